/-- both sides hold the same -/
def plI (S : plT) : Prop := (1 ≤ S.1 ∧ S.1 ≤ 4) ∧ (0 ≤ S.2.1 ∧ S.2.1 ≤ 5) ∧ (∀ i : Int, 0 ≤ S.2.2.1 i ∧ S.2.2.1 i ≤ 200) ∧ (∀ i : Int, 0 ≤ S.2.2.2.1 i ∧ S.2.2.2.1 i ≤ 6) ∧ (∀ i : Int, 0 ≤ S.2.2.2.2 i ∧ S.2.2.2.2 i ≤ 200) ∧ plOk S.2.1 S.2.2.2.2 ∧ plOk2 S.2.1 S.2.2.2.2
def mI (k : Int → Int) : Prop := mOk k ∧ mOk2 k ∧ (∀ b : Int, 0 ≤ b → b < k 1 → k (12 + b) ≤ 20 ∧ k (17 + b) ≤ 40) ∧ ∀ b : Int, 0 ≤ b → b < k 1 → k (32 + b) ≤ 12
def rP (S : plT) (k : Int → Int) : Prop := k 0 = S.1 ∧ k 1 = S.2.1 ∧ (∀ j : Int, 1 ≤ j → j ≤ 4 → k (2 + j) = S.2.2.1 j ∧ k (7 + j) = S.2.2.2.1 j) ∧ ∀ b w : Int, 0 ≤ b → b < S.2.1 → 0 ≤ w → w < 7 → k (12 + 5 * w + b) = S.2.2.2.2 (b * 7 + w)
def rel (S : plT) (k : Int → Int) : Prop := plI S ∧ mI k ∧ rP S k
theorem rel_eqR {S : plT} {k k' : Int → Int} (h : rel S k) (e : eqR k' k 47) : rel S k' := by
  obtain ⟨h1, ⟨⟨a1, a2, a3⟩, a4, a5, a6⟩, b1, b2, b3, b4⟩ := h
  have e0 := e 0 (by omega) (by omega)
  have e1 := e 1 (by omega) (by omega)
  refine ⟨h1, ⟨⟨by omega, by omega, fun i i0 i1 => by rw [e i i0 i1]; exact a3 i i0 i1⟩, fun d d0 d1 => by rw [e _ (by omega) (by omega)]; exact a4 d d0 d1, fun b c0 c1 => ?_, fun b c0 c1 => ?_⟩, by omega, by omega, fun j j0 j1 => ?_, fun b w c0 c1 w0 w1 => ?_⟩
  · rw [e _ (by omega) (by omega), e _ (by omega) (by omega)]; exact a5 b c0 (by omega)
  · rw [e _ (by omega) (by omega)]; exact a6 b c0 (by omega)
  · rw [e _ (by omega) (by omega), e _ (by omega) (by omega)]; exact b3 j j0 j1
  · have := h1.2.1
    rw [e _ (by omega) (by omega)]; exact b4 b w c0 c1 w0 w1
theorem zup_rng {f : Int → Int} {i v lo hi : Int} (h : ∀ j : Int, lo ≤ f j ∧ f j ≤ hi) (hv : lo ≤ v ∧ v ≤ hi) : ∀ j : Int, lo ≤ zup f i v j ∧ zup f i v j ≤ hi := fun j => by
  by_cases e : j = i
  · rw [e, zup_eq]; exact hv
  · rw [zup_ne e]; exact h j
theorem zup_rngR {f : Int → Int} {i v : Int} (h : ∀ j : Int, 0 ≤ j → j < 47 → 0 ≤ f j ∧ f j ≤ 200) (hv : 0 ≤ v ∧ v ≤ 200) : ∀ j : Int, 0 ≤ j → j < 47 → 0 ≤ zup f i v j ∧ zup f i v j ≤ 200 := fun j j0 j1 => by
  by_cases e : j = i
  · rw [e, zup_eq]; exact hv
  · rw [zup_ne e]; exact h j j0 j1
theorem zero5_rng {f : Int → Int} {hi : Int} (h0 : 0 ≤ hi) (h : ∀ j : Int, 0 ≤ f j ∧ f j ≤ hi) : ∀ j : Int, 0 ≤ zero5 f j ∧ zero5 f j ≤ hi := fun j => by
  unfold zero5
  split
  · omega
  · exact h j
/-- a term of a bond -/
theorem rel_term {pd pb : Int} {fP fR fT k : Int → Int} {b0 w0 v : Int} (h : rel (pd, pb, fP, fR, fT) k) (hb : 0 ≤ b0 ∧ b0 < pb) (hw : 2 ≤ w0 ∧ w0 < 7) (hv : 0 ≤ v ∧ v ≤ 200) (h4 : w0 = 4 → v ≤ 12) : rel (pd, pb, fP, fR, zup fT (b0 * 7 + w0) v) (zup k (12 + 5 * w0 + b0) v) := by
  obtain ⟨⟨p1, p2, p3, p4, p5, p6, p7⟩, ⟨⟨a1, a2, a3⟩, a4, a5, a6⟩, b1, b2, b3, b4⟩ := h
  dsimp only at p1 p2 p3 p4 p5 p6 p7 b1 b2 b3 b4
  have z0 : zup k (12 + 5 * w0 + b0) v 0 = k 0 := zup_ne (by omega)
  have z1 : zup k (12 + 5 * w0 + b0) v 1 = k 1 := zup_ne (by omega)
  refine ⟨⟨p1, p2, p3, p4, zup_rng p5 hv, fun b c0 c1 => ?_, fun b c0 c1 => ?_⟩, ⟨⟨by rw [z0]; exact a1, by rw [z1]; exact a2, zup_rngR a3 hv⟩, fun d d0 d1 => by rw [zup_ne (by omega)]; exact a4 d d0 d1, fun b c0 c1 => ?_, fun b c0 c1 => ?_⟩, by rw [z0]; exact b1, by rw [z1]; exact b2, fun j j0 j1 => ?_, fun b w c0 c1 w0' w1 => ?_⟩
  · show zup fT (b0 * 7 + w0) v (b * 7) ≤ 20 ∧ zup fT (b0 * 7 + w0) v (b * 7 + 1) ≤ 40
    rw [zup_ne (by omega), zup_ne (by omega)]; exact p6 b c0 c1
  · show zup fT (b0 * 7 + w0) v (b * 7 + 4) ≤ 12
    by_cases e : b * 7 + 4 = b0 * 7 + w0
    · rw [e, zup_eq]; exact h4 (by omega)
    · rw [zup_ne e]; exact p7 b c0 c1
  · rw [z1] at c1
    rw [zup_ne (by omega), zup_ne (by omega)]; exact a5 b c0 c1
  · rw [z1] at c1
    by_cases e : 32 + b = 12 + 5 * w0 + b0
    · rw [e, zup_eq]; exact h4 (by omega)
    · rw [zup_ne e]; exact a6 b c0 c1
  · rw [zup_ne (by omega), zup_ne (by omega)]; exact b3 j j0 j1
  · show zup k (12 + 5 * w0 + b0) v (12 + 5 * w + b) = zup fT (b0 * 7 + w0) v (b * 7 + w)
    have c1' : b < pb := c1
    by_cases e : b = b0 ∧ w = w0
    · rw [e.1, e.2, zup_eq, zup_eq]
    · rw [zup_ne (by omega), zup_ne (by omega)]; exact b4 b w c0 c1 w0' w1
theorem rel_dates {pd pb t : Int} {fP fR fT k : Int → Int} (h : rel (pd, pb, fP, fR, fT) k) (ht : 1 ≤ t ∧ t ≤ 4) : rel (t, 0, zero5 fP, zero5 fR, fT) (mDates t) := by
  obtain ⟨⟨p1, p2, p3, p4, p5, p6, p7⟩, -, -⟩ := h
  dsimp only at p1 p2 p3 p4 p5 p6 p7
  have m0 : mDates t 0 = t := if_pos rfl
  have mz : ∀ i : Int, i ≠ 0 → mDates t i = 0 := fun i hi => if_neg hi
  refine ⟨⟨ht, by show (0 : Int) ≤ 0 ∧ (0 : Int) ≤ 5; omega, zero5_rng (by omega) p3, zero5_rng (by omega) p4, p5, fun b c0 c1 => ?_, fun b c0 c1 => ?_⟩, ⟨⟨by rw [m0]; exact ht, by rw [mz 1 (by omega)]; omega, fun i i0 i1 => ?_⟩, fun d d0 d1 => by rw [mz _ (by omega)]; omega, fun b c0 c1 => ?_, fun b c0 c1 => ?_⟩, m0, mz 1 (by omega), fun j j0 j1 => ?_, fun b w c0 c1 w0 w1 => ?_⟩
  · have c1' : b < 0 := c1; omega
  · have c1' : b < 0 := c1; omega
  · by_cases e : i = 0
    · rw [e, m0]; omega
    · rw [mz i e]; omega
  · rw [mz 1 (by omega)] at c1; omega
  · rw [mz 1 (by omega)] at c1; omega
  · rw [mz _ (by omega), mz _ (by omega)]
    show (0 : Int) = zero5 fP j ∧ (0 : Int) = zero5 fR j
    unfold zero5
    rw [if_pos (by omega), if_pos (by omega)]; omega
  · have c1' : b < 0 := c1; omega
theorem rel_pay {pd pb d v : Int} {fP fR fT k : Int → Int} (h : rel (pd, pb, fP, fR, fT) k) (hd : 1 ≤ d ∧ d ≤ pd) (hv : 0 ≤ v ∧ v ≤ 200) : rel (pd, pb, zup fP d v, fR, fT) (zup k (2 + d) v) := by
  obtain ⟨⟨p1, p2, p3, p4, p5, p6, p7⟩, ⟨⟨a1, a2, a3⟩, a4, a5, a6⟩, b1, b2, b3, b4⟩ := h
  dsimp only at p1 p2 p3 p4 p5 p6 p7 b1 b2 b3 b4
  have z0 : zup k (2 + d) v 0 = k 0 := zup_ne (by omega)
  have z1 : zup k (2 + d) v 1 = k 1 := zup_ne (by omega)
  refine ⟨⟨p1, p2, zup_rng p3 hv, p4, p5, p6, p7⟩, ⟨⟨by rw [z0]; exact a1, by rw [z1]; exact a2, zup_rngR a3 hv⟩, fun e e0 e1 => by rw [zup_ne (by omega)]; exact a4 e e0 e1, fun b c0 c1 => ?_, fun b c0 c1 => ?_⟩, by rw [z0]; exact b1, by rw [z1]; exact b2, fun j j0 j1 => ?_, fun b w c0 c1 w0' w1 => ?_⟩
  · rw [z1] at c1; rw [zup_ne (by omega), zup_ne (by omega)]; exact a5 b c0 c1
  · rw [z1] at c1; rw [zup_ne (by omega)]; exact a6 b c0 c1
  · show zup k (2 + d) v (2 + j) = zup fP d v j ∧ zup k (2 + d) v (7 + j) = fR j
    rw [zup_ne (i := 2 + d) (j := 7 + j) (by omega)]
    by_cases e : j = d
    · rw [e, zup_eq, zup_eq]; exact ⟨rfl, (b3 d hd.1 (by omega)).2⟩
    · rw [zup_ne (by omega), zup_ne e]; exact b3 j j0 j1
  · rw [zup_ne (by omega)]; exact b4 b w c0 c1 w0' w1
theorem rel_rate {pd pb d v : Int} {fP fR fT k : Int → Int} (h : rel (pd, pb, fP, fR, fT) k) (hd : 1 ≤ d ∧ d ≤ pd) (hv : 0 ≤ v ∧ v ≤ 6) : rel (pd, pb, fP, zup fR d v, fT) (zup k (7 + d) v) := by
  obtain ⟨⟨p1, p2, p3, p4, p5, p6, p7⟩, ⟨⟨a1, a2, a3⟩, a4, a5, a6⟩, b1, b2, b3, b4⟩ := h
  dsimp only at p1 p2 p3 p4 p5 p6 p7 b1 b2 b3 b4
  have z0 : zup k (7 + d) v 0 = k 0 := zup_ne (by omega)
  have z1 : zup k (7 + d) v 1 = k 1 := zup_ne (by omega)
  refine ⟨⟨p1, p2, p3, zup_rng p4 hv, p5, p6, p7⟩, ⟨⟨by rw [z0]; exact a1, by rw [z1]; exact a2, zup_rngR a3 (by omega)⟩, fun e e0 e1 => ?_, fun b c0 c1 => ?_, fun b c0 c1 => ?_⟩, by rw [z0]; exact b1, by rw [z1]; exact b2, fun j j0 j1 => ?_, fun b w c0 c1 w0' w1 => ?_⟩
  · by_cases q : e = d
    · rw [q, zup_eq]; exact hv
    · rw [zup_ne (by omega)]; exact a4 e e0 e1
  · rw [z1] at c1; rw [zup_ne (by omega), zup_ne (by omega)]; exact a5 b c0 c1
  · rw [z1] at c1; rw [zup_ne (by omega)]; exact a6 b c0 c1
  · show zup k (7 + d) v (2 + j) = fP j ∧ zup k (7 + d) v (7 + j) = zup fR d v j
    rw [zup_ne (i := 7 + d) (j := 2 + j) (by omega)]
    by_cases e : j = d
    · rw [e, zup_eq, zup_eq]; exact ⟨(b3 d hd.1 (by omega)).1, rfl⟩
    · rw [zup_ne (by omega), zup_ne e]; exact b3 j j0 j1
  · rw [zup_ne (by omega)]; exact b4 b w c0 c1 w0' w1
theorem plNew_at {pb v1 v2 v3 v4 : Int} {fT : Int → Int} : plNew pb fT v1 v2 v3 v4 (pb * 7 + 0) = v1 ∧ plNew pb fT v1 v2 v3 v4 (pb * 7 + 1) = v2 ∧ plNew pb fT v1 v2 v3 v4 (pb * 7 + 2) = v3 ∧ plNew pb fT v1 v2 v3 v4 (pb * 7 + 3) = v4 ∧ plNew pb fT v1 v2 v3 v4 (pb * 7 + 4) = 10 ∧ plNew pb fT v1 v2 v3 v4 (pb * 7 + 5) = 0 ∧ plNew pb fT v1 v2 v3 v4 (pb * 7 + 6) = 0 ∧ ∀ i : Int, i < pb * 7 → plNew pb fT v1 v2 v3 v4 i = fT i := by
  unfold plNew
  refine ⟨?_, ?_, ?_, ?_, ?_, ?_, ?_, fun i hi => ?_⟩
  · repeat rw [zup_ne (by omega)]
    rw [zup_eq]
  · rw [zup_ne (by omega), zup_ne (by omega), zup_ne (by omega), zup_ne (by omega), zup_ne (by omega), zup_eq]
  · rw [zup_ne (by omega), zup_ne (by omega), zup_ne (by omega), zup_ne (by omega), zup_eq]
  · rw [zup_ne (by omega), zup_ne (by omega), zup_ne (by omega), zup_eq]
  · rw [zup_ne (by omega), zup_ne (by omega), zup_eq]
  · rw [zup_ne (by omega), zup_eq]
  · rw [zup_eq]
  · rw [zup_ne (by omega), zup_ne (by omega), zup_ne (by omega), zup_ne (by omega), zup_ne (by omega), zup_ne (by omega), zup_ne (by omega)]
theorem mLaid_at {v1 v2 v3 v4 : Int} {k : Int → Int} (h1 : 0 ≤ k 1 ∧ k 1 < 5) : mLaid k v1 v2 v3 v4 1 = k 1 + 1 ∧ mLaid k v1 v2 v3 v4 (12 + k 1) = v1 ∧ mLaid k v1 v2 v3 v4 (17 + k 1) = v2 ∧ mLaid k v1 v2 v3 v4 (22 + k 1) = v3 ∧ mLaid k v1 v2 v3 v4 (27 + k 1) = v4 ∧ mLaid k v1 v2 v3 v4 (32 + k 1) = 10 ∧ mLaid k v1 v2 v3 v4 (37 + k 1) = 0 ∧ mLaid k v1 v2 v3 v4 (42 + k 1) = 0 ∧ ∀ i : Int, i ≠ 1 → ¬ (12 ≤ i ∧ i < 47 ∧ (i - 12) % 5 = k 1) → mLaid k v1 v2 v3 v4 i = k i := by
  unfold mLaid
  refine ⟨?_, ?_, ?_, ?_, ?_, ?_, ?_, ?_, fun i hi hn => ?_⟩
  · rw [zup_eq]
  · rw [zup_ne (by omega), zup_ne (by omega), zup_ne (by omega), zup_ne (by omega), zup_ne (by omega), zup_ne (by omega), zup_ne (by omega), zup_eq]
  · rw [zup_ne (by omega), zup_ne (by omega), zup_ne (by omega), zup_ne (by omega), zup_ne (by omega), zup_ne (by omega), zup_eq]
  · rw [zup_ne (by omega), zup_ne (by omega), zup_ne (by omega), zup_ne (by omega), zup_ne (by omega), zup_eq]
  · rw [zup_ne (by omega), zup_ne (by omega), zup_ne (by omega), zup_ne (by omega), zup_eq]
  · rw [zup_ne (by omega), zup_ne (by omega), zup_ne (by omega), zup_eq]
  · rw [zup_ne (by omega), zup_ne (by omega), zup_eq]
  · rw [zup_ne (by omega), zup_eq]
  · rw [zup_ne (by omega), zup_ne (by omega), zup_ne (by omega), zup_ne (by omega), zup_ne (by omega), zup_ne (by omega), zup_ne (by omega), zup_ne (by omega)]
theorem rel_bond {pd pb v1 v2 v3 v4 : Int} {fP fR fT k : Int → Int} (h : rel (pd, pb, fP, fR, fT) k) (hb : pb ≠ 5) (h1 : 0 ≤ v1 ∧ v1 ≤ 20) (h2 : 1 ≤ v2 ∧ v2 ≤ 40) (h3 : 1 ≤ v3 ∧ v3 ≤ pd) (h4 : 1 ≤ v4 ∧ v4 ≤ 200) : rel (pd, pb + 1, fP, fR, plNew pb fT v1 v2 v3 v4) (mLaid k v1 v2 v3 v4) := by
  obtain ⟨⟨p1, p2, p3, p4, p5, p6, p7⟩, ⟨⟨a1, a2, a3⟩, a4, a5, a6⟩, b1, b2, b3, b4⟩ := h
  dsimp only at p1 p2 p3 p4 p5 p6 p7 b1 b2 b3 b4
  obtain ⟨n0, n1, n2, n3, n4, n5, n6, nn⟩ := plNew_at (pb := pb) (v1 := v1) (v2 := v2) (v3 := v3) (v4 := v4) (fT := fT)
  obtain ⟨m1, l0, l1, l2, l3, l4, l5, l6, ll⟩ := mLaid_at (v1 := v1) (v2 := v2) (v3 := v3) (v4 := v4) (k := k) (by omega)
  have z0 : mLaid k v1 v2 v3 v4 0 = k 0 := ll 0 (by omega) (by omega)
  have nw : ∀ w : Int, 0 ≤ w → w < 7 → mLaid k v1 v2 v3 v4 (12 + 5 * w + pb) = plNew pb fT v1 v2 v3 v4 (pb * 7 + w) := fun w w0 w1 => by
    rw [b2] at l0 l1 l2 l3 l4 l5 l6
    rcases (show w = 0 ∨ w = 1 ∨ w = 2 ∨ w = 3 ∨ w = 4 ∨ w = 5 ∨ w = 6 by omega) with e | e | e | e | e | e | e <;> subst e
    · rw [n0]; exact l0
    · rw [n1]; exact l1
    · rw [n2]; exact l2
    · rw [n3]; exact l3
    · rw [n4]; exact l4
    · rw [n5]; exact l5
    · rw [n6]; exact l6
  refine ⟨⟨p1, by show 0 ≤ pb + 1 ∧ pb + 1 ≤ 5; omega, p3, p4, ?_, fun b c0 c1 => ?_, fun b c0 c1 => ?_⟩, ⟨⟨by rw [z0]; exact a1, by rw [m1]; omega, ?_⟩, fun d d0 d1 => by rw [ll _ (by omega) (by omega)]; exact a4 d d0 d1, fun b c0 c1 => ?_, fun b c0 c1 => ?_⟩, by rw [z0]; exact b1, by rw [m1, b2], fun j j0 j1 => ?_, fun b w c0 c1 w0 w1 => ?_⟩
  · show ∀ i : Int, 0 ≤ plNew pb fT v1 v2 v3 v4 i ∧ plNew pb fT v1 v2 v3 v4 i ≤ 200
    unfold plNew
    exact zup_rng (zup_rng (zup_rng (zup_rng (zup_rng (zup_rng (zup_rng p5 (by omega)) (by omega)) (by omega)) (by omega)) (by omega)) (by omega)) (by omega)
  · show plNew pb fT v1 v2 v3 v4 (b * 7) ≤ 20 ∧ plNew pb fT v1 v2 v3 v4 (b * 7 + 1) ≤ 40
    have c1' : b < pb + 1 := c1
    by_cases e : b = pb
    · rw [e, ← Int.add_zero (pb * 7), n0, Int.add_zero, n1]; omega
    · rw [nn _ (by omega), nn _ (by omega)]; exact p6 b c0 (by omega)
  · show plNew pb fT v1 v2 v3 v4 (b * 7 + 4) ≤ 12
    have c1' : b < pb + 1 := c1
    by_cases e : b = pb
    · rw [e, n4]; omega
    · rw [nn _ (by omega)]; exact p7 b c0 (by omega)
  · unfold mLaid
    exact zup_rngR (zup_rngR (zup_rngR (zup_rngR (zup_rngR (zup_rngR (zup_rngR (zup_rngR a3 (by omega)) (by omega)) (by omega)) (by omega)) (by omega)) (by omega)) (by omega)) (by omega)
  · rw [m1] at c1
    by_cases e : b = k 1
    · rw [e, l0, l1]; omega
    · rw [ll _ (by omega) (by omega), ll _ (by omega) (by omega)]; exact a5 b c0 (by omega)
  · rw [m1] at c1
    by_cases e : b = k 1
    · rw [e, l4]; omega
    · rw [ll _ (by omega) (by omega)]; exact a6 b c0 (by omega)
  · rw [ll _ (by omega) (by omega), ll _ (by omega) (by omega)]; exact b3 j j0 j1
  · have c1' : b < pb + 1 := c1
    show mLaid k v1 v2 v3 v4 (12 + 5 * w + b) = plNew pb fT v1 v2 v3 v4 (b * 7 + w)
    by_cases e : b = pb
    · rw [e]; exact nw w w0 w1
    · rw [ll _ (by omega) (by omega), nn _ (by omega)]; exact b4 b w c0 (by show b < pb; omega) w0 w1
theorem rel_drop {pd pb b0 : Int} {fP fR fT gT k : Int → Int} (h : rel (pd, pb, fP, fR, fT) k) (hb : 0 ≤ b0 ∧ b0 < pb) (hg : ∀ i : Int, gT i = if b0 * 7 ≤ i ∧ i < 28 then fT (i + 7) else fT i) : rel (pd, pb - 1, fP, fR, gT) (mDrop k b0) := by
  obtain ⟨⟨p1, p2, p3, p4, p5, p6, p7⟩, ⟨⟨a1, a2, a3⟩, a4, a5, a6⟩, b1, b2, b3, b4⟩ := h
  dsimp only at p1 p2 p3 p4 p5 p6 p7 b1 b2 b3 b4
  have hc : ∀ b w : Int, 0 ≤ b → b < pb - 1 → 0 ≤ w → w < 7 → gT (b * 7 + w) = if b0 ≤ b then fT ((b + 1) * 7 + w) else fT (b * 7 + w) := fun b w c0 c1 w0 w1 => by
    rw [hg]
    by_cases q : b0 ≤ b
    · rw [if_pos (by omega), if_pos q, show b * 7 + w + 7 = (b + 1) * 7 + w by omega]
    · rw [if_neg (by omega), if_neg q]
  have m0 : mDrop k b0 0 = k 0 := by unfold mDrop; rw [if_neg (by omega), if_neg (by omega)]
  have m1 : mDrop k b0 1 = k 1 - 1 := by unfold mDrop; rw [if_pos rfl]
  have ml : ∀ i : Int, i ≠ 1 → i < 12 → mDrop k b0 i = k i := fun i h1 h2 => by unfold mDrop; rw [if_neg h1, if_neg (by omega)]
  have mm : ∀ b w : Int, 0 ≤ b → b < pb - 1 → 0 ≤ w → w < 7 → mDrop k b0 (12 + 5 * w + b) = if b0 ≤ b then k (12 + 5 * w + (b + 1)) else k (12 + 5 * w + b) := fun b w c0 c1 w0 w1 => by
    unfold mDrop
    rw [if_neg (by omega)]
    by_cases q : b0 ≤ b
    · rw [if_pos (by omega), if_pos q, show 12 + 5 * w + b + 1 = 12 + 5 * w + (b + 1) by omega]
    · rw [if_neg (by omega), if_neg q]
  refine ⟨⟨p1, by show 0 ≤ pb - 1 ∧ pb - 1 ≤ 5; omega, p3, p4, fun i => ?_, fun b c0 c1 => ?_, fun b c0 c1 => ?_⟩, ⟨⟨by rw [m0]; exact a1, by rw [m1]; omega, fun i i0 i1 => ?_⟩, fun d d0 d1 => by rw [ml _ (by omega) (by omega)]; exact a4 d d0 d1, fun b c0 c1 => ?_, fun b c0 c1 => ?_⟩, by rw [m0]; exact b1, by rw [m1, b2], fun j j0 j1 => ?_, fun b w c0 c1 w0 w1 => ?_⟩
  · show 0 ≤ gT i ∧ gT i ≤ 200
    rw [hg i]; split
    · exact p5 _
    · exact p5 _
  · have c1' : b < pb - 1 := c1
    show gT (b * 7) ≤ 20 ∧ gT (b * 7 + 1) ≤ 40
    have e0 := hc b 0 c0 c1' (by omega) (by omega)
    rw [Int.add_zero, Int.add_zero] at e0
    rw [e0, hc b 1 c0 c1' (by omega) (by omega)]
    by_cases q : b0 ≤ b
    · rw [if_pos q, if_pos q]; exact p6 (b + 1) (by omega) (by omega)
    · rw [if_neg q, if_neg q]; exact p6 b c0 (by omega)
  · have c1' : b < pb - 1 := c1
    show gT (b * 7 + 4) ≤ 12
    rw [hc b 4 c0 c1' (by omega) (by omega)]
    by_cases q : b0 ≤ b
    · rw [if_pos q]; exact p7 (b + 1) (by omega) (by omega)
    · rw [if_neg q]; exact p7 b c0 (by omega)
  · unfold mDrop
    split
    · omega
    · split
      · exact a3 _ (by omega) (by omega)
      · exact a3 i i0 i1
  · rw [m1] at c1
    have x0 := mm b 0 c0 (by omega) (by omega) (by omega)
    have x1 := mm b 1 c0 (by omega) (by omega) (by omega)
    rw [show 12 + 5 * 0 + b = 12 + b by omega, show 12 + 5 * 0 + (b + 1) = 12 + (b + 1) by omega] at x0
    rw [show 12 + 5 * 1 + b = 17 + b by omega, show 12 + 5 * 1 + (b + 1) = 17 + (b + 1) by omega] at x1
    rw [x0, x1]
    by_cases q : b0 ≤ b
    · rw [if_pos q, if_pos q]; exact a5 (b + 1) (by omega) (by omega)
    · rw [if_neg q, if_neg q]; exact a5 b c0 (by omega)
  · rw [m1] at c1
    have x0 := mm b 4 c0 (by omega) (by omega) (by omega)
    rw [show 12 + 5 * 4 + b = 32 + b by omega, show 12 + 5 * 4 + (b + 1) = 32 + (b + 1) by omega] at x0
    rw [x0]
    by_cases q : b0 ≤ b
    · rw [if_pos q]; exact a6 (b + 1) (by omega) (by omega)
    · rw [if_neg q]; exact a6 b c0 (by omega)
  · rw [ml _ (by omega) (by omega), ml _ (by omega) (by omega)]; exact b3 j j0 j1
  · have c1' : b < pb - 1 := c1
    show mDrop k b0 (12 + 5 * w + b) = gT (b * 7 + w)
    rw [mm b w c0 c1' w0 w1, hc b w c0 c1' w0 w1]
    by_cases q : b0 ≤ b
    · rw [if_pos q, if_pos q]; exact b4 (b + 1) w (by omega) (by show b + 1 < pb; omega) w0 w1
    · rw [if_neg q, if_neg q]; exact b4 b w c0 (by show b < pb; omega) w0 w1
theorem rel_take {pd pb : Int} {fP fR fT gF gM k C C' : Int → Int} (h : rel (pd, pb, fP, fR, fT) k) (hC : ∀ b : Int, 0 ≤ b → b < pb → (0 ≤ C b ∧ C b ≤ 200) ∧ C' b = C b) (hF : ∀ i : Int, gF i = plTake pb fT C i) (hM : ∀ i : Int, gM i = mTake (k 1) k C' i) : rel (pd, pb, fP, fR, gF) gM := by
  obtain ⟨⟨p1, p2, p3, p4, p5, p6, p7⟩, ⟨⟨a1, a2, a3⟩, a4, a5, a6⟩, b1, b2, b3, b4⟩ := h
  dsimp only at p1 p2 p3 p4 p5 p6 p7 b1 b2 b3 b4
  have g0 : ∀ b w : Int, 0 ≤ b → b < pb → 0 ≤ w → w < 6 → gF (b * 7 + w) = fT (b * 7 + w) := fun b w c0 c1 w0 w1 => by rw [hF]; unfold plTake; rw [if_neg (by omega)]
  have g6 : ∀ b : Int, 0 ≤ b → b < pb → gF (b * 7 + 6) = C b := fun b c0 c1 => by rw [hF]; unfold plTake; rw [if_pos (by omega), show (b * 7 + 6) / 7 = b by omega]
  have k0 : ∀ i : Int, i < 42 → gM i = k i := fun i hi => by rw [hM]; unfold mTake; rw [if_neg (by omega)]
  have k6 : ∀ b : Int, 0 ≤ b → b < pb → gM (42 + b) = C' b := fun b c0 c1 => by rw [hM]; unfold mTake; rw [if_pos (by omega), show 42 + b - 42 = b by omega]
  refine ⟨⟨p1, p2, p3, p4, fun i => ?_, fun b c0 c1 => ?_, fun b c0 c1 => ?_⟩, ⟨⟨by rw [k0 0 (by omega)]; exact a1, by rw [k0 1 (by omega)]; exact a2, fun i i0 i1 => ?_⟩, fun d d0 d1 => by rw [k0 _ (by omega)]; exact a4 d d0 d1, fun b c0 c1 => ?_, fun b c0 c1 => ?_⟩, by rw [k0 0 (by omega)]; exact b1, by rw [k0 1 (by omega)]; exact b2, fun j j0 j1 => ?_, fun b w c0 c1 w0 w1 => ?_⟩
  · show 0 ≤ gF i ∧ gF i ≤ 200
    rw [hF]; unfold plTake
    split
    · rename_i q; exact (hC (i / 7) (by omega) q.2.2).1
    · exact p5 i
  · have c1' : b < pb := c1
    show gF (b * 7) ≤ 20 ∧ gF (b * 7 + 1) ≤ 40
    have e0 := g0 b 0 c0 c1' (by omega) (by omega)
    rw [Int.add_zero] at e0
    rw [e0, g0 b 1 c0 c1' (by omega) (by omega)]; exact p6 b c0 c1'
  · show gF (b * 7 + 4) ≤ 12
    rw [g0 b 4 c0 c1 (by omega) (by omega)]; exact p7 b c0 c1
  · rw [hM]; unfold mTake
    split
    · rename_i q
      have := hC (i - 42) (by omega) (by omega)
      rw [this.2]; exact this.1
    · exact a3 i i0 i1
  · rw [k0 1 (by omega)] at c1; rw [k0 _ (by omega), k0 _ (by omega)]; exact a5 b c0 c1
  · rw [k0 1 (by omega)] at c1; rw [k0 _ (by omega)]; exact a6 b c0 c1
  · rw [k0 _ (by omega), k0 _ (by omega)]; exact b3 j j0 j1
  · have c1' : b < pb := c1
    show gM (12 + 5 * w + b) = gF (b * 7 + w)
    by_cases q : w = 6
    · rw [q, g6 b c0 c1', show 12 + 5 * 6 + b = 42 + b by omega, k6 b c0 c1']; exact (hC b c0 c1').2
    · rw [g0 b w c0 c1' w0 (by omega), k0 _ (by omega)]; exact b4 b w c0 c1 w0 w1
theorem rel_op {f : Int → Int} {n a : Int} {S : plT} {k : Int → Int} (h : rel S k) (ho : stOk f n S.1 S.2.1 a) : rel (opC (sK f n a) (sA f n a 0) (sA f n a 1) (sA f n a 2) (sA f n a 3) S) (opM (sK f n a) (sA f n a 0) (sA f n a 1) (sA f n a 2) (sA f n a 3) k) := by
  obtain ⟨pd, pb, fP, fR, fT⟩ := S
  obtain ⟨hk, h0, h1, h2, h3, h4⟩ := st_args ho
  generalize sK f n a = kk at *
  rcases hk with e | e | e | e | e <;> subst e
  · exact rel_dates h (h0 rfl)
  · exact rel_pay h (h1 rfl).1 (h1 rfl).2
  · exact rel_rate h (h2 rfl).1 (h2 rfl).2
  · obtain ⟨q1, q2, q3, q4, q5⟩ := h3 rfl
    exact rel_bond h q1 q2 q3 q4 q5
  · obtain ⟨q1, q2⟩ := h4 rfl
    have := rel_term (b0 := sA f n a 0) (w0 := 4) (v := sA f n a 1) h ⟨q1.1, by have := q1.2; dsimp only at this; omega⟩ (by omega) (by omega) (fun _ => q2.2)
    rw [show 12 + 5 * 4 + sA f n a 0 = 32 + sA f n a 0 by omega] at this
    exact this
/-- both read the same text -/
theorem rel_seq {f : Int → Int} {n : Int} {S : plT} {k : Int → Int} (h : rel S k) : ∀ j : Nat, (∀ i : Nat, i < j → okN f n S i ∨ okM f n k i) → rel (clN f n S j).2 (moN f n k j).2 ∧ (clN f n S j).1 = (moN f n k j).1 := by
  intro j
  induction j with
  | zero => intro _; exact ⟨h, rfl⟩
  | succ j ih =>
    intro hj
    obtain ⟨a, b⟩ := ih (fun i hi => hj i (by omega))
    have ho : stOk f n (clN f n S j).2.1 (clN f n S j).2.2.1 (clN f n S j).1 := by
      rcases hj j (by omega) with q | q
      · exact q.2
      · have := q.2
        rw [a.2.2.1, a.2.2.2.1, ← b] at this
        exact this
    refine ⟨?_, ?_⟩
    · show rel (opC _ _ _ _ _ (clN f n S j).2) (opM _ _ _ _ _ (moN f n k j).2)
      rw [← b]
      exact rel_op a ho
    · show sR f n (clN f n S j).1 + 1 = sR f n (moN f n k j).1 + 1
      rw [b]
theorem tell_same {f : Int → Int} {n q w b w' sc : Int} {S S' : plT} {k D' : Int → Int} (h : rel S k) (h1 : tellQ f n S q w S') (h2 : tellM f n k b w' sc D') : w = w' ∧ ((b = 1 ∧ q = sc ∧ 0 ≤ q ∧ rel S' D') ∨ (b = 0 ∧ q = -1)) ∧ plI S' := by
  obtain ⟨j, a1, a2, a3⟩ := h1
  obtain ⟨i, c1, c2⟩ := h2
  have key : i = j := by
    rcases Nat.lt_trichotomy i j with q | q | q
    · exfalso
      obtain ⟨r1, r2⟩ := rel_seq h i (fun x hx => Or.inr (c1 x hx))
      have o := a1 i q
      rcases c2 with ⟨d1, -⟩ | ⟨-, d2, -⟩
      · rw [← r2] at d1; exact d1 o.1
      · rw [r1.2.2.1, r1.2.2.2.1, ← r2] at d2
        exact stOk_Wr o.2 d2
    · exact q
    · exfalso
      obtain ⟨r1, r2⟩ := rel_seq h j (fun x hx => Or.inl (a1 x hx))
      have o := c1 j q
      rcases a3 with ⟨d1, -⟩ | ⟨-, d2, -⟩
      · rw [r2] at d1; exact d1 o.1
      · have o2 := o.2
        rw [r1.2.2.1, r1.2.2.2.1, ← r2] at o2
        exact stOk_Wr o2 d2
  subst key
  obtain ⟨r1, r2⟩ := rel_seq h i (fun x hx => Or.inr (c1 x hx))
  refine ⟨?_, ?_, by rw [a2]; exact r1.1⟩
  · rcases a3 with ⟨d1, d2, d3⟩ | ⟨d1, d2, d3⟩ <;> rcases c2 with ⟨e1, e2, e3, e4, e5⟩ | ⟨e1, e2, e3⟩
    · omega
    · rw [r2] at d1; exact absurd e1 d1
    · rw [r2] at d1; exact absurd d1 e1
    · rw [r1.2.2.1, r1.2.2.2.1, ← r2] at e2
      exact sWr_uniq d2 e2
  · rcases a3 with ⟨d1, d2, d3⟩ | ⟨d1, d2, d3⟩ <;> rcases c2 with ⟨e1, e2, e3, e4, e5⟩ | ⟨e1, e2, e3⟩
    · exact Or.inl ⟨e2, by omega, by omega, by rw [a2]; exact rel_eqR r1 e5⟩
    · rw [r2] at d1; exact absurd e1 d1
    · rw [r2] at d1; exact absurd d1 e1
    · exact Or.inr ⟨e3, d3⟩
