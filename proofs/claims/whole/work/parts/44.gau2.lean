/-- two rows change places -/
def sig (i k r : Int) : Int := if r = i then k else if r = k then i else r
theorem sig_sig (i k r : Int) : sig i k (sig i k r) = r := by
  unfold sig
  repeat' split
  all_goals omega
theorem sig_rng {i k r n : Int} (hi : 0 ≤ i ∧ i < n) (hk : 0 ≤ k ∧ k < n) (hr : 0 ≤ r ∧ r < n) : 0 ≤ sig i k r ∧ sig i k r < n := by
  unfold sig
  repeat' split
  all_goals omega
theorem swp_sig (f : Int → Int → Int) (i k n r c : Int) (hc : 0 ≤ c ∧ c < n) : swp f i k n r c = f (sig i k r) c := by
  unfold swp sig
  rw [if_pos hc]
  split
  · rfl
  · split <;> rfl
def swr (i k : Int) (u : Int → Int) : Int → Int := fun r => u (sig i k r)
theorem e3_congr {i : Int} {u v w u' v' w' : Int → Int} (hu : ∀ r : Int, r = 0 ∨ r = 1 ∨ r = i → u r = u' r) (hv : ∀ r : Int, r = 0 ∨ r = 1 ∨ r = i → v r = v' r) (hw : ∀ r : Int, r = 0 ∨ r = 1 ∨ r = i → w r = w' r) : e3 i u v w = e3 i u' v' w' := by
  unfold e3
  rw [hu 0 (by omega), hu 1 (by omega), hu i (by omega), hv 0 (by omega), hv 1 (by omega), hv i (by omega), hw 0 (by omega), hw 1 (by omega), hw i (by omega)]
theorem d4_congr {u v w x u' v' w' x' : Int → Int} (hu : ∀ r : Int, 0 ≤ r → r < 4 → u r = u' r) (hv : ∀ r : Int, 0 ≤ r → r < 4 → v r = v' r) (hw : ∀ r : Int, 0 ≤ r → r < 4 → w r = w' r) (hx : ∀ r : Int, 0 ≤ r → r < 4 → x r = x' r) : d4 u v w x = d4 u' v' w' x' := by
  simp only [d4, two, show (0 : Int) + 1 = 1 by rfl, show (2 : Int) + 1 = 3 by rfl]
  rw [hu 0 (by omega) (by omega), hu 1 (by omega) (by omega), hu 2 (by omega) (by omega), hu 3 (by omega) (by omega), hv 0 (by omega) (by omega), hv 1 (by omega) (by omega), hv 2 (by omega) (by omega), hv 3 (by omega) (by omega), hw 0 (by omega) (by omega), hw 1 (by omega) (by omega), hw 2 (by omega) (by omega), hw 3 (by omega) (by omega), hx 0 (by omega) (by omega), hx 1 (by omega) (by omega), hx 2 (by omega) (by omega), hx 3 (by omega) (by omega)]
theorem d4_swr (u v w x : Int → Int) {i k : Int} (hk : 0 ≤ k) (hki : k < i) (hi : i < 4) : d4 (swr i k u) (swr i k v) (swr i k w) (swr i k x) = -d4 u v w x := by
  rcases (show (k = 0 ∧ i = 1) ∨ (k = 0 ∧ i = 2) ∨ (k = 0 ∧ i = 3) ∨ (k = 1 ∧ i = 2) ∨ (k = 1 ∧ i = 3) ∨ (k = 2 ∧ i = 3) by omega) with ⟨rfl, rfl⟩ | ⟨rfl, rfl⟩ | ⟨rfl, rfl⟩ | ⟨rfl, rfl⟩ | ⟨rfl, rfl⟩ | ⟨rfl, rfl⟩ <;>
    (simp only [d4, two, swr, sig, show (0 : Int) + 1 = 1 by rfl, show (2 : Int) + 1 = 3 by rfl, show ¬ (0 : Int) = 1 by omega, show ¬ (0 : Int) = 2 by omega, show ¬ (0 : Int) = 3 by omega, show ¬ (1 : Int) = 0 by omega, show ¬ (1 : Int) = 2 by omega, show ¬ (1 : Int) = 3 by omega, show ¬ (2 : Int) = 0 by omega, show ¬ (2 : Int) = 1 by omega, show ¬ (2 : Int) = 3 by omega, show ¬ (3 : Int) = 0 by omega, show ¬ (3 : Int) = 1 by omega, show ¬ (3 : Int) = 2 by omega, if_true, if_false]; grind)
theorem d3_swr (u v w : Int → Int) {i k : Int} (hk : 0 ≤ k) (hki : k < i) (hi : i < 3) : d3 (swr i k u) (swr i k v) (swr i k w) = -d3 u v w := by
  rcases (show (k = 0 ∧ i = 1) ∨ (k = 0 ∧ i = 2) ∨ (k = 1 ∧ i = 2) by omega) with ⟨rfl, rfl⟩ | ⟨rfl, rfl⟩ | ⟨rfl, rfl⟩ <;>
    (simp only [d3, e3, swr, sig, show ¬ (0 : Int) = 1 by omega, show ¬ (0 : Int) = 2 by omega, show ¬ (1 : Int) = 0 by omega, show ¬ (1 : Int) = 2 by omega, show ¬ (2 : Int) = 0 by omega, show ¬ (2 : Int) = 1 by omega, if_true, if_false]; grind)
theorem sq4_swr (u : Int → Int) {i k : Int} (hk : 0 ≤ k) (hki : k < i) (hi : i < 4) : sq4 (swr i k u) = sq4 u := by
  rcases (show (k = 0 ∧ i = 1) ∨ (k = 0 ∧ i = 2) ∨ (k = 0 ∧ i = 3) ∨ (k = 1 ∧ i = 2) ∨ (k = 1 ∧ i = 3) ∨ (k = 2 ∧ i = 3) by omega) with ⟨rfl, rfl⟩ | ⟨rfl, rfl⟩ | ⟨rfl, rfl⟩ | ⟨rfl, rfl⟩ | ⟨rfl, rfl⟩ | ⟨rfl, rfl⟩ <;>
    (simp only [sq4, swr, sig, show ¬ (0 : Int) = 1 by omega, show ¬ (0 : Int) = 2 by omega, show ¬ (0 : Int) = 3 by omega, show ¬ (1 : Int) = 0 by omega, show ¬ (1 : Int) = 2 by omega, show ¬ (1 : Int) = 3 by omega, show ¬ (2 : Int) = 0 by omega, show ¬ (2 : Int) = 1 by omega, show ¬ (2 : Int) = 3 by omega, show ¬ (3 : Int) = 0 by omega, show ¬ (3 : Int) = 1 by omega, show ¬ (3 : Int) = 2 by omega, if_true, if_false]; omega)
theorem FK_sig {a b : Int → Int → Int} {i k n r c : Int} (hb : ∀ q x : Int, 0 ≤ x → x < n → b q x = a (sig i k q) x) (h0 : 0 ≤ k) (hki : k ≤ i) (hi : i < 4) (hn : k ≤ n) (hr : 0 ≤ r) (hr4 : r < 4) (hc : 0 ≤ c ∧ c < n) : FK k b r c = FK k a (sig i k r) c := by
  have low : ∀ q x : Int, 0 ≤ q → q < k → 0 ≤ x → x < n → b q x = a q x := fun q x q0 q1 x0 x1 => by
    rw [hb q x x0 x1]; unfold sig; rw [if_neg (by omega), if_neg (by omega)]
  have hs : r < k → sig i k r = r := fun q => by unfold sig; rw [if_neg (by omega), if_neg (by omega)]
  have hs2 : k ≤ r → k ≤ sig i k r ∧ sig i k r < 4 := fun q => by unfold sig; repeat' split
                                                                  all_goals omega
  rcases (show k = 0 ∨ k = 1 ∨ k = 2 ∨ k = 3 by omega) with rfl | rfl | rfl | rfl
  · rw [FK0, FK0]; exact hb r c hc.1 hc.2
  · rw [FK1, FK1]
    by_cases e : r = 0
    · rw [if_pos e, hs (by omega), if_pos e]; exact low 0 c (by omega) (by omega) hc.1 hc.2
    · have := hs2 (by omega)
      rw [if_neg e, if_neg (by omega)]
      unfold e2 cl
      rw [low 0 0 (by omega) (by omega) (by omega) (by omega), low 0 c (by omega) (by omega) hc.1 hc.2, hb r c hc.1 hc.2, hb r 0 (by omega) (by omega)]
  · rw [FK2, FK2]
    by_cases e : r = 0
    · rw [if_pos e, hs (by omega), if_pos e]
      unfold d2 cl
      rw [low 0 c (by omega) (by omega) hc.1 hc.2, low 1 c (by omega) (by omega) hc.1 hc.2, low 0 1 (by omega) (by omega) (by omega) (by omega), low 1 1 (by omega) (by omega) (by omega) (by omega)]
    · by_cases e1 : r = 1
      · rw [if_neg e, if_pos e1, hs (by omega), if_neg e, if_pos e1]
        unfold d2 cl
        rw [low 0 c (by omega) (by omega) hc.1 hc.2, low 1 c (by omega) (by omega) hc.1 hc.2, low 0 0 (by omega) (by omega) (by omega) (by omega), low 1 0 (by omega) (by omega) (by omega) (by omega)]
      · have := hs2 (by omega)
        rw [if_neg e, if_neg e1, if_neg (by omega), if_neg (by omega)]
        unfold e3 cl
        rw [low 0 c (by omega) (by omega) hc.1 hc.2, low 1 c (by omega) (by omega) hc.1 hc.2, hb r c hc.1 hc.2, low 0 0 (by omega) (by omega) (by omega) (by omega), low 1 0 (by omega) (by omega) (by omega) (by omega), hb r 0 (by omega) (by omega), low 0 1 (by omega) (by omega) (by omega) (by omega), low 1 1 (by omega) (by omega) (by omega) (by omega), hb r 1 (by omega) (by omega)]
  · have hid : ∀ q : Int, sig i 3 q = q := fun q => by unfold sig; repeat' split
                                                       all_goals omega
    rw [hid]
    have eqc : ∀ x : Int, 0 ≤ x → x < n → ∀ q : Int, cl b x q = cl a x q := fun x x0 x1 q => by show b q x = a q x; rw [hb q x x0 x1, hid]
    have ec : ∀ x : Int, 0 ≤ x → x < n → cl b x = cl a x := fun x x0 x1 => funext (eqc x x0 x1)
    rw [FK3, FK3, ec c hc.1 hc.2, ec 0 (by omega) (by omega), ec 1 (by omega) (by omega), ec 2 (by omega) (by omega)]
/-- the leading minors do not see the rows below -/
theorem mK_low {a b : Int → Int → Int} {k n : Int} (hb : ∀ q x : Int, 0 ≤ q → q < k → 0 ≤ x → x < n → b q x = a q x) (h0 : 0 ≤ k) (h4 : k ≤ 3) (hn : k ≤ n) : mK k b = mK k a := by
  rcases (show k = 0 ∨ k = 1 ∨ k = 2 ∨ k = 3 by omega) with rfl | rfl | rfl | rfl
  · rw [mK0, mK0]
  · rw [mK1, mK1]; exact hb 0 0 (by omega) (by omega) (by omega) (by omega)
  · rw [mK2, mK2]; unfold d2 cl
    rw [hb 0 0 (by omega) (by omega) (by omega) (by omega), hb 1 1 (by omega) (by omega) (by omega) (by omega), hb 1 0 (by omega) (by omega) (by omega) (by omega), hb 0 1 (by omega) (by omega) (by omega) (by omega)]
  · rw [mK3, mK3]; unfold d3
    exact e3_congr (fun r h => hb r 0 (by omega) (by omega) (by omega) (by omega)) (fun r h => hb r 1 (by omega) (by omega) (by omega) (by omega)) (fun r h => hb r 2 (by omega) (by omega) (by omega) (by omega))
theorem mK_sig {a b : Int → Int → Int} {i k T n : Int} (hb : ∀ q x : Int, 0 ≤ x → x < n → b q x = a (sig i k q) x) (h0 : 0 ≤ k) (hki : k < i) (hi : i < T) (h4 : T ≤ 4) (hn : T ≤ n) : mK T b = -mK T a := by
  have ec : ∀ x : Int, 0 ≤ x → x < n → cl b x = swr i k (cl a x) := fun x x0 x1 => funext (fun q => hb q x x0 x1)
  rcases (show T = 2 ∨ T = 3 ∨ T = 4 by omega) with rfl | rfl | rfl
  · rw [mK2, mK2, ec 0 (by omega) (by omega), ec 1 (by omega) (by omega), show k = 0 by omega, show i = 1 by omega]
    simp only [d2, swr, sig, show ¬ (0 : Int) = 1 by omega, if_true, if_false]
    omega
  · rw [mK3, mK3, ec 0 (by omega) (by omega), ec 1 (by omega) (by omega), ec 2 (by omega) (by omega)]
    exact d3_swr _ _ _ h0 hki hi
  · rw [mK4, mK4, ec 0 (by omega) (by omega), ec 1 (by omega) (by omega), ec 2 (by omega) (by omega), ec 3 (by omega) (by omega)]
    exact d4_swr _ _ _ _ h0 hki hi
/-- the elimination, k columns done: a is O with its rows in another order, M what the machine has -/
def gau (T : Int) (O : Int → Int → Int) (k : Int) (a M : Int → Int → Int) (pv : Int) : Prop :=
  (pv = mK k a ∧ ¬ pv = 0) ∧ (∀ i j : Int, 0 ≤ i → i < T → k ≤ j → j < 2 * T → M i j = FK k a i j) ∧ (∀ r c : Int, (-60 ≤ a r c ∧ a r c ≤ 60) ∧ (T ≤ c → -1 ≤ a r c ∧ a r c ≤ 1)) ∧ (∀ q : Int, 0 ≤ q → q < T → ∃ r : Int, 0 ≤ r ∧ r < T ∧ ∀ c : Int, 0 ≤ c → c < 2 * T → a r c = O q c) ∧ (mK T a = mK T O ∨ mK T a = -mK T O) ∧ (T = 4 → ∀ c : Int, 0 ≤ c → c < 8 → sq4 (cl a c) = sq4 (cl O c))
theorem gau_0 {T : Int} {O M : Int → Int → Int} (hM : ∀ i j : Int, 0 ≤ i → i < T → 0 ≤ j → j < 2 * T → M i j = O i j) (hO : ∀ r c : Int, (-60 ≤ O r c ∧ O r c ≤ 60) ∧ (T ≤ c → -1 ≤ O r c ∧ O r c ≤ 1)) : gau T O 0 O M 1 :=
  ⟨⟨(mK0 O).symm, by omega⟩, fun i j a b c d => by rw [FK0]; exact hM i j a b c d, hO, fun q a b => ⟨q, a, b, fun _ _ _ => rfl⟩, Or.inl rfl, fun _ _ _ _ => rfl⟩
theorem gau_swap {T k i pv : Int} {O a M : Int → Int → Int} (h : gau T O k a M pv) (h0 : 0 ≤ k) (hki : k ≤ i) (hi : i < T) (h4 : T ≤ 4) : gau T O k (swp a i k (2 * T)) (swp M i k (2 * T)) pv := by
  obtain ⟨⟨h1, h1b⟩, h2, h3, h5, h6, h7⟩ := h
  have hb : ∀ q x : Int, 0 ≤ x → x < 2 * T → swp a i k (2 * T) q x = a (sig i k q) x := fun q x x0 x1 => swp_sig a i k (2 * T) q x ⟨x0, x1⟩
  refine ⟨⟨?_, h1b⟩, fun r c r0 r1 c0 c1 => ?_, fun r c => ?_, fun q q0 q1 => ?_, ?_, fun hT c c0 c1 => ?_⟩
  · rw [h1]
    refine (mK_low (n := 2 * T) (fun q x q0 q1 x0 x1 => ?_) h0 (by omega) (by omega)).symm
    rw [hb q x x0 x1]; unfold sig; rw [if_neg (by omega), if_neg (by omega)]
  · have hs := sig_rng (i := i) (k := k) (r := r) (n := T) ⟨by omega, hi⟩ ⟨h0, by omega⟩ ⟨r0, r1⟩
    rw [swp_sig M i k (2 * T) r c ⟨by omega, c1⟩, FK_sig hb h0 hki (by omega) (by omega) r0 (by omega) ⟨by omega, c1⟩, h2 _ c hs.1 hs.2 c0 c1]
  · unfold swp
    repeat' split
    all_goals exact h3 _ _
  · obtain ⟨r, r0, r1, hr⟩ := h5 q q0 q1
    have hs := sig_rng (i := i) (k := k) (r := r) (n := T) ⟨by omega, hi⟩ ⟨h0, by omega⟩ ⟨r0, r1⟩
    exact ⟨sig i k r, hs.1, hs.2, fun c c0 c1 => by rw [hb _ c c0 c1, sig_sig]; exact hr c c0 c1⟩
  · by_cases e : i = k
    · have : swp a i k (2 * T) = a := by rw [e]; exact (swp_self a k (2 * T)).symm
      rw [this]; exact h6
    · have := mK_sig hb h0 (by omega) hi h4 (by omega)
      rw [this]
      rcases h6 with h6 | h6
      · exact Or.inr (by rw [h6])
      · exact Or.inl (by rw [h6]; omega)
  · rw [← h7 hT c c0 c1]
    by_cases e : i = k
    · have : swp a i k (2 * T) = a := by rw [e]; exact (swp_self a k (2 * T)).symm
      rw [this]
    · have ec : cl (swp a i k (2 * T)) c = swr i k (cl a c) := funext (fun q => hb q c c0 (by omega))
      rw [ec]
      exact sq4_swr _ h0 (by omega) (by omega)
theorem gau_rng {T k pv : Int} {O a M : Int → Int → Int} (h : gau T O k a M pv) (h0 : 0 ≤ k) (hk : k ≤ T) (h4 : T ≤ 4) {i j : Int} (i0 : 0 ≤ i) (i1 : i < T) (j0 : k ≤ j) (j1 : j < 2 * T) : -311040000 ≤ M i j ∧ M i j ≤ 311040000 := by
  rw [h.2.1 i j i0 i1 j0 j1]
  exact FK_rng (fun r c _ _ _ => (h.2.2.1 r c).1) h0 (by omega) i0 (by omega)
theorem gau_clear {T k pv : Int} {O a M : Int → Int → Int} (h : gau T O k a M pv) (h0 : 0 ≤ k) (hk : k < T) (h4 : T ≤ 4) (hp : ¬ M k k = 0) : gau T O (k + 1) a (clr M (FK (k + 1) a) k (2 * T) T (k + 1)) (M k k) := by
  obtain ⟨⟨h1, h1b⟩, h2, h3⟩ := h
  have e := h2 k k h0 hk (Int.le_refl _) (by omega)
  refine ⟨⟨?_, hp⟩, fun r c r0 r1 c0 c1 => ?_, h3⟩
  · rw [e]; exact FK_piv a h0 (by omega)
  · unfold clr
    by_cases q : r = k
    · rw [if_neg (by omega), h2 r c r0 r1 (by omega) c1, q]
      exact (FK_row a h0 (by omega) c).symm
    · rw [if_pos (by omega)]
theorem gau_syl {T k pv : Int} {O a M : Int → Int → Int} (h : gau T O k a M pv) (h0 : 0 ≤ k) (hk : k < T) (h4 : T ≤ 4) {r c : Int} (r0 : 0 ≤ r) (r1 : r < T) (hr : ¬ r = k) (c0 : k < c) (c1 : c < 2 * T) : M k k * M r c - M r k * M k c = pv * FK (k + 1) a r c := by
  obtain ⟨⟨h1, h1b⟩, h2, h3⟩ := h
  rw [h2 k k h0 hk (by omega) (by omega), h2 r c r0 r1 (by omega) c1, h2 r k r0 r1 (by omega) (by omega), h2 k c h0 hk (by omega) c1, h1]
  exact FK_syl a h0 (by omega) r0 (by omega) hr c
/-- at the end: the inverse, times the determinant -/
theorem gau_end {T pv : Int} {O a M : Int → Int → Int} (h : gau T O T a M pv) (h1 : 1 ≤ T) (h4 : T ≤ 4) {q j : Int} (q0 : 0 ≤ q) (q1 : q < T) (j0 : T ≤ j) (j1 : j < 2 * T) : zsum (fun i => O q i * M i j) T = pv * O q j := by
  obtain ⟨⟨h2, -⟩, h3, -, h5, -⟩ := h
  obtain ⟨r, r0, r1, hr⟩ := h5 q q0 q1
  have := FK_cr a h1 h4 r0 r1 j
  rw [← h2, hr j (by omega) j1] at this
  rw [← this]
  refine zsum_congr (fun i i0 i1 => ?_)
  show O q i * M i j = a r i * FK T a i j
  rw [hr i i0 (by omega), h3 i j i0 i1 j0 j1]
theorem gau_det {T pv : Int} {O a M : Int → Int → Int} (h : gau T O T a M pv) : ¬ mK T O = 0 := by
  obtain ⟨⟨h2, h2b⟩, -, -, -, h6, -⟩ := h
  intro q
  rcases h6 with h6 | h6 <;> (rw [q] at h6; omega)
theorem gau_none {T k pv : Int} {O a M : Int → Int → Int} (h : gau T O k a M pv) (h0 : 0 ≤ k) (hk : k < T) (h4 : T ≤ 4) (hz : ∀ i : Int, k ≤ i → i < T → M i k = 0) : mK T O = 0 := by
  obtain ⟨⟨h1, h1b⟩, h2, -, -, h6, -⟩ := h
  have := FK_none (a := a) h0 hk h4 (by rw [← h1]; exact h1b) (fun i i0 i1 => by rw [← h2 i k (by omega) i1 (Int.le_refl _) (by omega)]; exact hz i i0 i1)
  rcases h6 with h6 | h6 <;> (rw [this] at h6; omega)
/-- the bounds at the end -/
theorem root_le {x A : Int} (hA : 0 ≤ A) (h : x * x ≤ A * A) : -A ≤ x ∧ x ≤ A := by
  constructor
  · refine Int.not_lt.mp (fun q => ?_)
    have h1 : (A + 1) * (A + 1) ≤ -x * -x := Int.mul_le_mul (by omega) (by omega) (by omega) (by omega)
    rw [Int.neg_mul_neg] at h1
    have : (A + 1) * (A + 1) = A * A + 2 * A + 1 := by grind
    omega
  · refine Int.not_lt.mp (fun q => ?_)
    have h1 : (A + 1) * (A + 1) ≤ x * x := Int.mul_le_mul (by omega) (by omega) (by omega) (by omega)
    have : (A + 1) * (A + 1) = A * A + 2 * A + 1 := by grind
    omega
theorem gau_bd {T pv : Int} {O a M : Int → Int → Int} (h : gau T O T a M pv) (h1 : 1 ≤ T) (h4 : T ≤ 4) (hq : T = 4 → ∀ c : Int, 0 ≤ c → c < 4 → sq4 (cl O c) ≤ 4800) (hq1 : T = 4 → ∀ c : Int, 4 ≤ c → c < 8 → sq4 (cl O c) ≤ 1) : (-23040000 ≤ pv ∧ pv ≤ 23040000) ∧ ∀ i j : Int, 0 ≤ i → i < T → T ≤ j → j < 2 * T → -332554 ≤ M i j ∧ M i j ≤ 332554 := by
  obtain ⟨⟨h2, -⟩, h3, hr, -, -, h7⟩ := h
  have nn : ∀ u : Int → Int, 0 ≤ sq4 u := fun u => by unfold sq4; have := sq_nonneg9 (u 0); have := sq_nonneg9 (u 1); have := sq_nonneg9 (u 2); have := sq_nonneg9 (u 3); omega
  have had : ∀ (u v w x : Int → Int) {U V W X : Int}, sq4 u ≤ U → sq4 v ≤ V → sq4 w ≤ W → sq4 x ≤ X → d4 u v w x * d4 u v w x ≤ U * V * (W * X) := by
    intro u v w x U V W X a1 a2 a3 a4
    refine Int.le_trans (d4_had u v w x) ?_
    have b1 := nn u; have b2 := nn v; have b3 := nn w; have b4 := nn x
    exact Int.mul_le_mul (Int.mul_le_mul a1 a2 b2 (by omega)) (Int.mul_le_mul a3 a4 b4 (by omega)) (Int.mul_nonneg b3 b4) (Int.mul_nonneg (by omega) (by omega))
  have b60 : ∀ c r : Int, 0 ≤ r → r < 4 → -60 ≤ cl a c r ∧ cl a c r ≤ 60 := fun c r _ _ => (hr r c).1
  have b1 : ∀ c : Int, T ≤ c → ∀ r : Int, 0 ≤ r → r < 4 → -1 ≤ cl a c r ∧ cl a c r ≤ 1 := fun c hc r _ _ => (hr r c).2 hc
  rcases (show T = 1 ∨ T = 2 ∨ T = 3 ∨ T = 4 by omega) with rfl | rfl | rfl | rfl
  · refine ⟨?_, fun i j i0 i1 j0 j1 => ?_⟩
    · rw [h2, mK1]; have := (hr 0 0).1; omega
    · rw [h3 i j i0 i1 j0 j1, FK1, if_pos (by omega)]; have := (hr 0 j).2 j0; omega
  · refine ⟨?_, fun i j i0 i1 j0 j1 => ?_⟩
    · rw [h2, mK2]; have := e2_rng (i := 1) (b60 0) (b60 1) (by omega) (by omega); unfold e2 at this; unfold d2; omega
    · rw [h3 i j i0 i1 j0 j1, FK2]
      split
      · have := e2_rng (i := 1) (b1 j j0) (b60 1) (by omega) (by omega); unfold e2 at this; unfold d2; omega
      · rw [if_pos (by omega)]; have := e2_rng (i := 1) (b60 0) (b1 j j0) (by omega) (by omega); unfold e2 at this; unfold d2; omega
  · refine ⟨?_, fun i j i0 i1 j0 j1 => ?_⟩
    · rw [h2, mK3]; have := e3_rng (i := 2) (b60 0) (b60 1) (b60 2) (by omega) (by omega); unfold d3; omega
    · rw [h3 i j i0 i1 j0 j1, FK3]
      have c3 : ∀ {u v w : Int → Int} {U V W : Int}, (∀ r : Int, 0 ≤ r → r < 4 → -U ≤ u r ∧ u r ≤ U) → (∀ r : Int, 0 ≤ r → r < 4 → -V ≤ v r ∧ v r ≤ V) → (∀ r : Int, 0 ≤ r → r < 4 → -W ≤ w r ∧ w r ≤ W) → U * V * W ≤ 3600 → U * W * V ≤ 3600 → V * W * U ≤ 3600 → -21600 ≤ d3 u v w ∧ d3 u v w ≤ 21600 := by
        intro u v w U V W hu hv hw p1 p2 p3
        unfold d3 e3
        have x1 := mul_abs (hv 1 (by omega) (by omega)) (hw 2 (by omega) (by omega))
        have x2 := mul_abs (hv 2 (by omega) (by omega)) (hw 1 (by omega) (by omega))
        have x3 := mul_abs (hu 1 (by omega) (by omega)) (hw 2 (by omega) (by omega))
        have x4 := mul_abs (hu 2 (by omega) (by omega)) (hw 1 (by omega) (by omega))
        have x5 := mul_abs (hu 1 (by omega) (by omega)) (hv 2 (by omega) (by omega))
        have x6 := mul_abs (hu 2 (by omega) (by omega)) (hv 1 (by omega) (by omega))
        have y1 := mul_abs (hu 0 (by omega) (by omega)) (show -(2 * (V * W)) ≤ v 1 * w 2 - v 2 * w 1 ∧ v 1 * w 2 - v 2 * w 1 ≤ 2 * (V * W) by omega)
        have y2 := mul_abs (hv 0 (by omega) (by omega)) (show -(2 * (U * W)) ≤ u 1 * w 2 - u 2 * w 1 ∧ u 1 * w 2 - u 2 * w 1 ≤ 2 * (U * W) by omega)
        have y3 := mul_abs (hw 0 (by omega) (by omega)) (show -(2 * (U * V)) ≤ u 1 * v 2 - u 2 * v 1 ∧ u 1 * v 2 - u 2 * v 1 ≤ 2 * (U * V) by omega)
        have z1 : U * (2 * (V * W)) = 2 * (V * W * U) := by grind
        have z2 : V * (2 * (U * W)) = 2 * (U * W * V) := by grind
        have z3 : W * (2 * (U * V)) = 2 * (U * V * W) := by grind
        omega
      split
      · have := c3 (b1 j j0) (b60 1) (b60 2) (by omega) (by omega) (by omega); omega
      · split
        · have := c3 (b60 0) (b1 j j0) (b60 2) (by omega) (by omega) (by omega); omega
        · rw [if_pos (by omega)]; have := c3 (b60 0) (b60 1) (b1 j j0) (by omega) (by omega) (by omega); omega
  · have q : ∀ c : Int, 0 ≤ c → c < 4 → sq4 (cl a c) ≤ 4800 := fun c c0 c1 => by rw [h7 rfl c c0 (by omega)]; exact hq rfl c c0 c1
    have q1 : ∀ c : Int, 4 ≤ c → c < 8 → sq4 (cl a c) ≤ 1 := fun c c0 c1 => by rw [h7 rfl c (by omega) c1]; exact hq1 rfl c c0 c1
    have q0 := q 0 (by omega) (by omega)
    have q_1 := q 1 (by omega) (by omega)
    have q_2 := q 2 (by omega) (by omega)
    have q_3 := q 3 (by omega) (by omega)
    refine ⟨?_, fun i j i0 i1 j0 j1 => ?_⟩
    · rw [h2, mK4]
      exact root_le (by omega) (Int.le_trans (had _ _ _ _ q0 q_1 q_2 q_3) (by decide))
    · have qj := q1 j j0 j1
      rw [h3 i j i0 i1 j0 j1, FK4]
      repeat' split
      · exact root_le (by omega) (Int.le_trans (had _ _ _ _ qj q_1 q_2 q_3) (by decide))
      · exact root_le (by omega) (Int.le_trans (had _ _ _ _ q0 qj q_2 q_3) (by decide))
      · exact root_le (by omega) (Int.le_trans (had _ _ _ _ q0 q_1 qj q_3) (by decide))
      · exact root_le (by omega) (Int.le_trans (had _ _ _ _ q0 q_1 q_2 qj) (by decide))
/-- each number below the count is the rank of a set bit -/
theorem cntB_hit {m : Int} : ∀ (n : Nat) {i : Int}, 0 ≤ i → i < cntB m (n : Int) → ∃ c : Int, 0 ≤ c ∧ c < (n : Int) ∧ bitZ m c = 1 ∧ cntB m c = i
  | 0, i, h0, h1 => by have : cntB m ((0 : Nat) : Int) = 0 := rfl; omega
  | n + 1, i, h0, h1 => by
    have e := cntB_succ m (c := (n : Int)) (by omega)
    have hb := bitZ_rng m (n : Int)
    rw [show ((n + 1 : Nat) : Int) = (n : Int) + 1 by omega] at h1
    by_cases q : i < cntB m (n : Int)
    · obtain ⟨c, c0, c1, c2⟩ := cntB_hit n h0 q
      exact ⟨c, c0, by omega, c2⟩
    · exact ⟨(n : Int), by omega, by omega, by omega, by omega⟩
theorem cntB_hit2 {m n i : Int} (hn : 0 ≤ n) (h0 : 0 ≤ i) (h1 : i < cntB m n) : ∃ c : Int, 0 ≤ c ∧ c < n ∧ bitZ m c = 1 ∧ cntB m c = i := by
  have := cntB_hit (m := m) n.toNat (i := i) h0 (by rw [Int.toNat_of_nonneg hn]; exact h1)
  rw [Int.toNat_of_nonneg hn] at this
  exact this
/-- the chosen columns, and the unit beside them -/
def orig (T : Int) (fE : Int → Int → Int) (gC : Int → Int) : Int → Int → Int := fun r c => if 0 ≤ r ∧ r < T then (if 0 ≤ c ∧ c < T then fE (gC c) (r + 1) else if c - T = r then 1 else 0) else 0
theorem orig_rng {T n : Int} {fE : Int → Int → Int} {gC : Int → Int} (hC : ∀ c : Int, 0 ≤ c → c < T → 0 ≤ gC c ∧ gC c < n) (hE : ∀ c d : Int, 0 ≤ c → c < n → 1 ≤ d → d ≤ T → -60 ≤ fE c d ∧ fE c d ≤ 60) (r c : Int) : (-60 ≤ orig T fE gC r c ∧ orig T fE gC r c ≤ 60) ∧ (T ≤ c → -1 ≤ orig T fE gC r c ∧ orig T fE gC r c ≤ 1) := by
  unfold orig
  split
  · split
    · rename_i p q
      have h1 := hC c q.1 q.2
      have := hE (gC c) (r + 1) h1.1 h1.2 (by omega) (by omega)
      omega
    · split <;> omega
  · omega
theorem orig_sq1 {fE : Int → Int → Int} {gC : Int → Int} (c : Int) (h0 : 4 ≤ c) (h1 : c < 8) : sq4 (cl (orig 4 fE gC) c) ≤ 1 := by
  have e : ∀ r : Int, 0 ≤ r → r < 4 → cl (orig 4 fE gC) c r = if c - 4 = r then 1 else 0 := fun r r0 r1 => by
    show orig 4 fE gC r c = _
    unfold orig
    rw [if_pos ⟨r0, r1⟩, if_neg (by omega)]
  unfold sq4
  rw [e 0 (by omega) (by omega), e 1 (by omega) (by omega), e 2 (by omega) (by omega), e 3 (by omega) (by omega)]
  rcases (show c = 4 ∨ c = 5 ∨ c = 6 ∨ c = 7 by omega) with rfl | rfl | rfl | rfl <;> decide
theorem orig_sq {n : Int} {fE : Int → Int → Int} {gC : Int → Int} (hC : ∀ c : Int, 0 ≤ c → c < 4 → 0 ≤ gC c ∧ gC c < n) (hE : ∀ c : Int, 0 ≤ c → c < n → fE c 1 * fE c 1 + fE c 2 * fE c 2 + fE c 3 * fE c 3 + fE c 4 * fE c 4 ≤ 4800) (c : Int) (h0 : 0 ≤ c) (h1 : c < 4) : sq4 (cl (orig 4 fE gC) c) ≤ 4800 := by
  have e : ∀ r : Int, 0 ≤ r → r < 4 → cl (orig 4 fE gC) c r = fE (gC c) (r + 1) := fun r r0 r1 => by
    show orig 4 fE gC r c = _
    unfold orig
    rw [if_pos ⟨r0, r1⟩, if_pos ⟨h0, h1⟩]
  unfold sq4
  rw [e 0 (by omega) (by omega), e 1 (by omega) (by omega), e 2 (by omega) (by omega), e 3 (by omega) (by omega)]
  have := hC c h0 h1
  exact hE (gC c) this.1 this.2
