/-- the reference's bounds -/
def mBF (T B : Int) (kT : Int → Int) (c d : Int) : Int := if c < B then (if d ≤ T then mYield kT c d else 0) else if c < B + T - 1 then (if d = c - B + 1 then -20 else if d = c - B + 2 then 20 + kT (7 + d) else 0) else if c = B + T - 1 then (if d = T then -1 else 0) else if c = B + T then (if d = 1 then 20 + kT 8 else 0) else 0
def mBG (T B : Int) (kT : Int → Int) (c : Int) : Int := if c < B then kT (27 + c) else if c = B + T then 20 else 0
def b1 (T B : Int) (kT : Int → Int) (k j : Int) (c d : Int) : Int := if d ≤ T ∧ c < B ∧ (c < k ∨ (c = k ∧ d < j)) then mYield kT c d else 0
theorem b1_step {T B k j : Int} {kT gW : Int → Int} (h : ∀ c r : Int, 0 ≤ c → c < 10 → 0 ≤ r → r < 4 → gW (4 * c + r) = b1 T B kT k j c (r + 1)) (hk : 0 ≤ k ∧ k < B) (hj : 1 ≤ j ∧ j ≤ T) (_ : B ≤ 5) (_ : T ≤ 4) : ∀ c r : Int, 0 ≤ c → c < 10 → 0 ≤ r → r < 4 → zup gW (4 * k + j - 1) (mYield kT k j) (4 * c + r) = b1 T B kT k (j + 1) c (r + 1) := by
  intro c r c0 c1 r0 r1
  by_cases e : c = k ∧ r = j - 1
  · obtain ⟨rfl, rfl⟩ := e
    rw [show 4 * c + (j - 1) = 4 * c + j - 1 by omega, zup_eq]
    unfold b1
    rw [if_pos (by omega), show j - 1 + 1 = j by omega]
  · rw [zup_ne (by omega), h c r c0 c1 r0 r1]
    unfold b1
    by_cases q : r + 1 ≤ T ∧ c < B ∧ (c < k ∨ (c = k ∧ r + 1 < j))
    · rw [if_pos q, if_pos (by omega)]
    · rw [if_neg q, if_neg (by omega)]
theorem b1_next {T B k j : Int} {kT : Int → Int} (hj : T < j) (c d : Int) : b1 T B kT k j c d = b1 T B kT (k + 1) 1 c d ∨ d < 1 := by
  by_cases z : d < 1
  · exact Or.inr z
  · refine Or.inl ?_
    unfold b1
    by_cases q : d ≤ T ∧ c < B ∧ (c < k ∨ (c = k ∧ d < j))
    · rw [if_pos q, if_pos (by omega)]
    · rw [if_neg q, if_neg (by omega)]
def b2 (T B : Int) (kT : Int → Int) (s : Int) (c d : Int) : Int := if c < B then (if d ≤ T then mYield kT c d else 0) else if c < B + s - 1 then (if d = c - B + 1 then -20 else if d = c - B + 2 then 20 + kT (7 + d) else 0) else 0
theorem b2_1 {T B : Int} {kT : Int → Int} {k j : Int} (hk : B ≤ k) (c d : Int) : b1 T B kT k j c d = b2 T B kT 1 c d := by
  unfold b1 b2
  by_cases q : c < B
  · by_cases w : d ≤ T
    · rw [if_pos (by omega), if_pos q, if_pos w]
    · rw [if_neg (by omega), if_pos q, if_neg w]
  · rw [if_neg (by omega), if_neg q, if_neg (by omega)]
theorem b2_step {T B s : Int} {kT gW : Int → Int} (h : ∀ c r : Int, 0 ≤ c → c < 10 → 0 ≤ r → r < 4 → gW (4 * c + r) = b2 T B kT s c (r + 1)) (hs : 1 ≤ s ∧ s < T) (hB : 0 ≤ B ∧ B ≤ 5) (hT : 1 ≤ T ∧ T ≤ 4) : ∀ c r : Int, 0 ≤ c → c < 10 → 0 ≤ r → r < 4 → zup (zup gW (4 * (B + s - 1) + s - 1) (-20)) (4 * (B + s - 1) + s) (20 + kT (7 + s + 1)) (4 * c + r) = b2 T B kT (s + 1) c (r + 1) := by
  intro c r c0 c1 r0 r1
  by_cases e : c = B + s - 1 ∧ r = s
  · obtain ⟨rfl, rfl⟩ := e
    rw [zup_eq]
    unfold b2
    rw [if_neg (by omega), if_pos (by omega), if_neg (by omega), if_pos (by omega), show 7 + (r + 1) = 7 + r + 1 by omega]
  · rw [zup_ne (by omega)]
    by_cases e2 : c = B + s - 1 ∧ r = s - 1
    · obtain ⟨rfl, rfl⟩ := e2
      rw [show 4 * (B + s - 1) + (s - 1) = 4 * (B + s - 1) + s - 1 by omega, zup_eq]
      unfold b2
      rw [if_neg (by omega), if_pos (by omega), if_pos (by omega)]
    · rw [zup_ne (by omega), h c r c0 c1 r0 r1]
      unfold b2
      by_cases q : c < B
      · rw [if_pos q, if_pos q]
      · rw [if_neg q, if_neg q]
        by_cases w : c < B + s - 1
        · rw [if_pos w, if_pos (show c < B + (s + 1) - 1 by omega)]
        · rw [if_neg w]
          by_cases w2 : c < B + (s + 1) - 1
          · rw [if_pos w2, if_neg (by omega), if_neg (by omega)]
          · rw [if_neg w2]
theorem b2_end {T B s : Int} {kT gW : Int → Int} (h : ∀ c r : Int, 0 ≤ c → c < 10 → 0 ≤ r → r < 4 → gW (4 * c + r) = b2 T B kT s c (r + 1)) (hs : s = T) (hB : 0 ≤ B ∧ B ≤ 5) (hT : 1 ≤ T ∧ T ≤ 4) : ∀ c r : Int, 0 ≤ c → c < 10 → 0 ≤ r → r < 4 → zup (zup gW (4 * (B + T - 1) + T - 1) (-1)) (4 * (B + T)) (20 + kT 8) (4 * c + r) = mBF T B kT c (r + 1) := by
  intro c r c0 c1 r0 r1
  by_cases e : c = B + T ∧ r = 0
  · obtain ⟨rfl, rfl⟩ := e
    rw [Int.add_zero, zup_eq]
    unfold mBF
    rw [if_neg (by omega), if_neg (by omega), if_neg (by omega), if_pos rfl, if_pos (by omega)]
  · rw [zup_ne (by omega)]
    by_cases e2 : c = B + T - 1 ∧ r = T - 1
    · obtain ⟨rfl, rfl⟩ := e2
      rw [show 4 * (B + T - 1) + (T - 1) = 4 * (B + T - 1) + T - 1 by omega, zup_eq]
      unfold mBF
      rw [if_neg (by omega), if_neg (by omega), if_pos rfl, if_pos (by omega)]
    · rw [zup_ne (by omega), h c r c0 c1 r0 r1]
      subst hs
      unfold b2 mBF
      by_cases q : c < B
      · rw [if_pos q, if_pos q]
      · rw [if_neg q, if_neg q]
        by_cases w : c < B + s - 1
        · rw [if_pos w, if_pos w]
        · rw [if_neg w, if_neg w]
          by_cases w2 : c = B + s - 1
          · rw [if_pos w2, if_neg (by omega)]
          · rw [if_neg w2]
            by_cases w3 : c = B + s
            · rw [if_pos w3, if_neg (by omega)]
            · rw [if_neg w3]
theorem mBF_rng {kT : Int → Int} (h : mOk kT) (h2 : mOk2 kT) (h3 : ∀ b : Int, 0 ≤ b → b < kT 1 → kT (12 + b) ≤ 20 ∧ kT (17 + b) ≤ 40) {c d : Int} (c0 : 0 ≤ c) (d0 : 1 ≤ d) (d1 : d ≤ 4) : -60 ≤ mBF (kT 0) (kT 1) kT c d ∧ mBF (kT 0) (kT 1) kT c d ≤ 60 := by
  have k1 := h.1
  have k2 := h.2.1
  unfold mBF
  split
  · rename_i q
    split
    · have a := h3 c c0 q
      have b := h.2.2 (12 + c) (by omega) (by omega)
      have b' := h.2.2 (17 + c) (by omega) (by omega)
      unfold mYield; (repeat' split) <;> omega
    · omega
  · have e1 := h2 d d0 d1
    have e2 := h2 1 (by omega) (by omega)
    rw [show (7 : Int) + 1 = 8 by rfl] at e2
    (repeat' split) <;> omega
theorem mBG_rng {kT : Int → Int} (h : mOk kT) {c : Int} (c0 : 0 ≤ c) : 0 ≤ mBG (kT 0) (kT 1) kT c ∧ mBG (kT 0) (kT 1) kT c ≤ 200 := by
  have k2 := h.2.1
  unfold mBG
  split
  · exact h.2.2 (27 + c) (by omega) (by omega)
  · split <;> omega
/-- rows solved -/
def dSol (T : Int) (E : Int → Int → Int) (P g : Int → Int) (D : Int) (v : Int → Int) : Prop := ¬ dB T E g = 0 ∧ (0 < D ∧ D ≤ 6144000000000000) ∧ (∀ i : Int, 0 ≤ i → i < T → -6144000000000000 ≤ v i ∧ v i ≤ 6144000000000000) ∧ ∀ i : Int, 0 ≤ i → i < T → dsum T E (fun d => v (d - 1)) (g i) = D * P (g i)
theorem pcol_same {T : Int} {E E' : Int → Int → Int} {g g' : Int → Int} (h : ∀ i r : Int, 0 ≤ i → i < T → 0 ≤ r → r < T → E (g i) (r + 1) = E' (g' i) (r + 1)) : dB T E g = dB T E' g' := by
  have e : ∀ i r : Int, 0 ≤ i → 0 ≤ r → pcol T E g i r = pcol T E' g' i r := fun i r i0 r0 => by
    unfold pcol
    by_cases q : i < T
    · rw [if_pos q, if_pos q]
      by_cases w : r < T
      · rw [if_pos w, if_pos w]; exact h i r i0 q r0 w
      · rw [if_neg w, if_neg w]
    · rw [if_neg q, if_neg q]
  exact d4_congr (fun r a _ => e 0 r (by omega) a) (fun r a _ => e 1 r (by omega) a) (fun r a _ => e 2 r (by omega) a) (fun r a _ => e 3 r (by omega) a)
theorem dSol_dB {T : Int} {gW kN kH gH : Int → Int} (hW : ∀ c r : Int, 0 ≤ c → c < T → 0 ≤ r → r < T → gW (4 * c + r) = kN (4 * kH r + c)) (hH : ∀ i : Int, 0 ≤ i → i < T → gH i = i) : dB T (wE gW) gH = dB T (wE kN) kH := by
  rw [← dB_tr T (wE kN) kH]
  refine pcol_same (fun i r i0 i1 r0 r1 => ?_)
  rw [hH i i0 i1]
  unfold wE trE
  rw [show 4 * i + (r + 1) - 1 = 4 * i + r by omega, hW i r i0 i1 r0 r1, show r + 1 - 1 = r by omega]
  show kN (4 * kH r + i) = kN (4 * kH r + (i + 1) - 1)
  rw [show 4 * kH r + (i + 1) - 1 = 4 * kH r + i by omega]
theorem dSol_of {T D : Int} {gW gA kN kM kH gH v : Int → Int} (hW : ∀ c r : Int, 0 ≤ c → c < T → 0 ≤ r → r < T → gW (4 * c + r) = kN (4 * kH r + c)) (hA : ∀ r : Int, 0 ≤ r → r < T → gA r = kM (kH r)) (hH : ∀ i : Int, 0 ≤ i → i < T → gH i = i) (h : isSol T (wE gW) (fun r => gA (r - 1)) gH D v) : dSol T (wE kN) kM kH D v := by
  obtain ⟨h1, h2, h3, h4⟩ := h
  refine ⟨by rw [← dSol_dB hW hH]; exact h1, h2, h3, fun i i0 i1 => ?_⟩
  have := h4 (i + 1) (by omega) (by omega)
  simp only [show i + 1 - 1 = i by omega] at this
  rw [hA i i0 i1] at this
  rw [← this]
  unfold dsum
  refine zsum_congr (fun j j0 j1 => ?_)
  show v (j + 1 - 1) * wE kN (kH i) (j + 1) = wE gW (gH j) (i + 1) * v j
  rw [hH j j0 j1]
  unfold wE
  rw [show j + 1 - 1 = j by omega, show 4 * j + (i + 1) - 1 = 4 * j + i by omega, hW j i j0 j1 i0 i1, show 4 * kH i + (j + 1) - 1 = 4 * kH i + j by omega, Int.mul_comm]
theorem dcand_sol {T n D : Int} {E : Int → Int → Int} {P g v : Int → Int} (h : dSol T E P g D v) (hg : inB T n g) (hx : ∀ c : Int, 0 ≤ c → c < n → dsum T E (fun d => v (d - 1)) c ≤ D * P c) : dcand T n E P g D (fun d => v (d - 1)) := ⟨hg, h.1, h.2.1.1, h.2.2.2, hx⟩
theorem dcand_sno {T n D c : Int} {E : Int → Int → Int} {P g v : Int → Int} (h1 : 1 ≤ T) (h4 : T ≤ 4) (h : dSol T E P g D v) (hg : inB T n g) (c0 : 0 ≤ c) (c1 : c < n) (hx : ¬ dsum T E (fun d => v (d - 1)) c ≤ D * P c) : ∀ D' Y', ¬ dcand T n E P g D' Y' := by
  intro D' Y' q
  have hp : 0 < D := h.2.1.1
  have k := dcand_uniq h1 h4 ⟨hg, h.1, hp, h.2.2.2⟩ q
  have a := q.2.2.2.2 c c0 c1
  have e : dsum T E (fun d => v (d - 1)) c * D' = dsum T E Y' c * D := by
    unfold dsum
    rw [← zsum_mulr, ← zsum_mulr]
    refine zsum_congr (fun j j0 j1 => ?_)
    have := k (j + 1) (by omega) (by omega)
    show (fun d => v (d - 1)) (j + 1) * E c (j + 1) * D' = Y' (j + 1) * E c (j + 1) * D
    rw [Int.mul_right_comm, this, Int.mul_right_comm]
  have b := q.2.2.1
  have m1 : D * P c * D' < dsum T E (fun d => v (d - 1)) c * D' := Int.mul_lt_mul_of_pos_right (by omega) b
  have m2 : dsum T E Y' c * D ≤ D' * P c * D := Int.mul_le_mul_of_nonneg_right a (by omega)
  have e2 : D' * P c * D = D * P c * D' := by grind
  omega
def nBd (T : Int) (O : Int → Int) (p : Int) (Y : Int → Int) : Prop := p = zsum (fun j => Y (j + 1) * O (j + 1)) T ∧ (0 ≤ p ∧ p ≤ 4915200000000000000) ∧ ∀ d : Int, 1 ≤ d → d ≤ T → 0 ≤ Y d ∧ Y d ≤ 6144000000000000
theorem nBd_of {T : Int} {O Y : Int → Int} {p : Int} (h1 : 1 ≤ T) (h4 : T ≤ 4) (hp : p = zsum (fun j => Y (j + 1) * O (j + 1)) T) (hO : ∀ r : Int, 1 ≤ r → r ≤ T → 0 ≤ O r ∧ O r ≤ 200) (hY : ∀ d : Int, 1 ≤ d → d ≤ T → 0 ≤ Y d ∧ Y d ≤ 6144000000000000) : nBd T O p Y := by
  refine ⟨hp, ?_, hY⟩
  rw [hp]
  have := zsum_rng2 (f := fun j => Y (j + 1) * O (j + 1)) (lo := 0) (hi := 1228800000000000000) (n := T) (by omega) (fun i i0 i1 => mul_pos_rng (A := 6144000000000000) (B := 200) (hY (i + 1) (by omega) (by omega)) (hO (i + 1) (by omega) (by omega)))
  omega
theorem lexS_cn {D D' : Int} {K K' : Int → Int} {a b o : Int} (ha : K 0 = -a) (hb : K' 0 = -b) (h : isCmp a D b D' o) : lexS 1 D K D' K' (-o) := by
  have e1 : K 0 * D' = -(a * D') := by rw [ha, Int.neg_mul]
  have e2 : K' 0 * D = -(b * D) := by rw [hb, Int.neg_mul]
  rcases h with ⟨h, q⟩ | ⟨h, q⟩ | ⟨h, q⟩
  · exact Or.inr (Or.inr ⟨by omega, 0, by omega, by omega, fun i a b => by omega, by omega⟩)
  · exact Or.inl ⟨by omega, fun i a b => by rw [show i = 0 by omega]; omega⟩
  · exact Or.inr (Or.inl ⟨by omega, 0, by omega, by omega, fun i a b => by omega, by omega⟩)
def tbP (T n : Int) (E : Int → Int → Int) (O P g : Int → Int) (fo cb cp : Int) (fV : Int → Int) (ko kb kp : Int) (kV : Int → Int) : Prop := ((∀ D' V', ¬ dcand T n E P g D' V') ∧ ko = fo ∧ kb = cb ∧ kp = cp ∧ kV = fV) ∨ ∃ p0 D V0, dcand T n E P g D V0 ∧ nBd T O p0 V0 ∧ (0 < D ∧ D ≤ 6144000000000000) ∧ (((fo = 0 ∨ lexLt (T + 1) D (kd p0 V0) cb (kd cp fV)) ∧ ko = 1 ∧ kb = D ∧ kp = p0 ∧ ∀ d : Int, 1 ≤ d → d ≤ T → kV d = V0 d) ∨ ((fo = 1 ∧ ¬ lexLt (T + 1) D (kd p0 V0) cb (kd cp fV)) ∧ ko = fo ∧ kb = cb ∧ kp = cp ∧ kV = fV))
def nFnd (T : Int) (O : Int → Int) (fo cb cp : Int) (fV : Int → Int) : Prop := (fo = 0 ∨ fo = 1) ∧ (fo = 1 → (0 < cb ∧ cb ≤ 6144000000000000) ∧ nBd T O cp fV)
def yS (kY : Int → Int) : Int → Int := fun d => kY (d - 1)
def nSt (T n : Int) (E : Int → Int → Int) (O P : Int → Int) (Q : (Int → Int) → Prop) (fo D p : Int) (V : Int → Int) : Prop := opt Q (dcand T n E P) (T + 1) (dKey T O) (if fo = 1 then D else 0) V ∧ nFnd T O fo D p V
theorem nSt_0 {T n : Int} {E : Int → Int → Int} {O P : Int → Int} {D p : Int} {h V : Int → Int} (hx : ∀ g, srt4 T n g → ¬ lx T g h) : nSt T n E O P (qLx T n h) 0 D p V := ⟨Or.inl ⟨by rw [if_neg (by omega)], fun g _ _ q => absurd q.2 (hx g q.1)⟩, Or.inl rfl, fun q => by omega⟩
theorem nSt_try {T n : Int} {E : Int → Int → Int} {O P : Int → Int} {fo D p ko kb kp : Int} {h V kV : Int → Int} {Q' : (Int → Int) → Prop} (h1 : 1 ≤ T) (h4 : T ≤ 4) (hs : nSt T n E O P (qLx T n h) fo D p V) (hq : ∀ g, Q' g → srt4 T n g ∧ (lx T g h ∨ eqT T g h)) (ht : tbP T n E O P h fo D p V ko kb kp kV) : nSt T n E O P Q' ko kb kp kV := by
  have hC : ∀ g D' V', dcand T n E P g D' V' → 0 < D' := fun g D' V' q => q.2.2.1
  rcases ht with ⟨a, rfl, rfl, rfl, rfl⟩ | ⟨p0, D0, V0, a, b, d, c⟩
  · refine ⟨opt_skip hs.1 (fun g D' V' x y => ?_), hs.2⟩
    obtain ⟨q1, q2⟩ := hq g x
    rcases q2 with q | q
    · exact ⟨q1, q⟩
    · exact absurd (dcand_congr q y) (a D' V')
  · have hq2 : ∀ g D' V', Q' g → dcand T n E P g D' V' → qLx T n h g ∨ ∀ i : Int, 0 ≤ i → i < T + 1 → dKey T O V' i * D0 = dKey T O V0 i * D' := fun g D' V' x y => by
      obtain ⟨q1, q2⟩ := hq g x
      rcases q2 with q | q
      · exact Or.inl ⟨q1, q⟩
      · exact Or.inr (dKey_x h1 h4 a (dcand_congr q y))
    rcases c with ⟨c, rfl, rfl, rfl, ce⟩ | ⟨⟨c, e⟩, rfl, rfl, rfl, rfl⟩
    · have se : ∀ x : Int, dsum T E kV x = dsum T E V0 x := fun x => zsum_congr (fun j j0 j1 => by show kV (j + 1) * E x (j + 1) = V0 (j + 1) * E x (j + 1); rw [ce (j + 1) (by omega) (by omega)])
      have ca : dcand T n E P h kb kV := ⟨a.1, a.2.1, a.2.2.1, fun i i0 i1 => by rw [se]; exact a.2.2.2.1 i i0 i1, fun x x0 x1 => by rw [se]; exact a.2.2.2.2 x x0 x1⟩
      have pe : zsum (fun j => kV (j + 1) * O (j + 1)) T = zsum (fun j => V0 (j + 1) * O (j + 1)) T := zsum_congr (fun j j0 j1 => by show kV (j + 1) * O (j + 1) = V0 (j + 1) * O (j + 1); rw [ce (j + 1) (by omega) (by omega)])
      have ke : ∀ i : Int, 0 ≤ i → i < T + 1 → dKey T O kV i = dKey T O V0 i := fun i i0 i1 => by
        unfold dKey
        split
        · rw [pe]
        · exact ce i (by omega) (by omega)
      refine ⟨?_, Or.inr rfl, fun _ => ⟨by omega, by rw [pe]; exact b.1, b.2.1, fun x x0 x1 => by rw [ce x x0 x1]; exact b.2.2 x x0 x1⟩⟩
      rw [if_pos rfl]
      refine opt_new (g0 := h) hC hs.1 ca ?_ (fun g D' V' x y => ?_)
      · rcases c with e | e
        · left; rw [if_neg (by omega)]
        · rcases hs.2.1 with z | z
          · left; rw [if_neg (by omega)]
          · right
            rw [if_pos z, dKey_kd (hs.2.2 z).2.1]
            obtain ⟨j, j0, j1, j2, j3⟩ := e
            have kj : ∀ i : Int, 0 ≤ i → i < T + 1 → dKey T O kV i = kd kp V0 i := fun i i0 i1 => by rw [ke i i0 i1, dKey_kd b.1]
            exact ⟨j, j0, j1, fun i i0 i1 => by rw [kj i i0 (by omega)]; exact j2 i i0 i1, by rw [kj j j0 j1]; exact j3⟩
      · rcases hq2 g D' V' x y with q | q
        · exact Or.inl q
        · exact Or.inr (fun i i0 i1 => by rw [ke i i0 i1]; exact q i i0 i1)
    · refine ⟨?_, hs.2⟩
      have hp := (hs.2.2 c).1.1
      rw [if_pos c]
      have h1' := hs.1
      rw [if_pos c] at h1'
      refine opt_keep (V0 := V0) hC h1' (by omega) d.1 ?_ hq2
      rw [dKey_kd b.1, dKey_kd (hs.2.2 c).2.1]
      exact e
def nBest (T n : Int) (E : Int → Int → Int) (O P : Int → Int) (D p : Int) (V : Int → Int) : Prop := opt (fun _ => True) (dcand T n E P) (T + 1) (dKey T O) D V ∧ (0 < D ∧ D ≤ 6144000000000000) ∧ nBd T O p V
theorem nSt_end {T n : Int} {E : Int → Int → Int} {O P : Int → Int} {fo D p : Int} {V : Int → Int} (h1 : 1 ≤ T) (h4 : T ≤ 4) (he : ∃ g D V, dcand T n E P g D V) (h : nSt T n E O P (srt4 T n) fo D p V) : nBest T n E O P D p V := by
  have k : ∀ g D' V', dcand T n E P g D' V' → ∃ g', srt4 T n g' ∧ dcand T n E P g' D' V' := fun g D' V' c => by
    obtain ⟨g', a, b, s⟩ := dB_srt h1 h4 c.2.1
    have c' := dcand_same c b a
    exact ⟨g', srt4_of h1 c'.1 s, c'⟩
  obtain ⟨g, D', V', c⟩ := he
  rcases h.2.1 with z | z
  · have h' := h.1
    rw [if_neg (by omega)] at h'
    rcases h' with ⟨-, b⟩ | ⟨a, -⟩
    · obtain ⟨g', x, y⟩ := k g D' V' c
      exact absurd y (b g' D' V' x)
    · omega
  · have h' := h.1
    rw [if_pos z] at h'
    have hp := (h.2.2 z).1.1
    rcases h' with ⟨a, -⟩ | ⟨a, b, e⟩
    · omega
    · exact ⟨Or.inr ⟨a, b, fun g D' V' _ q => by obtain ⟨g', x, y⟩ := k g D' V' q; exact e g' D' V' x y⟩, (h.2.2 z).1, (h.2.2 z).2⟩
theorem nBest_E {T n D p : Int} {E E' : Int → Int → Int} {O P P' V : Int → Int} (hE : ∀ c d : Int, 0 ≤ c → c < n → 1 ≤ d → d ≤ T → E c d = E' c d) (hP : ∀ c : Int, 0 ≤ c → c < n → P c = P' c) (h : nBest T n E O P D p V) : nBest T n E' O P' D p V :=
  ⟨opt_C h.1 (fun g D V q => dcand_E hE hP q) (fun g D V q => dcand_E (fun c d a b a' b' => (hE c d a b a' b').symm) (fun d a b => (hP d a b).symm) q) (fun _ => rfl), h.2⟩
/-- the rows of the sums, in this order -/
theorem mBF_s {T B : Int} {kT : Int → Int} {s d : Int} (hs : 1 ≤ s ∧ s ≤ T) (hd : 1 ≤ d ∧ d ≤ T) : (if s < T then 1 else 20) * mBF T B kT (B + s - 1) d = if s = d then -20 else if s = d - 1 then 20 + kT (7 + d) else 0 := by
  unfold mBF
  rw [if_neg (show ¬ B + s - 1 < B by omega)]
  by_cases q : s < T
  · rw [if_pos q, if_pos (by omega), Int.one_mul]
    by_cases a : s = d
    · rw [if_pos a, if_pos (by omega)]
    · rw [if_neg a, if_neg (by omega)]
      by_cases b : s = d - 1
      · rw [if_pos b, if_pos (by omega)]
      · rw [if_neg b, if_neg (by omega)]
  · rw [if_neg q, if_neg (by omega), if_pos (by omega)]
    by_cases a : s = d
    · rw [if_pos a, if_pos (by omega)]; omega
    · rw [if_neg a, if_neg (by omega), if_neg (by omega)]; omega
theorem mBF_0 {T B : Int} {kT : Int → Int} {d : Int} (hT : 1 ≤ T) (hd : 1 ≤ d ∧ d ≤ T) : mBF T B kT (B + T) d = if 0 = d then -20 else if 0 = d - 1 then 20 + kT (7 + d) else 0 := by
  unfold mBF
  rw [if_neg (by omega), if_neg (by omega), if_neg (by omega), if_pos rfl, if_neg (show ¬ 0 = d by omega)]
  by_cases a : d = 1
  · rw [if_pos a, if_pos (by omega), a]; rfl
  · rw [if_neg a, if_neg (by omega)]
/-- the class's columns in the reference's order -/
def sgm (T B c : Int) : Int := if c < B then c else if c < B + T then c + 1 else B
def lmb (T B c : Int) : Int := if c = B + T - 1 then 20 else 1
theorem mBF_sg {T B : Int} {kT : Int → Int} {E : Int → Int → Int} (hE : stdE T B E (fun d => 20 + kT (7 + d))) (hb : ∀ b d : Int, 0 ≤ b → b < B → 1 ≤ d → d ≤ T → E b d = mYield kT b d) {c d : Int} (hT : 1 ≤ T) (hc : 0 ≤ c ∧ c < B + T + 1) (hd : 1 ≤ d ∧ d ≤ T) : lmb T B c * mBF T B kT c d = E (sgm T B c) d := by
  unfold lmb sgm
  by_cases q : c < B
  · rw [if_pos q, if_neg (by omega), hb c d hc.1 q hd.1 hd.2]
    unfold mBF
    rw [if_pos q, if_pos hd.2, Int.one_mul]
  · rw [if_neg q]
    by_cases w : c < B + T
    · rw [if_pos w]
      have a := mBF_s (B := B) (kT := kT) (s := c - B + 1) (d := d) (T := T) (by omega) hd
      rw [show B + (c - B + 1) - 1 = c by omega] at a
      have e := hE (c - B + 1) d (by omega) (by omega) hd.1 hd.2
      rw [show B + (c - B + 1) = c + 1 by omega] at e
      rw [e, ← a]
      congr 1
      by_cases z : c = B + T - 1
      · rw [if_pos z, if_neg (by omega)]
      · rw [if_neg z, if_pos (by omega)]
    · rw [if_neg w, if_neg (by omega), Int.one_mul, show c = B + T by omega, mBF_0 hT hd]
      have e := hE 0 d (by omega) (by omega) hd.1 hd.2
      rw [Int.add_zero] at e
      rw [e]
theorem mB_pos {T B : Int} {kT Y : Int → Int} {D : Int} (hT : 1 ≤ T) (hB : 0 ≤ B) (hG : ∀ d : Int, 1 ≤ d → d ≤ T → 0 ≤ kT (7 + d)) (h : ∀ c : Int, 0 ≤ c → c < B + T + 1 → dsum T (mBF T B kT) Y c ≤ D * mBG T B kT c) : ∀ d : Int, 1 ≤ d → d ≤ T → 0 ≤ Y d := by
  have sd : ∀ s : Int, 1 ≤ s → s ≤ T → (if s < T then 1 else 20) * dsum T (mBF T B kT) Y (B + s - 1) = -20 * Y s + (if s < T then (20 + kT (7 + (s + 1))) * Y (s + 1) else 0) := fun s s0 s1 => by
    have e := dsum_std (T := T) (B := 0) (E := fun c d => if c = d then -20 else if c = d - 1 then 20 + kT (7 + d) else 0) (G := fun d => 20 + kT (7 + d)) (Y := Y) (s := s) (fun s r _ _ _ _ => by rw [Int.zero_add]) s0 s1
    rw [← e]
    unfold dsum
    rw [← zsum_mull]
    refine zsum_congr (fun j j0 j1 => ?_)
    show _ * (Y (j + 1) * mBF T B kT (B + s - 1) (j + 1)) = Y (j + 1) * _
    rw [← Int.mul_assoc, Int.mul_comm _ (Y (j + 1)), Int.mul_assoc, mBF_s ⟨s0, s1⟩ (by omega), Int.zero_add]
  have key : ∀ m : Nat, ∀ d : Int, 1 ≤ d → d ≤ T → T - d = (m : Int) → 0 ≤ Y d := by
    intro m
    induction m with
    | zero =>
      intro d d0 d1 e
      have a := h (B + d - 1) (by omega) (by omega)
      have z : mBG T B kT (B + d - 1) = 0 := by unfold mBG; rw [if_neg (by omega), if_neg (by omega)]
      rw [z, Int.mul_zero] at a
      have b := sd d d0 d1
      rw [if_neg (by omega), if_neg (by omega)] at b
      omega
    | succ m ih =>
      intro d d0 d1 e
      have a := h (B + d - 1) (by omega) (by omega)
      have z : mBG T B kT (B + d - 1) = 0 := by unfold mBG; rw [if_neg (by omega), if_neg (by omega)]
      rw [z, Int.mul_zero] at a
      have b := sd d d0 d1
      rw [if_pos (by omega), if_pos (by omega)] at b
      have p := ih (d + 1) (by omega) (by omega) (by omega)
      have g := hG (d + 1) (by omega) (by omega)
      have c := Int.mul_nonneg (show 0 ≤ 20 + kT (7 + (d + 1)) by omega) p
      omega
  intro d d0 d1
  exact key (T - d).toNat d d0 d1 (by omega)
/-- there are multipliers -/
theorem scl4 (u v w x : Int → Int) (a b c d : Int) : d4 (fun r => a * u r) (fun r => b * v r) (fun r => c * w r) (fun r => d * x r) = a * b * c * d * d4 u v w x := by simp only [d4, two]; grind
theorem dB_scale {T : Int} {E E' : Int → Int → Int} {g g' l : Int → Int} (h : ∀ i r : Int, 0 ≤ i → i < T → 0 ≤ r → r < T → E' (g' i) (r + 1) = l i * E (g i) (r + 1)) : dB T E' g' = (if 0 < T then l 0 else 1) * (if 1 < T then l 1 else 1) * (if 2 < T then l 2 else 1) * (if 3 < T then l 3 else 1) * dB T E g := by
  unfold dB
  rw [← scl4]
  have e : ∀ i r : Int, 0 ≤ i → 0 ≤ r → pcol T E' g' i r = (if i < T then l i else 1) * pcol T E g i r := fun i r i0 r0 => by
    unfold pcol
    by_cases q : i < T
    · rw [if_pos q, if_pos q, if_pos q]
      by_cases w : r < T
      · rw [if_pos w, if_pos w]; exact h i r i0 q r0 w
      · rw [if_neg w, if_neg w, Int.mul_zero]
    · rw [if_neg q, if_neg q, if_neg q, Int.one_mul]
  exact d4_congr (fun r a _ => e 0 r (by omega) a) (fun r a _ => e 1 r (by omega) a) (fun r a _ => e 2 r (by omega) a) (fun r a _ => e 3 r (by omega) a)
theorem mB_ex {kT : Int → Int} (h : mOk kT) (h2 : mOk2 kT) : dcand (kT 0) (kT 1 + kT 0 + 1) (mBF (kT 0) (kT 1) kT) (mBG (kT 0) (kT 1) kT) (fun i => kT 1 + i) 1 (fun _ => 0) := by
  have k1 := h.1
  have k2 := h.2.1
  have e : ∀ c : Int, dsum (kT 0) (mBF (kT 0) (kT 1) kT) (fun _ => 0) c = 0 := fun c => zsum_zero (fun j _ _ => by show (0 : Int) * _ = 0; omega)
  refine ⟨fun i i0 i1 => ?_, ?_, by omega, fun i i0 i1 => ?_, fun c c0 c1 => ?_⟩
  · show 0 ≤ kT 1 + i ∧ kT 1 + i < _; omega
  · have a := gAll_dB (t := 0) k1.1 k1.2 (mW_std (kT := kT)) (fun r a b => by have := h2 r a (by omega); show 1 ≤ 20 + kT (7 + r); omega) (by omega) (by omega)
    have b := dB_scale (T := kT 0) (E := mBF (kT 0) (kT 1) kT) (E' := mW (kT 0) (kT 1) kT) (g := fun i => kT 1 + i) (g' := gAll (kT 1) 0) (l := fun i => if i + 1 < kT 0 then 1 else 20) (fun i r i0 i1 r0 r1 => by
      have c := mBF_s (T := kT 0) (B := kT 1) (kT := kT) (s := i + 1) (d := r + 1) (by omega) (by omega)
      rw [show kT 1 + (i + 1) - 1 = kT 1 + i by omega] at c
      show _ = (if i + 1 < kT 0 then 1 else 20) * mBF (kT 0) (kT 1) kT (kT 1 + i) (r + 1)
      rw [c]
      have d := mW_std (kT := kT) (i + 1) (r + 1) (by omega) (by omega) (by omega) (by omega)
      unfold gAll
      rw [if_neg (by omega), show kT 1 + i + 1 = kT 1 + (i + 1) by omega, d])
    intro z
    rw [z, Int.mul_zero] at b
    exact a b
  · rw [e]
    show 0 = 1 * mBG (kT 0) (kT 1) kT (kT 1 + i)
    unfold mBG
    rw [if_neg (by omega), if_neg (by omega)]; rfl
  · rw [e]
    have := mBG_rng h c0
    omega
theorem sb_step {T k j v : Int} {g : Int → Int} {M : Int → Int → Int} (h : ∀ c r : Int, 0 ≤ c → 0 ≤ r → r < 4 → (c < k ∨ (c = k ∧ r < j)) → g (4 * c + r) = M c r) (j0 : 0 ≤ j) (hk : 0 ≤ k ∧ k < T ∧ j < 4) (hv : v = M k j) : ∀ c r : Int, 0 ≤ c → 0 ≤ r → r < 4 → (c < k ∨ (c = k ∧ r < j + 1)) → zup g (4 * k + j) v (4 * c + r) = M c r := by
  intro c r c0 r0 r1 q
  by_cases e : c = k ∧ r = j
  · obtain ⟨rfl, rfl⟩ := e
    rw [zup_eq]; exact hv
  · rw [zup_ne (by omega)]
    exact h c r c0 r0 r1 (by omega)
def sbM (T : Int) (kN kH : Int → Int) (c r : Int) : Int := if r < T then kN (4 * kH r + c) else 0
theorem ak_step {d v : Int} {f g : Int → Int} (hv : v = zsum (fun j => f j * g j) d) (hd : 0 ≤ d) : v + f d * g d = zsum (fun j => f j * g j) (d + 1) := by rw [zsum_succ _ hd, ← hv]
theorem ak_dsum {T c : Int} {kN kU : Int → Int} : zsum (fun j => kN (4 * c + j) * kU j) T = dsum T (wE kN) (fun d => kU (d - 1)) c := by
  unfold dsum
  refine zsum_congr (fun j _ _ => ?_)
  show kN (4 * c + j) * kU j = kU (j + 1 - 1) * kN (4 * c + (j + 1) - 1)
  rw [show j + 1 - 1 = j by omega, show 4 * c + (j + 1) - 1 = 4 * c + j by omega, Int.mul_comm]
theorem ak_rng {T k c : Int} {kN kU : Int → Int} (hk : 0 ≤ k ∧ k ≤ T) (h4 : T ≤ 4) (hN : ∀ j : Int, 0 ≤ j → j < T → -60 ≤ kN (4 * c + j) ∧ kN (4 * c + j) ≤ 60) (hU : ∀ j : Int, 0 ≤ j → j < T → -6144000000000000 ≤ kU j ∧ kU j ≤ 6144000000000000) : -1474560000000000000 ≤ zsum (fun j => kN (4 * c + j) * kU j) k ∧ zsum (fun j => kN (4 * c + j) * kU j) k ≤ 1474560000000000000 := by
  have := zsum_rng2 (f := fun j => kN (4 * c + j) * kU j) (lo := -368640000000000000) (hi := 368640000000000000) hk.1 (fun j j0 j1 => mul_abs (A := 60) (B := 6144000000000000) (hN j j0 (by omega)) (hU j j0 (by omega)))
  omega
theorem ak_lo {m l : Int} (hm : 0 ≤ m ∧ m ≤ 200) (hl : 0 < l ∧ l ≤ 6144000000000000) : 0 ≤ m * l ∧ m * l ≤ 1228800000000000000 := mul_pos_rng (a := m) (A := 200) (b := l) (B := 6144000000000000) hm ⟨by omega, by omega⟩
theorem tb_w {d v : Int} {kU O : Int → Int} (hv : v = zsum (fun j => yS kU (j + 1) * O (j + 1)) (d - 1)) (hd : 1 ≤ d) : v + kU (d - 1) * O d = zsum (fun j => yS kU (j + 1) * O (j + 1)) (d + 1 - 1) := by
  have := w_step (f := yS kU) (O := O) hv hd
  exact this
theorem dear_step {d v P B : Int} {kT y : Int → Int} (hv : v = P - zsum (fun j => yS y (j + 1) * mYield kT B (j + 1)) (d - 1)) (hd : 1 ≤ d) : v - y (d - 1) * mYield kT B d = P - zsum (fun j => yS y (j + 1) * mYield kT B (j + 1)) (d + 1 - 1) := by
  rw [show d + 1 - 1 = d - 1 + 1 by omega, zsum_succ _ (by omega)]
  show _ = P - (zsum (fun j => yS y (j + 1) * mYield kT B (j + 1)) (d - 1) + yS y (d - 1 + 1) * mYield kT B (d - 1 + 1))
  rw [show d - 1 + 1 = d by omega]
  have : yS y d = y (d - 1) := rfl
  rw [this]
  omega
theorem srt4_congr {T n : Int} {g h : Int → Int} (h1 : 1 ≤ T) (h4 : T ≤ 4) (e : eqT T g h) (hs : srt4 T n h) : srt4 T n g := by
  have := srt_of4 h4 hs
  refine srt4_of h1 (fun i a b => by rw [e i a b]; exact this.1 i a b) (fun i a b => by rw [e i a (by omega), e (i + 1) (by omega) b]; exact this.2 i a b)
theorem lx_congr {T : Int} {g h h' : Int → Int} (h1 : 1 ≤ T) (h4 : T ≤ 4) (e : eqT T h' h) (q : lx T g h' ∨ eqT T g h') : lx T g h ∨ eqT T g h := by
  have e0 := e 0 (by omega) (by omega)
  have e1 := e 1 (by omega)
  have e2 := e 2 (by omega)
  have e3 := e 3 (by omega)
  rcases q with q | q
  · left
    rcases q with q | ⟨q, t1, q | ⟨q1, t2, q | ⟨q2, t3, q⟩⟩⟩
    · exact Or.inl (by omega)
    · exact Or.inr ⟨by omega, t1, Or.inl (by rw [← e1 t1]; exact q)⟩
    · exact Or.inr ⟨by omega, t1, Or.inr ⟨by rw [← e1 t1]; exact q1, t2, Or.inl (by rw [← e2 t2]; exact q)⟩⟩
    · exact Or.inr ⟨by omega, t1, Or.inr ⟨by rw [← e1 t1]; exact q1, t2, Or.inr ⟨by rw [← e2 t2]; exact q2, t3, by rw [← e3 t3]; exact q⟩⟩⟩
  · right
    exact fun i a b => (q i a b).trans (e i a b)
theorem wt_congr {T : Int} {h h' : Int → Int} (h1 : 1 ≤ T) (_ : T ≤ 4) (e : eqT T h' h) : wt T h' = wt T h := by
  have e0 := e 0 (by omega) (by omega)
  have e1 := e 1 (by omega)
  have e2 := e 2 (by omega)
  have e3 := e 3 (by omega)
  unfold wt
  rw [e0]
  congr 1
  · congr 1
    · congr 1
      split
      · rename_i q; rw [e1 q]
      · rfl
    · split
      · rename_i q; rw [e2 q]
      · rfl
  · split
    · rename_i q; rw [e3 q]
    · rfl
theorem dear_pos {kT : Int → Int} {D p : Int} {Y : Int → Int} (hk : mOk kT) (h : nBest (kT 0) (kT 1 + kT 0 + 1) (mBF (kT 0) (kT 1) kT) (fun d => kT (2 + d)) (mBG (kT 0) (kT 1) kT) D p Y) {b : Int} (hb : 0 ≤ b ∧ b < kT 1) : 0 ≤ kT (27 + b) * D - zsum (fun j => Y (j + 1) * mYield kT b (j + 1)) (kT 0) ∧ kT (27 + b) * D - zsum (fun j => Y (j + 1) * mYield kT b (j + 1)) (kT 0) ≤ 1228800000000000000 := by
  have k1 := hk.1
  have k2 := hk.2.1
  have hp := hk.2.2 (27 + b) (by omega) (by omega)
  have hD := h.2.1
  have m := ak_lo hp hD
  have n : 0 ≤ zsum (fun j => Y (j + 1) * mYield kT b (j + 1)) (kT 0) := by
    have := zsum_rng2 (f := fun j => Y (j + 1) * mYield kT b (j + 1)) (lo := 0) (hi := 2457600000000000000) (n := kT 0) (by omega) (fun j a c => mul_pos_rng (A := 6144000000000000) (B := 400) (h.2.2.2.2 (j + 1) (by omega) (by omega)) (mYield_rng hk (by omega) (j + 1)))
    omega
  rcases h.1 with ⟨a, -⟩ | ⟨-, ⟨g, c⟩, -⟩
  · omega
  · have q := c.2.2.2.2 b hb.1 (by omega)
    have e1 : mBG (kT 0) (kT 1) kT b = kT (27 + b) := by unfold mBG; rw [if_pos hb.2]
    have e2 : dsum (kT 0) (mBF (kT 0) (kT 1) kT) Y b = zsum (fun j => Y (j + 1) * mYield kT b (j + 1)) (kT 0) := zsum_congr (fun j j0 j1 => by show Y (j + 1) * mBF (kT 0) (kT 1) kT b (j + 1) = _; unfold mBF; rw [if_pos hb.2, if_pos (by omega)])
    rw [e1, e2, Int.mul_comm] at q
    omega
