/-- multipliers at a corner -/
def dsum (T : Int) (E : Int → Int → Int) (Y : Int → Int) (c : Int) : Int := zsum (fun j => Y (j + 1) * E c (j + 1)) T
def dcand (T n : Int) (E : Int → Int → Int) (P : Int → Int) (g : Int → Int) (D : Int) (Y : Int → Int) : Prop := inB T n g ∧ ¬ dB T E g = 0 ∧ 0 < D ∧ (∀ i : Int, 0 ≤ i → i < T → dsum T E Y (g i) = D * P (g i)) ∧ ∀ c : Int, 0 ≤ c → c < n → dsum T E Y c ≤ D * P c
theorem d4_tr (F : Int → Int → Int) : d4 (fun r => F r 0) (fun r => F r 1) (fun r => F r 2) (fun r => F r 3) = d4 (F 0) (F 1) (F 2) (F 3) := by unfold d4 two; grind
def trE (E : Int → Int → Int) (g : Int → Int) : Int → Int → Int := fun c r => E (g (r - 1)) (c + 1)
theorem pcol_tr (T : Int) (E : Int → Int → Int) (g : Int → Int) (i r : Int) : pcol T (trE E g) (fun i => i) i r = pcol T E g r i := by
  unfold pcol trE
  by_cases a : i < T
  · by_cases b : r < T
    · rw [if_pos a, if_pos b, if_pos b, if_pos a, show r + 1 - 1 = r by omega]
    · rw [if_pos a, if_neg b, if_neg b, if_neg (by omega)]
  · by_cases b : r < T
    · rw [if_neg a, if_neg (by omega), if_pos b, if_neg a]
    · rw [if_neg a, if_neg b]
      by_cases c : r = i
      · rw [if_pos c, if_pos c.symm]
      · rw [if_neg c, if_neg (fun q => c q.symm)]
theorem dB_tr (T : Int) (E : Int → Int → Int) (g : Int → Int) : dB T (trE E g) (fun i => i) = dB T E g := by
  unfold dB
  rw [← d4_tr (pcol T E g)]
  congr 1 <;> (funext r; exact pcol_tr ..)
theorem uniR {T : Int} {E : Int → Int → Int} {g w : Int → Int} (h1 : 1 ≤ T) (h4 : T ≤ 4) (hd : ¬ dB T E g = 0) (h : ∀ i : Int, 0 ≤ i → i < T → zsum (fun j => E (g i) (j + 1) * w j) T = 0) : ∀ j : Int, 0 ≤ j → j < T → w j = 0 := by
  refine uniB (E := trE E g) (g := fun i => i) h1 h4 (by rw [dB_tr]; exact hd) (fun r r0 r1 => ?_)
  exact h (r - 1) (by omega) (by omega)
theorem dcand_uniq {T n D D' : Int} {E : Int → Int → Int} {P g Y Y' : Int → Int} (h1 : 1 ≤ T) (h4 : T ≤ 4) (h : inB T n g ∧ ¬ dB T E g = 0 ∧ 0 < D ∧ (∀ i : Int, 0 ≤ i → i < T → dsum T E Y (g i) = D * P (g i))) (h' : dcand T n E P g D' Y') : ∀ j : Int, 1 ≤ j → j ≤ T → Y j * D' = Y' j * D := by
  intro j j0 j1
  have k := uniR (w := fun j => Y (j + 1) * D' - Y' (j + 1) * D) h1 h4 h.2.1 (fun i i0 i1 => by
    have a := h.2.2.2 i i0 i1
    have b := h'.2.2.2.1 i i0 i1
    unfold dsum at a b
    have e : zsum (fun j => E (g i) (j + 1) * (Y (j + 1) * D' - Y' (j + 1) * D)) T = zsum (fun j => Y (j + 1) * E (g i) (j + 1)) T * D' + -(zsum (fun j => Y' (j + 1) * E (g i) (j + 1)) T * D) := by
      rw [← zsum_mulr, ← zsum_mulr, ← zsum_neg, ← zsum_add]
      refine zsum_congr (fun j _ _ => ?_)
      show E (g i) (j + 1) * (Y (j + 1) * D' - Y' (j + 1) * D) = Y (j + 1) * E (g i) (j + 1) * D' + -(Y' (j + 1) * E (g i) (j + 1) * D)
      grind
    rw [e, a, b]
    grind) (j - 1) (by omega) (by omega)
  have k9 : Y (j - 1 + 1) * D' - Y' (j - 1 + 1) * D = 0 := k
  rw [show j - 1 + 1 = j by omega] at k9
  omega
theorem inv_left {T D : Int} {E M : Int → Int → Int} {g : Int → Int} (h1 : 1 ≤ T) (h4 : T ≤ 4) (h : isInv T E g D M) {i k : Int} (i0 : 0 ≤ i) (i1 : i < T) (k0 : 0 ≤ k) (k1 : k < T) : zsum (fun j => M i (T + j) * E (g k) (j + 1)) T = D * (if i = k then 1 else 0) := by
  have := sol_uniq (E := E) (O := E (g k)) (g := g) (v := fun i => vvI T M (E (g k)) i) (v' := fun i => if k = i then 1 else 0) (D := D) (D' := 1) h1 h4 (inv_dB h1 h4 h) (fun r r0 r1 => vv_sol h r0 r1) (fun r r0 r1 => by
    rw [zsum_congr (g := fun i => if k = i then (fun i => E (g i) r) i else 0) (fun i _ _ => ?_), zsum_ind (fun i => E (g i) r) k k0 k1]
    · show E (g k) r = 1 * E (g k) r; omega
    · show E (g i) r * (if k = i then 1 else 0) = if k = i then E (g i) r else 0
      split
      · omega
      · omega) i i0 i1
  have k9 : zsum (fun j => M i (T + j) * E (g k) (j + 1)) T * 1 = (if k = i then 1 else 0) * D := this
  rw [Int.mul_one] at k9
  rw [k9]
  by_cases q : i = k
  · rw [if_pos q, if_pos q.symm]; omega
  · rw [if_neg q, if_neg (fun w => q w.symm)]; omega
def yyI (T : Int) (M : Int → Int → Int) (P g : Int → Int) (d : Int) : Int := zsum (fun i => P (g i) * M i (T + d - 1)) T
theorem yy_sol {T D : Int} {E M : Int → Int → Int} {P g Y : Int → Int} (h1 : 1 ≤ T) (h4 : T ≤ 4) (h : isInv T E g D M) (hY : ∀ d : Int, 1 ≤ d → d ≤ T → Y d = yyI T M P g d) {k : Int} (k0 : 0 ≤ k) (k1 : k < T) : dsum T E Y (g k) = D * P (g k) := by
  unfold dsum
  rw [zsum_congr (g := fun j => zsum (fun i => P (g i) * (M i (T + j) * E (g k) (j + 1))) T) (fun j j0 j1 => ?_), zsum_comm, zsum_congr (g := fun i => if k = i then (fun i => P (g i) * D) i else 0) (fun i i0 i1 => ?_), zsum_ind (fun i => P (g i) * D) k k0 k1]
  · exact Int.mul_comm _ _
  · rw [zsum_mull, inv_left h1 h4 h i0 i1 k0 k1]
    by_cases q : k = i
    · rw [if_pos q, if_pos q.symm, Int.mul_one]
    · rw [if_neg q, if_neg (fun w => q w.symm), Int.mul_zero, Int.mul_zero]
  · rw [hY (j + 1) (by omega) (by omega)]
    unfold yyI
    rw [← zsum_mulr]
    refine zsum_congr (fun i _ _ => ?_)
    show P (g i) * M i (T + (j + 1) - 1) * E (g k) (j + 1) = _
    rw [show T + (j + 1) - 1 = T + j by omega, Int.mul_assoc]
theorem dcand_of {T n D : Int} {E M : Int → Int → Int} {P g Y : Int → Int} (h1 : 1 ≤ T) (h4 : T ≤ 4) (h : isInv T E g D M) (hg : inB T n g) (hY : ∀ d : Int, 1 ≤ d → d ≤ T → Y d = yyI T M P g d) (hx : ∀ c : Int, 0 ≤ c → c < n → 0 ≤ P c * D - dsum T E Y c) : dcand T n E P g D Y :=
  ⟨hg, inv_dB h1 h4 h, by have := h.1; omega, fun i i0 i1 => yy_sol h1 h4 h hY i0 i1, fun c c0 c1 => by have := hx c c0 c1; rw [Int.mul_comm D]; omega⟩
theorem dcand_no {T n D c : Int} {E M : Int → Int → Int} {P g Y : Int → Int} (h1 : 1 ≤ T) (h4 : T ≤ 4) (h : isInv T E g D M) (hg : inB T n g) (hY : ∀ d : Int, 1 ≤ d → d ≤ T → Y d = yyI T M P g d) (c0 : 0 ≤ c) (c1 : c < n) (hx : P c * D - dsum T E Y c < 0) : ∀ D' Y', ¬ dcand T n E P g D' Y' := by
  intro D' Y' q
  have hp : 0 < D := by have := h.1; omega
  have k := dcand_uniq h1 h4 ⟨hg, inv_dB h1 h4 h, hp, fun i i0 i1 => yy_sol h1 h4 h hY i0 i1⟩ q
  have a := q.2.2.2.2 c c0 c1
  have e : dsum T E Y c * D' = dsum T E Y' c * D := by
    unfold dsum
    rw [← zsum_mulr, ← zsum_mulr]
    refine zsum_congr (fun j j0 j1 => ?_)
    have := k (j + 1) (by omega) (by omega)
    show Y (j + 1) * E c (j + 1) * D' = Y' (j + 1) * E c (j + 1) * D
    rw [Int.mul_right_comm, this, Int.mul_right_comm]
  have b := q.2.2.1
  have m1 : P c * D * D' < dsum T E Y c * D' := Int.mul_lt_mul_of_pos_right (by omega) b
  have m2 : dsum T E Y' c * D ≤ D' * P c * D := Int.mul_le_mul_of_nonneg_right a (by omega)
  have e2 : D' * P c * D = P c * D * D' := by grind
  omega
/-- what the sums' columns look like -/
def stdE (T B : Int) (E : Int → Int → Int) (G : Int → Int) : Prop := ∀ s r : Int, 0 ≤ s → s ≤ T → 1 ≤ r → r ≤ T → E (B + s) r = if s = r then -20 else if s = r - 1 then G r else 0
theorem zsum_app (f : Int → Int) {a b : Int} (ha : 0 ≤ a) (hb : 0 ≤ b) : zsum f (a + b) = zsum f a + zsum (fun i => f (a + i)) b := by
  have key : ∀ m : Nat, zsum f (a + (m : Int)) = zsum f a + sumN (fun i => f (a + i)) m := by
    intro m
    induction m with
    | zero => show zsum f (a + 0) = zsum f a + 0; rw [Int.add_zero, Int.add_zero]
    | succ m ih =>
      rw [show a + ((m + 1 : Nat) : Int) = a + (m : Int) + 1 by omega, zsum_succ _ (by omega), ih]
      show _ = zsum f a + (sumN (fun i => f (a + i)) m + f (a + m))
      omega
  have := key b.toNat
  rw [Int.toNat_of_nonneg hb] at this
  exact this
theorem eq_std {T B r : Int} {E : Int → Int → Int} {G V : Int → Int} (hB : 0 ≤ B) (hT : 1 ≤ T) (hE : stdE T B E G) (r0 : 1 ≤ r) (r1 : r ≤ T) : zsum (fun c => E c r * V c) (B + T + 1) = zsum (fun b => E b r * V b) B + (G r * V (B + r - 1) - 20 * V (B + r)) := by
  rw [show B + T + 1 = B + (T + 1) by omega, zsum_app _ hB (by omega)]
  congr 1
  rw [zsum_congr (g := fun s => (if r = s then (fun s => -20 * V (B + s)) s else 0) + (if r - 1 = s then (fun s => G r * V (B + s)) s else 0)) (fun s s0 s1 => ?_), zsum_add, zsum_ind (fun s => -20 * V (B + s)) r (by omega) (by omega), zsum_ind (fun s => G r * V (B + s)) (r - 1) (by omega) (by omega)]
  · show -20 * V (B + r) + G r * V (B + (r - 1)) = _
    rw [show B + (r - 1) = B + r - 1 by omega]; omega
  · show E (B + s) r * V (B + s) = _
    rw [hE s r s0 (by omega) r0 r1]
    by_cases a : r = s
    · rw [if_pos a.symm, if_pos a, if_neg (by omega)]; show -20 * V (B + s) = -20 * V (B + s) + 0; omega
    · rw [if_neg (fun q => a q.symm), if_neg a]
      by_cases b : r - 1 = s
      · rw [if_pos b.symm, if_pos b]; show G r * V (B + s) = 0 + G r * V (B + s); omega
      · rw [if_neg (fun q => b q.symm), if_neg b]; omega
/-- the sums but one are a basis -/
def gAll (B t : Int) : Int → Int := fun i => if i < t then B + i else B + i + 1
theorem gAll_col {T B t i r : Int} {E : Int → Int → Int} {G : Int → Int} (hE : stdE T B E G) (t0 : 0 ≤ t) (t1 : t ≤ T) (i0 : 0 ≤ i) (i1 : i < T) (r0 : 0 ≤ r) (r1 : r < T) : pcol T E (gAll B t) i r = if i < t then (if i = r + 1 then -20 else if i = r then G (r + 1) else 0) else (if i = r then -20 else if i + 1 = r then G (r + 1) else 0) := by
  unfold pcol gAll
  rw [if_pos i1, if_pos r1]
  by_cases q : i < t
  · rw [if_pos q, if_pos q, hE i (r + 1) i0 (by omega) (by omega) (by omega)]
    by_cases a : i = r + 1
    · rw [if_pos a, if_pos a]
    · rw [if_neg a, if_neg a]
      by_cases b : i = r
      · rw [if_pos b, if_pos (by omega)]
      · rw [if_neg b, if_neg (by omega)]
  · rw [if_neg q, if_neg q, show B + i + 1 = B + (i + 1) by omega, hE (i + 1) (r + 1) (by omega) (by omega) (by omega) (by omega)]
    by_cases a : i = r
    · rw [if_pos a, if_pos (by omega)]
    · rw [if_neg a, if_neg (by omega)]
      by_cases b : i + 1 = r
      · rw [if_pos b, if_pos (by omega)]
      · rw [if_neg b, if_neg (by omega)]
theorem mulne {a b : Int} (ha : ¬ a = 0) (hb : ¬ b = 0) : ¬ a * b = 0 := fun h => (Int.mul_eq_zero.mp h).elim ha hb
theorem gAll_dB {T B t : Int} {E : Int → Int → Int} {G : Int → Int} (h1 : 1 ≤ T) (h4 : T ≤ 4) (hE : stdE T B E G) (hG : ∀ r : Int, 1 ≤ r → r ≤ T → 1 ≤ G r) (t0 : 0 ≤ t) (t1 : t ≤ T) : ¬ dB T E (gAll B t) = 0 := by
  have c := fun i r i0 i1 r0 r1 => gAll_col (i := i) (r := r) hE t0 t1 i0 i1 r0 r1
  have p : ∀ i r : Int, T ≤ i ∨ T ≤ r → pcol T E (gAll B t) i r = if i < T then 0 else if r = i then 1 else 0 := fun i r h => by
    unfold pcol
    by_cases q : i < T
    · rw [if_pos q, if_pos q, if_neg (by omega)]
    · rw [if_neg q, if_neg q]
  rcases (show T = 1 ∨ T = 2 ∨ T = 3 ∨ T = 4 by omega) with rfl | rfl | rfl | rfl
  · rcases (show t = 0 ∨ t = 1 by omega) with rfl | rfl
    · have e00 : pcol 1 E (gAll B 0) 0 0 = -20 := by rw [c 0 0 (by omega) (by omega) (by omega) (by omega)]; simp
      have e01 : pcol 1 E (gAll B 0) 0 1 = 0 := by rw [p 0 1 (by omega)]; simp
      have e02 : pcol 1 E (gAll B 0) 0 2 = 0 := by rw [p 0 2 (by omega)]; simp
      have e03 : pcol 1 E (gAll B 0) 0 3 = 0 := by rw [p 0 3 (by omega)]; simp
      have e10 : pcol 1 E (gAll B 0) 1 0 = 0 := by rw [p 1 0 (by omega)]; simp
      have e11 : pcol 1 E (gAll B 0) 1 1 = 1 := by rw [p 1 1 (by omega)]; simp
      have e12 : pcol 1 E (gAll B 0) 1 2 = 0 := by rw [p 1 2 (by omega)]; simp
      have e13 : pcol 1 E (gAll B 0) 1 3 = 0 := by rw [p 1 3 (by omega)]; simp
      have e20 : pcol 1 E (gAll B 0) 2 0 = 0 := by rw [p 2 0 (by omega)]; simp
      have e21 : pcol 1 E (gAll B 0) 2 1 = 0 := by rw [p 2 1 (by omega)]; simp
      have e22 : pcol 1 E (gAll B 0) 2 2 = 1 := by rw [p 2 2 (by omega)]; simp
      have e23 : pcol 1 E (gAll B 0) 2 3 = 0 := by rw [p 2 3 (by omega)]; simp
      have e30 : pcol 1 E (gAll B 0) 3 0 = 0 := by rw [p 3 0 (by omega)]; simp
      have e31 : pcol 1 E (gAll B 0) 3 1 = 0 := by rw [p 3 1 (by omega)]; simp
      have e32 : pcol 1 E (gAll B 0) 3 2 = 0 := by rw [p 3 2 (by omega)]; simp
      have e33 : pcol 1 E (gAll B 0) 3 3 = 1 := by rw [p 3 3 (by omega)]; simp
      have e9 : dB 1 E (gAll B 0) = (-20) := by unfold dB d4 two; simp only [show (0 : Int) + 1 = 1 by rfl, show (2 : Int) + 1 = 3 by rfl, e00, e01, e02, e03, e10, e11, e12, e13, e20, e21, e22, e23, e30, e31, e32, e33]; grind
      rw [e9]
      exact (by omega)
    · have e00 : pcol 1 E (gAll B 1) 0 0 = G 1 := by rw [c 0 0 (by omega) (by omega) (by omega) (by omega)]; simp
      have e01 : pcol 1 E (gAll B 1) 0 1 = 0 := by rw [p 0 1 (by omega)]; simp
      have e02 : pcol 1 E (gAll B 1) 0 2 = 0 := by rw [p 0 2 (by omega)]; simp
      have e03 : pcol 1 E (gAll B 1) 0 3 = 0 := by rw [p 0 3 (by omega)]; simp
      have e10 : pcol 1 E (gAll B 1) 1 0 = 0 := by rw [p 1 0 (by omega)]; simp
      have e11 : pcol 1 E (gAll B 1) 1 1 = 1 := by rw [p 1 1 (by omega)]; simp
      have e12 : pcol 1 E (gAll B 1) 1 2 = 0 := by rw [p 1 2 (by omega)]; simp
      have e13 : pcol 1 E (gAll B 1) 1 3 = 0 := by rw [p 1 3 (by omega)]; simp
      have e20 : pcol 1 E (gAll B 1) 2 0 = 0 := by rw [p 2 0 (by omega)]; simp
      have e21 : pcol 1 E (gAll B 1) 2 1 = 0 := by rw [p 2 1 (by omega)]; simp
      have e22 : pcol 1 E (gAll B 1) 2 2 = 1 := by rw [p 2 2 (by omega)]; simp
      have e23 : pcol 1 E (gAll B 1) 2 3 = 0 := by rw [p 2 3 (by omega)]; simp
      have e30 : pcol 1 E (gAll B 1) 3 0 = 0 := by rw [p 3 0 (by omega)]; simp
      have e31 : pcol 1 E (gAll B 1) 3 1 = 0 := by rw [p 3 1 (by omega)]; simp
      have e32 : pcol 1 E (gAll B 1) 3 2 = 0 := by rw [p 3 2 (by omega)]; simp
      have e33 : pcol 1 E (gAll B 1) 3 3 = 1 := by rw [p 3 3 (by omega)]; simp
      have e9 : dB 1 E (gAll B 1) = G 1 := by unfold dB d4 two; simp only [show (0 : Int) + 1 = 1 by rfl, show (2 : Int) + 1 = 3 by rfl, e00, e01, e02, e03, e10, e11, e12, e13, e20, e21, e22, e23, e30, e31, e32, e33]; grind
      rw [e9]
      exact (by have := hG 1 (by omega) (by omega); omega)
  · rcases (show t = 0 ∨ t = 1 ∨ t = 2 by omega) with rfl | rfl | rfl
    · have e00 : pcol 2 E (gAll B 0) 0 0 = -20 := by rw [c 0 0 (by omega) (by omega) (by omega) (by omega)]; simp
      have e01 : pcol 2 E (gAll B 0) 0 1 = G 2 := by rw [c 0 1 (by omega) (by omega) (by omega) (by omega)]; simp
      have e02 : pcol 2 E (gAll B 0) 0 2 = 0 := by rw [p 0 2 (by omega)]; simp
      have e03 : pcol 2 E (gAll B 0) 0 3 = 0 := by rw [p 0 3 (by omega)]; simp
      have e10 : pcol 2 E (gAll B 0) 1 0 = 0 := by rw [c 1 0 (by omega) (by omega) (by omega) (by omega)]; simp
      have e11 : pcol 2 E (gAll B 0) 1 1 = -20 := by rw [c 1 1 (by omega) (by omega) (by omega) (by omega)]; simp
      have e12 : pcol 2 E (gAll B 0) 1 2 = 0 := by rw [p 1 2 (by omega)]; simp
      have e13 : pcol 2 E (gAll B 0) 1 3 = 0 := by rw [p 1 3 (by omega)]; simp
      have e20 : pcol 2 E (gAll B 0) 2 0 = 0 := by rw [p 2 0 (by omega)]; simp
      have e21 : pcol 2 E (gAll B 0) 2 1 = 0 := by rw [p 2 1 (by omega)]; simp
      have e22 : pcol 2 E (gAll B 0) 2 2 = 1 := by rw [p 2 2 (by omega)]; simp
      have e23 : pcol 2 E (gAll B 0) 2 3 = 0 := by rw [p 2 3 (by omega)]; simp
      have e30 : pcol 2 E (gAll B 0) 3 0 = 0 := by rw [p 3 0 (by omega)]; simp
      have e31 : pcol 2 E (gAll B 0) 3 1 = 0 := by rw [p 3 1 (by omega)]; simp
      have e32 : pcol 2 E (gAll B 0) 3 2 = 0 := by rw [p 3 2 (by omega)]; simp
      have e33 : pcol 2 E (gAll B 0) 3 3 = 1 := by rw [p 3 3 (by omega)]; simp
      have e9 : dB 2 E (gAll B 0) = (-20) * (-20) := by unfold dB d4 two; simp only [show (0 : Int) + 1 = 1 by rfl, show (2 : Int) + 1 = 3 by rfl, e00, e01, e02, e03, e10, e11, e12, e13, e20, e21, e22, e23, e30, e31, e32, e33]; grind
      rw [e9]
      exact (mulne (by omega) (by omega))
    · have e00 : pcol 2 E (gAll B 1) 0 0 = G 1 := by rw [c 0 0 (by omega) (by omega) (by omega) (by omega)]; simp
      have e01 : pcol 2 E (gAll B 1) 0 1 = 0 := by rw [c 0 1 (by omega) (by omega) (by omega) (by omega)]; simp
      have e02 : pcol 2 E (gAll B 1) 0 2 = 0 := by rw [p 0 2 (by omega)]; simp
      have e03 : pcol 2 E (gAll B 1) 0 3 = 0 := by rw [p 0 3 (by omega)]; simp
      have e10 : pcol 2 E (gAll B 1) 1 0 = 0 := by rw [c 1 0 (by omega) (by omega) (by omega) (by omega)]; simp
      have e11 : pcol 2 E (gAll B 1) 1 1 = -20 := by rw [c 1 1 (by omega) (by omega) (by omega) (by omega)]; simp
      have e12 : pcol 2 E (gAll B 1) 1 2 = 0 := by rw [p 1 2 (by omega)]; simp
      have e13 : pcol 2 E (gAll B 1) 1 3 = 0 := by rw [p 1 3 (by omega)]; simp
      have e20 : pcol 2 E (gAll B 1) 2 0 = 0 := by rw [p 2 0 (by omega)]; simp
      have e21 : pcol 2 E (gAll B 1) 2 1 = 0 := by rw [p 2 1 (by omega)]; simp
      have e22 : pcol 2 E (gAll B 1) 2 2 = 1 := by rw [p 2 2 (by omega)]; simp
      have e23 : pcol 2 E (gAll B 1) 2 3 = 0 := by rw [p 2 3 (by omega)]; simp
      have e30 : pcol 2 E (gAll B 1) 3 0 = 0 := by rw [p 3 0 (by omega)]; simp
      have e31 : pcol 2 E (gAll B 1) 3 1 = 0 := by rw [p 3 1 (by omega)]; simp
      have e32 : pcol 2 E (gAll B 1) 3 2 = 0 := by rw [p 3 2 (by omega)]; simp
      have e33 : pcol 2 E (gAll B 1) 3 3 = 1 := by rw [p 3 3 (by omega)]; simp
      have e9 : dB 2 E (gAll B 1) = G 1 * (-20) := by unfold dB d4 two; simp only [show (0 : Int) + 1 = 1 by rfl, show (2 : Int) + 1 = 3 by rfl, e00, e01, e02, e03, e10, e11, e12, e13, e20, e21, e22, e23, e30, e31, e32, e33]; grind
      rw [e9]
      exact (mulne (by have := hG 1 (by omega) (by omega); omega) (by omega))
    · have e00 : pcol 2 E (gAll B 2) 0 0 = G 1 := by rw [c 0 0 (by omega) (by omega) (by omega) (by omega)]; simp
      have e01 : pcol 2 E (gAll B 2) 0 1 = 0 := by rw [c 0 1 (by omega) (by omega) (by omega) (by omega)]; simp
      have e02 : pcol 2 E (gAll B 2) 0 2 = 0 := by rw [p 0 2 (by omega)]; simp
      have e03 : pcol 2 E (gAll B 2) 0 3 = 0 := by rw [p 0 3 (by omega)]; simp
      have e10 : pcol 2 E (gAll B 2) 1 0 = -20 := by rw [c 1 0 (by omega) (by omega) (by omega) (by omega)]; simp
      have e11 : pcol 2 E (gAll B 2) 1 1 = G 2 := by rw [c 1 1 (by omega) (by omega) (by omega) (by omega)]; simp
      have e12 : pcol 2 E (gAll B 2) 1 2 = 0 := by rw [p 1 2 (by omega)]; simp
      have e13 : pcol 2 E (gAll B 2) 1 3 = 0 := by rw [p 1 3 (by omega)]; simp
      have e20 : pcol 2 E (gAll B 2) 2 0 = 0 := by rw [p 2 0 (by omega)]; simp
      have e21 : pcol 2 E (gAll B 2) 2 1 = 0 := by rw [p 2 1 (by omega)]; simp
      have e22 : pcol 2 E (gAll B 2) 2 2 = 1 := by rw [p 2 2 (by omega)]; simp
      have e23 : pcol 2 E (gAll B 2) 2 3 = 0 := by rw [p 2 3 (by omega)]; simp
      have e30 : pcol 2 E (gAll B 2) 3 0 = 0 := by rw [p 3 0 (by omega)]; simp
      have e31 : pcol 2 E (gAll B 2) 3 1 = 0 := by rw [p 3 1 (by omega)]; simp
      have e32 : pcol 2 E (gAll B 2) 3 2 = 0 := by rw [p 3 2 (by omega)]; simp
      have e33 : pcol 2 E (gAll B 2) 3 3 = 1 := by rw [p 3 3 (by omega)]; simp
      have e9 : dB 2 E (gAll B 2) = G 1 * G 2 := by unfold dB d4 two; simp only [show (0 : Int) + 1 = 1 by rfl, show (2 : Int) + 1 = 3 by rfl, e00, e01, e02, e03, e10, e11, e12, e13, e20, e21, e22, e23, e30, e31, e32, e33]; grind
      rw [e9]
      exact (mulne (by have := hG 1 (by omega) (by omega); omega) (by have := hG 2 (by omega) (by omega); omega))
  · rcases (show t = 0 ∨ t = 1 ∨ t = 2 ∨ t = 3 by omega) with rfl | rfl | rfl | rfl
    · have e00 : pcol 3 E (gAll B 0) 0 0 = -20 := by rw [c 0 0 (by omega) (by omega) (by omega) (by omega)]; simp
      have e01 : pcol 3 E (gAll B 0) 0 1 = G 2 := by rw [c 0 1 (by omega) (by omega) (by omega) (by omega)]; simp
      have e02 : pcol 3 E (gAll B 0) 0 2 = 0 := by rw [c 0 2 (by omega) (by omega) (by omega) (by omega)]; simp
      have e03 : pcol 3 E (gAll B 0) 0 3 = 0 := by rw [p 0 3 (by omega)]; simp
      have e10 : pcol 3 E (gAll B 0) 1 0 = 0 := by rw [c 1 0 (by omega) (by omega) (by omega) (by omega)]; simp
      have e11 : pcol 3 E (gAll B 0) 1 1 = -20 := by rw [c 1 1 (by omega) (by omega) (by omega) (by omega)]; simp
      have e12 : pcol 3 E (gAll B 0) 1 2 = G 3 := by rw [c 1 2 (by omega) (by omega) (by omega) (by omega)]; simp
      have e13 : pcol 3 E (gAll B 0) 1 3 = 0 := by rw [p 1 3 (by omega)]; simp
      have e20 : pcol 3 E (gAll B 0) 2 0 = 0 := by rw [c 2 0 (by omega) (by omega) (by omega) (by omega)]; simp
      have e21 : pcol 3 E (gAll B 0) 2 1 = 0 := by rw [c 2 1 (by omega) (by omega) (by omega) (by omega)]; simp
      have e22 : pcol 3 E (gAll B 0) 2 2 = -20 := by rw [c 2 2 (by omega) (by omega) (by omega) (by omega)]; simp
      have e23 : pcol 3 E (gAll B 0) 2 3 = 0 := by rw [p 2 3 (by omega)]; simp
      have e30 : pcol 3 E (gAll B 0) 3 0 = 0 := by rw [p 3 0 (by omega)]; simp
      have e31 : pcol 3 E (gAll B 0) 3 1 = 0 := by rw [p 3 1 (by omega)]; simp
      have e32 : pcol 3 E (gAll B 0) 3 2 = 0 := by rw [p 3 2 (by omega)]; simp
      have e33 : pcol 3 E (gAll B 0) 3 3 = 1 := by rw [p 3 3 (by omega)]; simp
      have e9 : dB 3 E (gAll B 0) = (-20) * (-20) * (-20) := by unfold dB d4 two; simp only [show (0 : Int) + 1 = 1 by rfl, show (2 : Int) + 1 = 3 by rfl, e00, e01, e02, e03, e10, e11, e12, e13, e20, e21, e22, e23, e30, e31, e32, e33]; grind
      rw [e9]
      exact (mulne (mulne (by omega) (by omega)) (by omega))
    · have e00 : pcol 3 E (gAll B 1) 0 0 = G 1 := by rw [c 0 0 (by omega) (by omega) (by omega) (by omega)]; simp
      have e01 : pcol 3 E (gAll B 1) 0 1 = 0 := by rw [c 0 1 (by omega) (by omega) (by omega) (by omega)]; simp
      have e02 : pcol 3 E (gAll B 1) 0 2 = 0 := by rw [c 0 2 (by omega) (by omega) (by omega) (by omega)]; simp
      have e03 : pcol 3 E (gAll B 1) 0 3 = 0 := by rw [p 0 3 (by omega)]; simp
      have e10 : pcol 3 E (gAll B 1) 1 0 = 0 := by rw [c 1 0 (by omega) (by omega) (by omega) (by omega)]; simp
      have e11 : pcol 3 E (gAll B 1) 1 1 = -20 := by rw [c 1 1 (by omega) (by omega) (by omega) (by omega)]; simp
      have e12 : pcol 3 E (gAll B 1) 1 2 = G 3 := by rw [c 1 2 (by omega) (by omega) (by omega) (by omega)]; simp
      have e13 : pcol 3 E (gAll B 1) 1 3 = 0 := by rw [p 1 3 (by omega)]; simp
      have e20 : pcol 3 E (gAll B 1) 2 0 = 0 := by rw [c 2 0 (by omega) (by omega) (by omega) (by omega)]; simp
      have e21 : pcol 3 E (gAll B 1) 2 1 = 0 := by rw [c 2 1 (by omega) (by omega) (by omega) (by omega)]; simp
      have e22 : pcol 3 E (gAll B 1) 2 2 = -20 := by rw [c 2 2 (by omega) (by omega) (by omega) (by omega)]; simp
      have e23 : pcol 3 E (gAll B 1) 2 3 = 0 := by rw [p 2 3 (by omega)]; simp
      have e30 : pcol 3 E (gAll B 1) 3 0 = 0 := by rw [p 3 0 (by omega)]; simp
      have e31 : pcol 3 E (gAll B 1) 3 1 = 0 := by rw [p 3 1 (by omega)]; simp
      have e32 : pcol 3 E (gAll B 1) 3 2 = 0 := by rw [p 3 2 (by omega)]; simp
      have e33 : pcol 3 E (gAll B 1) 3 3 = 1 := by rw [p 3 3 (by omega)]; simp
      have e9 : dB 3 E (gAll B 1) = G 1 * (-20) * (-20) := by unfold dB d4 two; simp only [show (0 : Int) + 1 = 1 by rfl, show (2 : Int) + 1 = 3 by rfl, e00, e01, e02, e03, e10, e11, e12, e13, e20, e21, e22, e23, e30, e31, e32, e33]; grind
      rw [e9]
      exact (mulne (mulne (by have := hG 1 (by omega) (by omega); omega) (by omega)) (by omega))
    · have e00 : pcol 3 E (gAll B 2) 0 0 = G 1 := by rw [c 0 0 (by omega) (by omega) (by omega) (by omega)]; simp
      have e01 : pcol 3 E (gAll B 2) 0 1 = 0 := by rw [c 0 1 (by omega) (by omega) (by omega) (by omega)]; simp
      have e02 : pcol 3 E (gAll B 2) 0 2 = 0 := by rw [c 0 2 (by omega) (by omega) (by omega) (by omega)]; simp
      have e03 : pcol 3 E (gAll B 2) 0 3 = 0 := by rw [p 0 3 (by omega)]; simp
      have e10 : pcol 3 E (gAll B 2) 1 0 = -20 := by rw [c 1 0 (by omega) (by omega) (by omega) (by omega)]; simp
      have e11 : pcol 3 E (gAll B 2) 1 1 = G 2 := by rw [c 1 1 (by omega) (by omega) (by omega) (by omega)]; simp
      have e12 : pcol 3 E (gAll B 2) 1 2 = 0 := by rw [c 1 2 (by omega) (by omega) (by omega) (by omega)]; simp
      have e13 : pcol 3 E (gAll B 2) 1 3 = 0 := by rw [p 1 3 (by omega)]; simp
      have e20 : pcol 3 E (gAll B 2) 2 0 = 0 := by rw [c 2 0 (by omega) (by omega) (by omega) (by omega)]; simp
      have e21 : pcol 3 E (gAll B 2) 2 1 = 0 := by rw [c 2 1 (by omega) (by omega) (by omega) (by omega)]; simp
      have e22 : pcol 3 E (gAll B 2) 2 2 = -20 := by rw [c 2 2 (by omega) (by omega) (by omega) (by omega)]; simp
      have e23 : pcol 3 E (gAll B 2) 2 3 = 0 := by rw [p 2 3 (by omega)]; simp
      have e30 : pcol 3 E (gAll B 2) 3 0 = 0 := by rw [p 3 0 (by omega)]; simp
      have e31 : pcol 3 E (gAll B 2) 3 1 = 0 := by rw [p 3 1 (by omega)]; simp
      have e32 : pcol 3 E (gAll B 2) 3 2 = 0 := by rw [p 3 2 (by omega)]; simp
      have e33 : pcol 3 E (gAll B 2) 3 3 = 1 := by rw [p 3 3 (by omega)]; simp
      have e9 : dB 3 E (gAll B 2) = G 1 * G 2 * (-20) := by unfold dB d4 two; simp only [show (0 : Int) + 1 = 1 by rfl, show (2 : Int) + 1 = 3 by rfl, e00, e01, e02, e03, e10, e11, e12, e13, e20, e21, e22, e23, e30, e31, e32, e33]; grind
      rw [e9]
      exact (mulne (mulne (by have := hG 1 (by omega) (by omega); omega) (by have := hG 2 (by omega) (by omega); omega)) (by omega))
    · have e00 : pcol 3 E (gAll B 3) 0 0 = G 1 := by rw [c 0 0 (by omega) (by omega) (by omega) (by omega)]; simp
      have e01 : pcol 3 E (gAll B 3) 0 1 = 0 := by rw [c 0 1 (by omega) (by omega) (by omega) (by omega)]; simp
      have e02 : pcol 3 E (gAll B 3) 0 2 = 0 := by rw [c 0 2 (by omega) (by omega) (by omega) (by omega)]; simp
      have e03 : pcol 3 E (gAll B 3) 0 3 = 0 := by rw [p 0 3 (by omega)]; simp
      have e10 : pcol 3 E (gAll B 3) 1 0 = -20 := by rw [c 1 0 (by omega) (by omega) (by omega) (by omega)]; simp
      have e11 : pcol 3 E (gAll B 3) 1 1 = G 2 := by rw [c 1 1 (by omega) (by omega) (by omega) (by omega)]; simp
      have e12 : pcol 3 E (gAll B 3) 1 2 = 0 := by rw [c 1 2 (by omega) (by omega) (by omega) (by omega)]; simp
      have e13 : pcol 3 E (gAll B 3) 1 3 = 0 := by rw [p 1 3 (by omega)]; simp
      have e20 : pcol 3 E (gAll B 3) 2 0 = 0 := by rw [c 2 0 (by omega) (by omega) (by omega) (by omega)]; simp
      have e21 : pcol 3 E (gAll B 3) 2 1 = -20 := by rw [c 2 1 (by omega) (by omega) (by omega) (by omega)]; simp
      have e22 : pcol 3 E (gAll B 3) 2 2 = G 3 := by rw [c 2 2 (by omega) (by omega) (by omega) (by omega)]; simp
      have e23 : pcol 3 E (gAll B 3) 2 3 = 0 := by rw [p 2 3 (by omega)]; simp
      have e30 : pcol 3 E (gAll B 3) 3 0 = 0 := by rw [p 3 0 (by omega)]; simp
      have e31 : pcol 3 E (gAll B 3) 3 1 = 0 := by rw [p 3 1 (by omega)]; simp
      have e32 : pcol 3 E (gAll B 3) 3 2 = 0 := by rw [p 3 2 (by omega)]; simp
      have e33 : pcol 3 E (gAll B 3) 3 3 = 1 := by rw [p 3 3 (by omega)]; simp
      have e9 : dB 3 E (gAll B 3) = G 1 * G 2 * G 3 := by unfold dB d4 two; simp only [show (0 : Int) + 1 = 1 by rfl, show (2 : Int) + 1 = 3 by rfl, e00, e01, e02, e03, e10, e11, e12, e13, e20, e21, e22, e23, e30, e31, e32, e33]; grind
      rw [e9]
      exact (mulne (mulne (by have := hG 1 (by omega) (by omega); omega) (by have := hG 2 (by omega) (by omega); omega)) (by have := hG 3 (by omega) (by omega); omega))
  · rcases (show t = 0 ∨ t = 1 ∨ t = 2 ∨ t = 3 ∨ t = 4 by omega) with rfl | rfl | rfl | rfl | rfl
    · have e00 : pcol 4 E (gAll B 0) 0 0 = -20 := by rw [c 0 0 (by omega) (by omega) (by omega) (by omega)]; simp
      have e01 : pcol 4 E (gAll B 0) 0 1 = G 2 := by rw [c 0 1 (by omega) (by omega) (by omega) (by omega)]; simp
      have e02 : pcol 4 E (gAll B 0) 0 2 = 0 := by rw [c 0 2 (by omega) (by omega) (by omega) (by omega)]; simp
      have e03 : pcol 4 E (gAll B 0) 0 3 = 0 := by rw [c 0 3 (by omega) (by omega) (by omega) (by omega)]; simp
      have e10 : pcol 4 E (gAll B 0) 1 0 = 0 := by rw [c 1 0 (by omega) (by omega) (by omega) (by omega)]; simp
      have e11 : pcol 4 E (gAll B 0) 1 1 = -20 := by rw [c 1 1 (by omega) (by omega) (by omega) (by omega)]; simp
      have e12 : pcol 4 E (gAll B 0) 1 2 = G 3 := by rw [c 1 2 (by omega) (by omega) (by omega) (by omega)]; simp
      have e13 : pcol 4 E (gAll B 0) 1 3 = 0 := by rw [c 1 3 (by omega) (by omega) (by omega) (by omega)]; simp
      have e20 : pcol 4 E (gAll B 0) 2 0 = 0 := by rw [c 2 0 (by omega) (by omega) (by omega) (by omega)]; simp
      have e21 : pcol 4 E (gAll B 0) 2 1 = 0 := by rw [c 2 1 (by omega) (by omega) (by omega) (by omega)]; simp
      have e22 : pcol 4 E (gAll B 0) 2 2 = -20 := by rw [c 2 2 (by omega) (by omega) (by omega) (by omega)]; simp
      have e23 : pcol 4 E (gAll B 0) 2 3 = G 4 := by rw [c 2 3 (by omega) (by omega) (by omega) (by omega)]; simp
      have e30 : pcol 4 E (gAll B 0) 3 0 = 0 := by rw [c 3 0 (by omega) (by omega) (by omega) (by omega)]; simp
      have e31 : pcol 4 E (gAll B 0) 3 1 = 0 := by rw [c 3 1 (by omega) (by omega) (by omega) (by omega)]; simp
      have e32 : pcol 4 E (gAll B 0) 3 2 = 0 := by rw [c 3 2 (by omega) (by omega) (by omega) (by omega)]; simp
      have e33 : pcol 4 E (gAll B 0) 3 3 = -20 := by rw [c 3 3 (by omega) (by omega) (by omega) (by omega)]; simp
      have e9 : dB 4 E (gAll B 0) = (-20) * (-20) * (-20) * (-20) := by unfold dB d4 two; simp only [show (0 : Int) + 1 = 1 by rfl, show (2 : Int) + 1 = 3 by rfl, e00, e01, e02, e03, e10, e11, e12, e13, e20, e21, e22, e23, e30, e31, e32, e33]; grind
      rw [e9]
      exact (mulne (mulne (mulne (by omega) (by omega)) (by omega)) (by omega))
    · have e00 : pcol 4 E (gAll B 1) 0 0 = G 1 := by rw [c 0 0 (by omega) (by omega) (by omega) (by omega)]; simp
      have e01 : pcol 4 E (gAll B 1) 0 1 = 0 := by rw [c 0 1 (by omega) (by omega) (by omega) (by omega)]; simp
      have e02 : pcol 4 E (gAll B 1) 0 2 = 0 := by rw [c 0 2 (by omega) (by omega) (by omega) (by omega)]; simp
      have e03 : pcol 4 E (gAll B 1) 0 3 = 0 := by rw [c 0 3 (by omega) (by omega) (by omega) (by omega)]; simp
      have e10 : pcol 4 E (gAll B 1) 1 0 = 0 := by rw [c 1 0 (by omega) (by omega) (by omega) (by omega)]; simp
      have e11 : pcol 4 E (gAll B 1) 1 1 = -20 := by rw [c 1 1 (by omega) (by omega) (by omega) (by omega)]; simp
      have e12 : pcol 4 E (gAll B 1) 1 2 = G 3 := by rw [c 1 2 (by omega) (by omega) (by omega) (by omega)]; simp
      have e13 : pcol 4 E (gAll B 1) 1 3 = 0 := by rw [c 1 3 (by omega) (by omega) (by omega) (by omega)]; simp
      have e20 : pcol 4 E (gAll B 1) 2 0 = 0 := by rw [c 2 0 (by omega) (by omega) (by omega) (by omega)]; simp
      have e21 : pcol 4 E (gAll B 1) 2 1 = 0 := by rw [c 2 1 (by omega) (by omega) (by omega) (by omega)]; simp
      have e22 : pcol 4 E (gAll B 1) 2 2 = -20 := by rw [c 2 2 (by omega) (by omega) (by omega) (by omega)]; simp
      have e23 : pcol 4 E (gAll B 1) 2 3 = G 4 := by rw [c 2 3 (by omega) (by omega) (by omega) (by omega)]; simp
      have e30 : pcol 4 E (gAll B 1) 3 0 = 0 := by rw [c 3 0 (by omega) (by omega) (by omega) (by omega)]; simp
      have e31 : pcol 4 E (gAll B 1) 3 1 = 0 := by rw [c 3 1 (by omega) (by omega) (by omega) (by omega)]; simp
      have e32 : pcol 4 E (gAll B 1) 3 2 = 0 := by rw [c 3 2 (by omega) (by omega) (by omega) (by omega)]; simp
      have e33 : pcol 4 E (gAll B 1) 3 3 = -20 := by rw [c 3 3 (by omega) (by omega) (by omega) (by omega)]; simp
      have e9 : dB 4 E (gAll B 1) = G 1 * (-20) * (-20) * (-20) := by unfold dB d4 two; simp only [show (0 : Int) + 1 = 1 by rfl, show (2 : Int) + 1 = 3 by rfl, e00, e01, e02, e03, e10, e11, e12, e13, e20, e21, e22, e23, e30, e31, e32, e33]; grind
      rw [e9]
      exact (mulne (mulne (mulne (by have := hG 1 (by omega) (by omega); omega) (by omega)) (by omega)) (by omega))
    · have e00 : pcol 4 E (gAll B 2) 0 0 = G 1 := by rw [c 0 0 (by omega) (by omega) (by omega) (by omega)]; simp
      have e01 : pcol 4 E (gAll B 2) 0 1 = 0 := by rw [c 0 1 (by omega) (by omega) (by omega) (by omega)]; simp
      have e02 : pcol 4 E (gAll B 2) 0 2 = 0 := by rw [c 0 2 (by omega) (by omega) (by omega) (by omega)]; simp
      have e03 : pcol 4 E (gAll B 2) 0 3 = 0 := by rw [c 0 3 (by omega) (by omega) (by omega) (by omega)]; simp
      have e10 : pcol 4 E (gAll B 2) 1 0 = -20 := by rw [c 1 0 (by omega) (by omega) (by omega) (by omega)]; simp
      have e11 : pcol 4 E (gAll B 2) 1 1 = G 2 := by rw [c 1 1 (by omega) (by omega) (by omega) (by omega)]; simp
      have e12 : pcol 4 E (gAll B 2) 1 2 = 0 := by rw [c 1 2 (by omega) (by omega) (by omega) (by omega)]; simp
      have e13 : pcol 4 E (gAll B 2) 1 3 = 0 := by rw [c 1 3 (by omega) (by omega) (by omega) (by omega)]; simp
      have e20 : pcol 4 E (gAll B 2) 2 0 = 0 := by rw [c 2 0 (by omega) (by omega) (by omega) (by omega)]; simp
      have e21 : pcol 4 E (gAll B 2) 2 1 = 0 := by rw [c 2 1 (by omega) (by omega) (by omega) (by omega)]; simp
      have e22 : pcol 4 E (gAll B 2) 2 2 = -20 := by rw [c 2 2 (by omega) (by omega) (by omega) (by omega)]; simp
      have e23 : pcol 4 E (gAll B 2) 2 3 = G 4 := by rw [c 2 3 (by omega) (by omega) (by omega) (by omega)]; simp
      have e30 : pcol 4 E (gAll B 2) 3 0 = 0 := by rw [c 3 0 (by omega) (by omega) (by omega) (by omega)]; simp
      have e31 : pcol 4 E (gAll B 2) 3 1 = 0 := by rw [c 3 1 (by omega) (by omega) (by omega) (by omega)]; simp
      have e32 : pcol 4 E (gAll B 2) 3 2 = 0 := by rw [c 3 2 (by omega) (by omega) (by omega) (by omega)]; simp
      have e33 : pcol 4 E (gAll B 2) 3 3 = -20 := by rw [c 3 3 (by omega) (by omega) (by omega) (by omega)]; simp
      have e9 : dB 4 E (gAll B 2) = G 1 * G 2 * (-20) * (-20) := by unfold dB d4 two; simp only [show (0 : Int) + 1 = 1 by rfl, show (2 : Int) + 1 = 3 by rfl, e00, e01, e02, e03, e10, e11, e12, e13, e20, e21, e22, e23, e30, e31, e32, e33]; grind
      rw [e9]
      exact (mulne (mulne (mulne (by have := hG 1 (by omega) (by omega); omega) (by have := hG 2 (by omega) (by omega); omega)) (by omega)) (by omega))
    · have e00 : pcol 4 E (gAll B 3) 0 0 = G 1 := by rw [c 0 0 (by omega) (by omega) (by omega) (by omega)]; simp
      have e01 : pcol 4 E (gAll B 3) 0 1 = 0 := by rw [c 0 1 (by omega) (by omega) (by omega) (by omega)]; simp
      have e02 : pcol 4 E (gAll B 3) 0 2 = 0 := by rw [c 0 2 (by omega) (by omega) (by omega) (by omega)]; simp
      have e03 : pcol 4 E (gAll B 3) 0 3 = 0 := by rw [c 0 3 (by omega) (by omega) (by omega) (by omega)]; simp
      have e10 : pcol 4 E (gAll B 3) 1 0 = -20 := by rw [c 1 0 (by omega) (by omega) (by omega) (by omega)]; simp
      have e11 : pcol 4 E (gAll B 3) 1 1 = G 2 := by rw [c 1 1 (by omega) (by omega) (by omega) (by omega)]; simp
      have e12 : pcol 4 E (gAll B 3) 1 2 = 0 := by rw [c 1 2 (by omega) (by omega) (by omega) (by omega)]; simp
      have e13 : pcol 4 E (gAll B 3) 1 3 = 0 := by rw [c 1 3 (by omega) (by omega) (by omega) (by omega)]; simp
      have e20 : pcol 4 E (gAll B 3) 2 0 = 0 := by rw [c 2 0 (by omega) (by omega) (by omega) (by omega)]; simp
      have e21 : pcol 4 E (gAll B 3) 2 1 = -20 := by rw [c 2 1 (by omega) (by omega) (by omega) (by omega)]; simp
      have e22 : pcol 4 E (gAll B 3) 2 2 = G 3 := by rw [c 2 2 (by omega) (by omega) (by omega) (by omega)]; simp
      have e23 : pcol 4 E (gAll B 3) 2 3 = 0 := by rw [c 2 3 (by omega) (by omega) (by omega) (by omega)]; simp
      have e30 : pcol 4 E (gAll B 3) 3 0 = 0 := by rw [c 3 0 (by omega) (by omega) (by omega) (by omega)]; simp
      have e31 : pcol 4 E (gAll B 3) 3 1 = 0 := by rw [c 3 1 (by omega) (by omega) (by omega) (by omega)]; simp
      have e32 : pcol 4 E (gAll B 3) 3 2 = 0 := by rw [c 3 2 (by omega) (by omega) (by omega) (by omega)]; simp
      have e33 : pcol 4 E (gAll B 3) 3 3 = -20 := by rw [c 3 3 (by omega) (by omega) (by omega) (by omega)]; simp
      have e9 : dB 4 E (gAll B 3) = G 1 * G 2 * G 3 * (-20) := by unfold dB d4 two; simp only [show (0 : Int) + 1 = 1 by rfl, show (2 : Int) + 1 = 3 by rfl, e00, e01, e02, e03, e10, e11, e12, e13, e20, e21, e22, e23, e30, e31, e32, e33]; grind
      rw [e9]
      exact (mulne (mulne (mulne (by have := hG 1 (by omega) (by omega); omega) (by have := hG 2 (by omega) (by omega); omega)) (by have := hG 3 (by omega) (by omega); omega)) (by omega))
    · have e00 : pcol 4 E (gAll B 4) 0 0 = G 1 := by rw [c 0 0 (by omega) (by omega) (by omega) (by omega)]; simp
      have e01 : pcol 4 E (gAll B 4) 0 1 = 0 := by rw [c 0 1 (by omega) (by omega) (by omega) (by omega)]; simp
      have e02 : pcol 4 E (gAll B 4) 0 2 = 0 := by rw [c 0 2 (by omega) (by omega) (by omega) (by omega)]; simp
      have e03 : pcol 4 E (gAll B 4) 0 3 = 0 := by rw [c 0 3 (by omega) (by omega) (by omega) (by omega)]; simp
      have e10 : pcol 4 E (gAll B 4) 1 0 = -20 := by rw [c 1 0 (by omega) (by omega) (by omega) (by omega)]; simp
      have e11 : pcol 4 E (gAll B 4) 1 1 = G 2 := by rw [c 1 1 (by omega) (by omega) (by omega) (by omega)]; simp
      have e12 : pcol 4 E (gAll B 4) 1 2 = 0 := by rw [c 1 2 (by omega) (by omega) (by omega) (by omega)]; simp
      have e13 : pcol 4 E (gAll B 4) 1 3 = 0 := by rw [c 1 3 (by omega) (by omega) (by omega) (by omega)]; simp
      have e20 : pcol 4 E (gAll B 4) 2 0 = 0 := by rw [c 2 0 (by omega) (by omega) (by omega) (by omega)]; simp
      have e21 : pcol 4 E (gAll B 4) 2 1 = -20 := by rw [c 2 1 (by omega) (by omega) (by omega) (by omega)]; simp
      have e22 : pcol 4 E (gAll B 4) 2 2 = G 3 := by rw [c 2 2 (by omega) (by omega) (by omega) (by omega)]; simp
      have e23 : pcol 4 E (gAll B 4) 2 3 = 0 := by rw [c 2 3 (by omega) (by omega) (by omega) (by omega)]; simp
      have e30 : pcol 4 E (gAll B 4) 3 0 = 0 := by rw [c 3 0 (by omega) (by omega) (by omega) (by omega)]; simp
      have e31 : pcol 4 E (gAll B 4) 3 1 = 0 := by rw [c 3 1 (by omega) (by omega) (by omega) (by omega)]; simp
      have e32 : pcol 4 E (gAll B 4) 3 2 = -20 := by rw [c 3 2 (by omega) (by omega) (by omega) (by omega)]; simp
      have e33 : pcol 4 E (gAll B 4) 3 3 = G 4 := by rw [c 3 3 (by omega) (by omega) (by omega) (by omega)]; simp
      have e9 : dB 4 E (gAll B 4) = G 1 * G 2 * G 3 * G 4 := by unfold dB d4 two; simp only [show (0 : Int) + 1 = 1 by rfl, show (2 : Int) + 1 = 3 by rfl, e00, e01, e02, e03, e10, e11, e12, e13, e20, e21, e22, e23, e30, e31, e32, e33]; grind
      rw [e9]
      exact (mulne (mulne (mulne (by have := hG 1 (by omega) (by omega); omega) (by have := hG 2 (by omega) (by omega); omega)) (by have := hG 3 (by omega) (by omega); omega)) (by have := hG 4 (by omega) (by omega); omega))

/-- replacing a column -/
def repM (M : Int → Int → Int) (i : Int) (x : Int → Int) : Int → Int → Int := fun k => if k = i then x else M k
def det4 (M : Int → Int → Int) : Int := d4 (M 0) (M 1) (M 2) (M 3)
def unt (r : Int) : Int → Int := fun k => if k = r then 1 else 0
theorem d4_l0 (x u v w : Int → Int) : d4 x u v w = x 0 * d4 (unt 0) u v w + x 1 * d4 (unt 1) u v w + x 2 * d4 (unt 2) u v w + x 3 * d4 (unt 3) u v w := by simp [d4, two, unt]; grind
theorem d4_l1 (x u v w : Int → Int) : d4 u x v w = x 0 * d4 u (unt 0) v w + x 1 * d4 u (unt 1) v w + x 2 * d4 u (unt 2) v w + x 3 * d4 u (unt 3) v w := by simp [d4, two, unt]; grind
theorem d4_l2 (x u v w : Int → Int) : d4 u v x w = x 0 * d4 u v (unt 0) w + x 1 * d4 u v (unt 1) w + x 2 * d4 u v (unt 2) w + x 3 * d4 u v (unt 3) w := by simp [d4, two, unt]; grind
theorem d4_l3 (x u v w : Int → Int) : d4 u v w x = x 0 * d4 u v w (unt 0) + x 1 * d4 u v w (unt 1) + x 2 * d4 u v w (unt 2) + x 3 * d4 u v w (unt 3) := by simp [d4, two, unt]; grind
theorem det4_lin (M : Int → Int → Int) {i : Int} (i0 : 0 ≤ i) (i1 : i < 4) (x : Int → Int) : det4 (repM M i x) = x 0 * det4 (repM M i (unt 0)) + x 1 * det4 (repM M i (unt 1)) + x 2 * det4 (repM M i (unt 2)) + x 3 * det4 (repM M i (unt 3)) := by
  rcases (show i = 0 ∨ i = 1 ∨ i = 2 ∨ i = 3 by omega) with rfl | rfl | rfl | rfl
  · simp only [det4, repM, if_pos, show ¬ (1 : Int) = 0 by omega, show ¬ (2 : Int) = 0 by omega, show ¬ (3 : Int) = 0 by omega, if_false]; exact d4_l0 ..
  · simp only [det4, repM, if_pos, show ¬ (0 : Int) = 1 by omega, show ¬ (2 : Int) = 1 by omega, show ¬ (3 : Int) = 1 by omega, if_false]; exact d4_l1 ..
  · simp only [det4, repM, if_pos, show ¬ (0 : Int) = 2 by omega, show ¬ (1 : Int) = 2 by omega, show ¬ (3 : Int) = 2 by omega, if_false]; exact d4_l2 ..
  · simp only [det4, repM, if_pos, show ¬ (0 : Int) = 3 by omega, show ¬ (1 : Int) = 3 by omega, show ¬ (2 : Int) = 3 by omega, if_false]; exact d4_l3 ..
theorem dB_zup {T i c : Int} {E : Int → Int → Int} {g : Int → Int} (i1 : i < T) : dB T E (zup g i c) = det4 (repM (pcol T E g) i (fun r => if r < T then E c (r + 1) else 0)) := by
  have e : ∀ k : Int, pcol T E (zup g i c) k = repM (pcol T E g) i (fun r => if r < T then E c (r + 1) else 0) k := fun k => by
    unfold repM
    by_cases q : k = i
    · rw [if_pos q]
      funext r
      unfold pcol
      rw [if_pos (by omega), q, zup_eq]
    · rw [if_neg q]
      funext r
      unfold pcol
      rw [zup_ne q]
  unfold dB det4
  rw [e 0, e 1, e 2, e 3]
theorem zup_self (g : Int → Int) (i : Int) : zup g i (g i) = g := by
  funext k
  unfold zup
  split
  · rename_i h; rw [h]
  · rfl
theorem zero_of20 {a b x : Int} (h : -20 * a + x = 0) (hx : x = b * 0) : a = 0 := by rw [Int.mul_zero] at hx; omega
/-- a bond of which there is nothing can leave the basis -/
theorem exch {T B i : Int} {E : Int → Int → Int} {g G : Int → Int} (h1 : 1 ≤ T) (h4 : T ≤ 4) (hE : stdE T B E G) (hd : ¬ dB T E g = 0) (i0 : 0 ≤ i) (i1 : i < T) : ∃ s : Int, 1 ≤ s ∧ s ≤ T ∧ ¬ dB T E (zup g i (B + s)) = 0 := by
  refine Classical.byContradiction fun w => hd ?_
  have z : ∀ s : Int, 1 ≤ s → s ≤ T → dB T E (zup g i (B + s)) = 0 := fun s a b => Classical.byContradiction fun q => w ⟨s, a, b, q⟩
  have lin := fun c => det4_lin (pcol T E g) i0 (by omega) (fun r => if r < T then E c (r + 1) else 0)
  rw [← zup_self g i, dB_zup i1, lin]
  have zz : ∀ s : Int, 1 ≤ s → s ≤ T → _ := fun s a b => (lin (B + s)).symm.trans ((dB_zup i1).symm.trans (z s a b))
  generalize det4 (repM (pcol T E g) i (unt 0)) = c0 at zz ⊢
  generalize det4 (repM (pcol T E g) i (unt 1)) = c1 at zz ⊢
  generalize det4 (repM (pcol T E g) i (unt 2)) = c2 at zz ⊢
  generalize det4 (repM (pcol T E g) i (unt 3)) = c3 at zz ⊢
  have k : ∀ s r : Int, 1 ≤ s → s ≤ T → 0 ≤ r → r < T → E (B + s) (r + 1) = if s = r + 1 then -20 else if s = r then G (r + 1) else 0 := fun s r a b c d => by
    rw [hE s (r + 1) (by omega) b (by omega) (by omega), show r + 1 - 1 = r by omega]
  rcases (show T = 1 ∨ T = 2 ∨ T = 3 ∨ T = 4 by omega) with rfl | rfl | rfl | rfl
  · have z1 := zz 1 (by omega) (by omega)
    have k1 : E (B + 1) (0 + 1) = -20 := by rw [k 1 0 (by omega) (by omega) (by omega) (by omega)]; rfl
    simp only [if_pos (show (0 : Int) < 1 by omega), if_neg (show ¬ (1 : Int) < 1 by omega), if_neg (show ¬ (2 : Int) < 1 by omega), if_neg (show ¬ (3 : Int) < 1 by omega), k1] at z1
    have y1 : c0 = 0 := by omega
    simp only [y1, if_pos (show (0 : Int) < 1 by omega), if_neg (show ¬ (1 : Int) < 1 by omega), if_neg (show ¬ (2 : Int) < 1 by omega), if_neg (show ¬ (3 : Int) < 1 by omega), Int.mul_zero, Int.zero_mul]
    rfl
  · have z1 := zz 1 (by omega) (by omega)
    have k1 : E (B + 1) (0 + 1) = -20 ∧ E (B + 1) (1 + 1) = G (1 + 1) := ⟨by rw [k 1 0 (by omega) (by omega) (by omega) (by omega)]; rfl, by rw [k 1 1 (by omega) (by omega) (by omega) (by omega)]; rfl⟩
    simp only [if_pos (show (0 : Int) < 2 by omega), if_pos (show (1 : Int) < 2 by omega), if_neg (show ¬ (2 : Int) < 2 by omega), if_neg (show ¬ (3 : Int) < 2 by omega), k1.1, k1.2] at z1
    have z2 := zz 2 (by omega) (by omega)
    have k2 : E (B + 2) (0 + 1) = 0 ∧ E (B + 2) (1 + 1) = -20 := ⟨by rw [k 2 0 (by omega) (by omega) (by omega) (by omega)]; rfl, by rw [k 2 1 (by omega) (by omega) (by omega) (by omega)]; rfl⟩
    simp only [if_pos (show (0 : Int) < 2 by omega), if_pos (show (1 : Int) < 2 by omega), if_neg (show ¬ (2 : Int) < 2 by omega), if_neg (show ¬ (3 : Int) < 2 by omega), k2.1, k2.2] at z2
    have y2 : c1 = 0 := by omega
    rw [y2, Int.mul_zero] at z1
    have y1 : c0 = 0 := by omega
    simp only [y1, y2, if_pos (show (0 : Int) < 2 by omega), if_pos (show (1 : Int) < 2 by omega), if_neg (show ¬ (2 : Int) < 2 by omega), if_neg (show ¬ (3 : Int) < 2 by omega), Int.mul_zero, Int.zero_mul]
    rfl
  · have z1 := zz 1 (by omega) (by omega)
    have k1 : E (B + 1) (0 + 1) = -20 ∧ E (B + 1) (1 + 1) = G (1 + 1) ∧ E (B + 1) (2 + 1) = 0 := ⟨by rw [k 1 0 (by omega) (by omega) (by omega) (by omega)]; rfl, by rw [k 1 1 (by omega) (by omega) (by omega) (by omega)]; rfl, by rw [k 1 2 (by omega) (by omega) (by omega) (by omega)]; rfl⟩
    simp only [if_pos (show (0 : Int) < 3 by omega), if_pos (show (1 : Int) < 3 by omega), if_pos (show (2 : Int) < 3 by omega), if_neg (show ¬ (3 : Int) < 3 by omega), k1.1, k1.2.1, k1.2.2] at z1
    have z2 := zz 2 (by omega) (by omega)
    have k2 : E (B + 2) (0 + 1) = 0 ∧ E (B + 2) (1 + 1) = -20 ∧ E (B + 2) (2 + 1) = G (2 + 1) := ⟨by rw [k 2 0 (by omega) (by omega) (by omega) (by omega)]; rfl, by rw [k 2 1 (by omega) (by omega) (by omega) (by omega)]; rfl, by rw [k 2 2 (by omega) (by omega) (by omega) (by omega)]; rfl⟩
    simp only [if_pos (show (0 : Int) < 3 by omega), if_pos (show (1 : Int) < 3 by omega), if_pos (show (2 : Int) < 3 by omega), if_neg (show ¬ (3 : Int) < 3 by omega), k2.1, k2.2.1, k2.2.2] at z2
    have z3 := zz 3 (by omega) (by omega)
    have k3 : E (B + 3) (0 + 1) = 0 ∧ E (B + 3) (1 + 1) = 0 ∧ E (B + 3) (2 + 1) = -20 := ⟨by rw [k 3 0 (by omega) (by omega) (by omega) (by omega)]; rfl, by rw [k 3 1 (by omega) (by omega) (by omega) (by omega)]; rfl, by rw [k 3 2 (by omega) (by omega) (by omega) (by omega)]; rfl⟩
    simp only [if_pos (show (0 : Int) < 3 by omega), if_pos (show (1 : Int) < 3 by omega), if_pos (show (2 : Int) < 3 by omega), if_neg (show ¬ (3 : Int) < 3 by omega), k3.1, k3.2.1, k3.2.2] at z3
    have y3 : c2 = 0 := by omega
    rw [y3, Int.mul_zero] at z2
    have y2 : c1 = 0 := by omega
    rw [y2, Int.mul_zero] at z1
    have y1 : c0 = 0 := by omega
    simp only [y1, y2, y3, if_pos (show (0 : Int) < 3 by omega), if_pos (show (1 : Int) < 3 by omega), if_pos (show (2 : Int) < 3 by omega), if_neg (show ¬ (3 : Int) < 3 by omega), Int.mul_zero, Int.zero_mul]
    rfl
  · have z1 := zz 1 (by omega) (by omega)
    have k1 : E (B + 1) (0 + 1) = -20 ∧ E (B + 1) (1 + 1) = G (1 + 1) ∧ E (B + 1) (2 + 1) = 0 ∧ E (B + 1) (3 + 1) = 0 := ⟨by rw [k 1 0 (by omega) (by omega) (by omega) (by omega)]; rfl, by rw [k 1 1 (by omega) (by omega) (by omega) (by omega)]; rfl, by rw [k 1 2 (by omega) (by omega) (by omega) (by omega)]; rfl, by rw [k 1 3 (by omega) (by omega) (by omega) (by omega)]; rfl⟩
    simp only [if_pos (show (0 : Int) < 4 by omega), if_pos (show (1 : Int) < 4 by omega), if_pos (show (2 : Int) < 4 by omega), if_pos (show (3 : Int) < 4 by omega), k1.1, k1.2.1, k1.2.2.1, k1.2.2.2] at z1
    have z2 := zz 2 (by omega) (by omega)
    have k2 : E (B + 2) (0 + 1) = 0 ∧ E (B + 2) (1 + 1) = -20 ∧ E (B + 2) (2 + 1) = G (2 + 1) ∧ E (B + 2) (3 + 1) = 0 := ⟨by rw [k 2 0 (by omega) (by omega) (by omega) (by omega)]; rfl, by rw [k 2 1 (by omega) (by omega) (by omega) (by omega)]; rfl, by rw [k 2 2 (by omega) (by omega) (by omega) (by omega)]; rfl, by rw [k 2 3 (by omega) (by omega) (by omega) (by omega)]; rfl⟩
    simp only [if_pos (show (0 : Int) < 4 by omega), if_pos (show (1 : Int) < 4 by omega), if_pos (show (2 : Int) < 4 by omega), if_pos (show (3 : Int) < 4 by omega), k2.1, k2.2.1, k2.2.2.1, k2.2.2.2] at z2
    have z3 := zz 3 (by omega) (by omega)
    have k3 : E (B + 3) (0 + 1) = 0 ∧ E (B + 3) (1 + 1) = 0 ∧ E (B + 3) (2 + 1) = -20 ∧ E (B + 3) (3 + 1) = G (3 + 1) := ⟨by rw [k 3 0 (by omega) (by omega) (by omega) (by omega)]; rfl, by rw [k 3 1 (by omega) (by omega) (by omega) (by omega)]; rfl, by rw [k 3 2 (by omega) (by omega) (by omega) (by omega)]; rfl, by rw [k 3 3 (by omega) (by omega) (by omega) (by omega)]; rfl⟩
    simp only [if_pos (show (0 : Int) < 4 by omega), if_pos (show (1 : Int) < 4 by omega), if_pos (show (2 : Int) < 4 by omega), if_pos (show (3 : Int) < 4 by omega), k3.1, k3.2.1, k3.2.2.1, k3.2.2.2] at z3
    have z4 := zz 4 (by omega) (by omega)
    have k4 : E (B + 4) (0 + 1) = 0 ∧ E (B + 4) (1 + 1) = 0 ∧ E (B + 4) (2 + 1) = 0 ∧ E (B + 4) (3 + 1) = -20 := ⟨by rw [k 4 0 (by omega) (by omega) (by omega) (by omega)]; rfl, by rw [k 4 1 (by omega) (by omega) (by omega) (by omega)]; rfl, by rw [k 4 2 (by omega) (by omega) (by omega) (by omega)]; rfl, by rw [k 4 3 (by omega) (by omega) (by omega) (by omega)]; rfl⟩
    simp only [if_pos (show (0 : Int) < 4 by omega), if_pos (show (1 : Int) < 4 by omega), if_pos (show (2 : Int) < 4 by omega), if_pos (show (3 : Int) < 4 by omega), k4.1, k4.2.1, k4.2.2.1, k4.2.2.2] at z4
    have y4 : c3 = 0 := by omega
    rw [y4, Int.mul_zero] at z3
    have y3 : c2 = 0 := by omega
    rw [y3, Int.mul_zero] at z2
    have y2 : c1 = 0 := by omega
    rw [y2, Int.mul_zero] at z1
    have y1 : c0 = 0 := by omega
    simp only [y1, y2, y3, y4, if_pos (show (0 : Int) < 4 by omega), if_pos (show (1 : Int) < 4 by omega), if_pos (show (2 : Int) < 4 by omega), if_pos (show (3 : Int) < 4 by omega), Int.mul_zero, Int.zero_mul]
    rfl
