/-- sums: adding, scaling, order of summing -/
theorem zsum_add (f g : Int → Int) (n : Int) : zsum (fun i => f i + g i) n = zsum f n + zsum g n := by
  have : ∀ m : Nat, sumN (fun i => f i + g i) m = sumN f m + sumN g m := by
    intro m
    induction m with
    | zero => rfl
    | succ m ih => show sumN (fun i => f i + g i) m + (f m + g m) = (sumN f m + f m) + (sumN g m + g m); rw [ih]; omega
  exact this n.toNat
theorem zsum_mulr (f : Int → Int) (k n : Int) : zsum (fun i => f i * k) n = zsum f n * k := by
  have : ∀ m : Nat, sumN (fun i => f i * k) m = sumN f m * k := by
    intro m
    induction m with
    | zero => show (0 : Int) = 0 * k; omega
    | succ m ih => show sumN (fun i => f i * k) m + f m * k = (sumN f m + f m) * k; rw [ih, Int.add_mul]
  exact this n.toNat
theorem zsum_mull (f : Int → Int) (k n : Int) : zsum (fun i => k * f i) n = k * zsum f n := by
  rw [Int.mul_comm, ← zsum_mulr]
  exact zsum_congr (fun i _ _ => Int.mul_comm _ _)
theorem zsum_zero {f : Int → Int} {n : Int} (h : ∀ i : Int, 0 ≤ i → i < n → f i = 0) : zsum f n = 0 := by
  rw [zsum_congr (g := fun _ => 0) h]
  have : ∀ m : Nat, sumN (fun _ => 0) m = 0 := by
    intro m
    induction m with
    | zero => rfl
    | succ m ih => show sumN (fun _ => 0) m + 0 = 0; rw [ih]; rfl
  exact this n.toNat
theorem zsum_comm (F : Int → Int → Int) (n T : Int) : zsum (fun c => zsum (fun i => F c i) T) n = zsum (fun i => zsum (fun c => F c i) n) T := by
  have : ∀ m : Nat, sumN (fun c => zsum (fun i => F c i) T) m = zsum (fun i => sumN (fun c => F c i) m) T := by
    intro m
    induction m with
    | zero => show (0 : Int) = _; exact (zsum_zero (fun _ _ _ => rfl)).symm
    | succ m ih =>
      show sumN (fun c => zsum (fun i => F c i) T) m + zsum (fun i => F m i) T = zsum (fun i => sumN (fun c => F c i) m + F m i) T
      rw [ih, zsum_add]
  exact this n.toNat
theorem zsum_ind (f : Int → Int) (g : Int) {n : Int} (h0 : 0 ≤ g) (h1 : g < n) : zsum (fun c => if g = c then f c else 0) n = f g := by
  have : ∀ m : Nat, sumN (fun c => if g = c then f c else 0) m = if g < (m : Int) then f g else 0 := by
    intro m
    induction m with
    | zero => show (0 : Int) = _; rw [if_neg (by omega)]
    | succ m ih =>
      show sumN (fun c => if g = c then f c else 0) m + (if g = (m : Int) then f m else 0) = _
      rw [ih]
      by_cases e : g = (m : Int)
      · rw [if_neg (by omega), if_pos e, if_pos (by omega), e]; omega
      · rw [if_neg e]
        by_cases q : g < (m : Int)
        · rw [if_pos q, if_pos (by omega)]; omega
        · rw [if_neg q, if_neg (by omega)]; rfl
  have e := this n.toNat
  rw [if_pos (by omega)] at e
  exact e
/-- a sum over all columns is one over those that count -/
def inB (T n : Int) (g : Int → Int) : Prop := ∀ i : Int, 0 ≤ i → i < T → 0 ≤ g i ∧ g i < n
def injB (T : Int) (g : Int → Int) : Prop := ∀ i j : Int, 0 ≤ i → i < T → 0 ≤ j → j < T → g i = g j → i = j
def onB (T n : Int) (g V : Int → Int) : Prop := ∀ c : Int, 0 ≤ c → c < n → ¬ V c = 0 → ∃ i : Int, 0 ≤ i ∧ i < T ∧ g i = c
theorem zsum_on {T n : Int} {g f : Int → Int} (hg : inB T n g) (hi : injB T g) (hs : onB T n g f) : zsum f n = zsum (fun i => f (g i)) T := by
  have e1 : zsum f n = zsum (fun c => zsum (fun i => if g i = c then f c else 0) T) n := by
    refine zsum_congr (fun c c0 c1 => ?_)
    by_cases z : f c = 0
    · rw [z]
      exact (zsum_zero (fun i _ _ => by split <;> rfl)).symm
    · obtain ⟨i0, a, b, e⟩ := hs c c0 c1 z
      rw [zsum_congr (g := fun i => if i0 = i then (fun _ => f c) i else 0) (fun i q0 q1 => ?_), zsum_ind (fun _ => f c) i0 a b]
      by_cases q : i0 = i
      · rw [if_pos q, if_pos (q ▸ e)]
      · rw [if_neg q, if_neg (fun w => q (hi i0 i a b q0 q1 (e.trans w.symm)))]
  rw [e1, zsum_comm]
  refine zsum_congr (fun i i0 i1 => ?_)
  have := hg i i0 i1
  exact zsum_ind f (g i) this.1 this.2
/-- columns with the unit behind them, their determinant -/
def pcol (T : Int) (E : Int → Int → Int) (g : Int → Int) (i : Int) : Int → Int := fun r => if i < T then (if r < T then E (g i) (r + 1) else 0) else if r = i then 1 else 0
def dB (T : Int) (E : Int → Int → Int) (g : Int → Int) : Int := d4 (pcol T E g 0) (pcol T E g 1) (pcol T E g 2) (pcol T E g 3)
theorem dB_mK {T : Int} (h1 : 1 ≤ T) (h4 : T ≤ 4) (E : Int → Int → Int) (g : Int → Int) : dB T E g = mK T (orig T E g) := by
  rcases (show T = 1 ∨ T = 2 ∨ T = 3 ∨ T = 4 by omega) with rfl | rfl | rfl | rfl
  · rw [mK1]; simp [dB, pcol, d4, two, orig]
  · rw [mK2]; simp [dB, pcol, d4, two, orig, d2, cl]; grind
  · rw [mK3]; simp [dB, pcol, d4, two, orig, d3, e3, cl]; grind
  · rw [mK4]; simp [dB, pcol, d4, two, orig, cl]
theorem d4_z0 (v w y : Int → Int) : d4 (fun _ => 0) v w y = 0 := by simp [d4, two]
theorem d4_z1 (v w y : Int → Int) : d4 v (fun _ => 0) w y = 0 := by simp [d4, two]
theorem d4_z2 (v w y : Int → Int) : d4 v w (fun _ => 0) y = 0 := by simp [d4, two]
theorem d4_z3 (v w y : Int → Int) : d4 v w y (fun _ => 0) = 0 := by simp [d4, two]
theorem lin0 {u v w y : Int → Int} {a b c d : Int} (hd : ¬ d4 u v w y = 0) (h : ∀ r : Int, 0 ≤ r → r < 4 → u r * a + v r * b + w r * c + y r * d = 0) : a = 0 ∧ b = 0 ∧ c = 0 ∧ d = 0 := by
  have h' : ∀ r : Int, 0 ≤ r → r < 4 → (fun _ => 0 : Int → Int) r = u r * a + v r * b + w r * c + y r * d := fun r a b => (h r a b).symm
  have e1 := rp4a u v w y _ a b c d h'
  have e2 := rp4b u v w y _ a b c d h'
  have e3 := rp4c u v w y _ a b c d h'
  have e4 := rp4d u v w y _ a b c d h'
  rw [d4_z0] at e1
  rw [d4_z1] at e2
  rw [d4_z2] at e3
  rw [d4_z3] at e4
  exact ⟨(Int.mul_eq_zero.mp e1.symm).resolve_right hd, (Int.mul_eq_zero.mp e2.symm).resolve_right hd, (Int.mul_eq_zero.mp e3.symm).resolve_right hd, (Int.mul_eq_zero.mp e4.symm).resolve_right hd⟩
theorem uniB {T : Int} {E : Int → Int → Int} {g w : Int → Int} (h1 : 1 ≤ T) (h4 : T ≤ 4) (hd : ¬ dB T E g = 0) (h : ∀ r : Int, 1 ≤ r → r ≤ T → zsum (fun i => E (g i) r * w i) T = 0) : ∀ i : Int, 0 ≤ i → i < T → w i = 0 := by
  have key := lin0 (a := if 0 < T then w 0 else 0) (b := if 1 < T then w 1 else 0) (c := if 2 < T then w 2 else 0) (d := if 3 < T then w 3 else 0) hd (fun r r0 r1 => by
    by_cases q : r < T
    · have := h (r + 1) (by omega) (by omega)
      rcases (show T = 1 ∨ T = 2 ∨ T = 3 ∨ T = 4 by omega) with rfl | rfl | rfl | rfl
      · rw [zsum_1] at this; simp [pcol, q]; first | exact this | exact Int.mul_eq_zero.mp this
      · rw [zsum_2] at this; simp [pcol, q]; exact this
      · rw [zsum_3] at this; simp [pcol, q]; exact this
      · rw [zsum_4] at this; simp [pcol, q]; exact this
    · rcases (show T = 1 ∨ T = 2 ∨ T = 3 ∨ T = 4 by omega) with rfl | rfl | rfl | rfl <;> simp [pcol, q])
  intro i i0 i1
  obtain ⟨k0, k1, k2, k3⟩ := key
  rcases (show i = 0 ∨ i = 1 ∨ i = 2 ∨ i = 3 by omega) with rfl | rfl | rfl | rfl
  · rwa [if_pos i1] at k0
  · rwa [if_pos i1] at k1
  · rwa [if_pos i1] at k2
  · rwa [if_pos i1] at k3
theorem d4_e01 (u w y : Int → Int) : d4 u u w y = 0 := by unfold d4 two; grind
theorem d4_e02 (u w y : Int → Int) : d4 u w u y = 0 := by unfold d4 two; grind
theorem d4_e03 (u w y : Int → Int) : d4 u w y u = 0 := by unfold d4 two; grind
theorem d4_e12 (u w y : Int → Int) : d4 w u u y = 0 := by unfold d4 two; grind
theorem d4_e13 (u w y : Int → Int) : d4 w u y u = 0 := by unfold d4 two; grind
theorem d4_e23 (u w y : Int → Int) : d4 w y u u = 0 := by unfold d4 two; grind
theorem dB_inj {T : Int} {E : Int → Int → Int} {g : Int → Int} (h4 : T ≤ 4) (hd : ¬ dB T E g = 0) : injB T g := by
  have e : ∀ i j : Int, i < T → j < T → g i = g j → pcol T E g i = pcol T E g j := fun i j a b q => by funext r; unfold pcol; rw [if_pos a, if_pos b, q]
  have key : ∀ i j : Int, 0 ≤ i → i < j → j < T → ¬ g i = g j := by
    intro i j i0 ij jT q
    have e9 := e i j (by omega) jT q
    apply hd
    unfold dB
    rcases (show (i = 0 ∧ j = 1) ∨ (i = 0 ∧ j = 2) ∨ (i = 0 ∧ j = 3) ∨ (i = 1 ∧ j = 2) ∨ (i = 1 ∧ j = 3) ∨ (i = 2 ∧ j = 3) by omega) with ⟨rfl, rfl⟩ | ⟨rfl, rfl⟩ | ⟨rfl, rfl⟩ | ⟨rfl, rfl⟩ | ⟨rfl, rfl⟩ | ⟨rfl, rfl⟩
    · rw [e9, d4_e01]
    · rw [e9, d4_e02]
    · rw [e9, d4_e03]
    · rw [e9, d4_e12]
    · rw [e9, d4_e13]
    · rw [e9, d4_e23]
  intro i j i0 i1 j0 j1 q
  rcases Int.lt_trichotomy i j with w | w | w
  · exact absurd q (key i j i0 w j1)
  · exact w
  · exact absurd q.symm (key j i j0 w i1)
/-- covers at a corner -/
def isCov (T n : Int) (E : Int → Int → Int) (O : Int → Int) (D : Int) (V : Int → Int) : Prop := 0 < D ∧ (∀ c : Int, 0 ≤ c → c < n → 0 ≤ V c) ∧ ∀ r : Int, 1 ≤ r → r ≤ T → zsum (fun c => E c r * V c) n = D * O r
def cand (T n : Int) (E : Int → Int → Int) (O : Int → Int) (g : Int → Int) (D : Int) (V : Int → Int) : Prop := inB T n g ∧ ¬ dB T E g = 0 ∧ isCov T n E O D V ∧ onB T n g V
theorem cov_on {T n r : Int} {E : Int → Int → Int} {g V : Int → Int} (h4 : T ≤ 4) (hg : inB T n g) (hd : ¬ dB T E g = 0) (hs : onB T n g V) : zsum (fun c => E c r * V c) n = zsum (fun i => E (g i) r * V (g i)) T :=
  zsum_on (f := fun c => E c r * V c) hg (dB_inj h4 hd) (fun c c0 c1 h => hs c c0 c1 (fun q => h (by show E c r * V c = 0; rw [q, Int.mul_zero])))
theorem sol_uniq {T D D' : Int} {E : Int → Int → Int} {O g v v' : Int → Int} (h1 : 1 ≤ T) (h4 : T ≤ 4) (hd : ¬ dB T E g = 0) (h : ∀ r : Int, 1 ≤ r → r ≤ T → zsum (fun i => E (g i) r * v i) T = D * O r) (h' : ∀ r : Int, 1 ≤ r → r ≤ T → zsum (fun i => E (g i) r * v' i) T = D' * O r) : ∀ i : Int, 0 ≤ i → i < T → v i * D' = v' i * D := by
  intro i i0 i1
  have := uniB (w := fun i => v i * D' - v' i * D) h1 h4 hd (fun r r0 r1 => by
    have e : zsum (fun i => E (g i) r * (v i * D' - v' i * D)) T = zsum (fun i => E (g i) r * v i) T * D' + -(zsum (fun i => E (g i) r * v' i) T * D) := by
      rw [← zsum_mulr, ← zsum_mulr, ← zsum_neg, ← zsum_add]
      refine zsum_congr (fun i _ _ => ?_)
      show E (g i) r * (v i * D' - v' i * D) = E (g i) r * v i * D' + -(E (g i) r * v' i * D)
      grind
    rw [e, h r r0 r1, h' r r0 r1]
    grind) i i0 i1
  have h9 : v i * D' - v' i * D = 0 := this
  omega
theorem cand_uniq {T n D D' : Int} {E : Int → Int → Int} {O g V V' : Int → Int} (h1 : 1 ≤ T) (h4 : T ≤ 4) (h : cand T n E O g D V) (h' : cand T n E O g D' V') : ∀ c : Int, 0 ≤ c → c < n → V c * D' = V' c * D := by
  have k := sol_uniq (E := E) (O := O) (g := g) (v := fun i => V (g i)) (v' := fun i => V' (g i)) (D := D) (D' := D') h1 h4 h.2.1 (fun r r0 r1 => by rw [← h.2.2.1.2.2 r r0 r1]; exact (cov_on h4 h.1 h.2.1 h.2.2.2).symm) (fun r r0 r1 => by rw [← h'.2.2.1.2.2 r r0 r1]; exact (cov_on h4 h'.1 h'.2.1 h'.2.2.2).symm)
  intro c c0 c1
  by_cases z : V c = 0
  · by_cases z' : V' c = 0
    · rw [z, z', Int.zero_mul, Int.zero_mul]
    · obtain ⟨i, i0, i1, e⟩ := h'.2.2.2 c c0 c1 z'
      have := k i i0 i1
      rw [← e]; exact this
  · obtain ⟨i, i0, i1, e⟩ := h.2.2.2 c c0 c1 z
    have := k i i0 i1
    rw [← e]; exact this
