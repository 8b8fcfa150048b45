/-- sums and powers over Int places -/
def sumN (f : Int → Int) : Nat → Int
  | 0 => 0
  | n + 1 => sumN f n + f (n : Int)
def zsum (f : Int → Int) (n : Int) : Int := sumN f n.toNat
theorem zsum_0 (f : Int → Int) : zsum f 0 = 0 := rfl
theorem zsum_succ (f : Int → Int) {k : Int} (h : 0 ≤ k) : zsum f (k + 1) = zsum f k + f k := by
  unfold zsum
  rw [show (k + 1).toNat = k.toNat + 1 by omega]
  show sumN f k.toNat + f ((k.toNat : Nat) : Int) = _
  rw [Int.toNat_of_nonneg h]
theorem sumN_rng {f : Int → Int} {lo hi : Int} (h : ∀ i : Int, lo ≤ f i ∧ f i ≤ hi) : ∀ n : Nat, (n : Int) * lo ≤ sumN f n ∧ sumN f n ≤ (n : Int) * hi
  | 0 => by simp [sumN]
  | n + 1 => by
    have h1 := sumN_rng h n
    have h2 := h (n : Int)
    have e : sumN f (n + 1) = sumN f n + f (n : Int) := rfl
    rw [e, Int.natCast_succ, Int.add_mul, Int.add_mul]
    omega
theorem zsum_rng {f : Int → Int} {lo hi : Int} (h : ∀ i : Int, lo ≤ f i ∧ f i ≤ hi) {n : Int} (hn : 0 ≤ n) : n * lo ≤ zsum f n ∧ zsum f n ≤ n * hi := by
  have := sumN_rng h n.toNat
  rw [Int.toNat_of_nonneg hn] at this
  exact this
theorem sumN_congr {f g : Int → Int} : ∀ n : Nat, (∀ i : Int, 0 ≤ i → i < (n : Int) → f i = g i) → sumN f n = sumN g n
  | 0, _ => rfl
  | n + 1, h => by
    show sumN f n + f n = sumN g n + g n
    rw [sumN_congr n (fun i h0 h1 => h i h0 (by omega)), h n (by omega) (by omega)]
theorem zsum_congr {f g : Int → Int} {n : Int} (h : ∀ i : Int, 0 ≤ i → i < n → f i = g i) : zsum f n = zsum g n := sumN_congr _ (fun i h0 h1 => h i h0 (by omega))
def p20 (n : Int) : Int := 20 ^ n.toNat
theorem p20_0 : p20 0 = 1 := rfl
theorem p20_succ {k : Int} (h : 0 ≤ k) : p20 (k + 1) = p20 k * 20 := by
  unfold p20
  rw [show (k + 1).toNat = k.toNat + 1 by omega, Int.pow_succ]
/-- products within bounds -/
theorem mul_abs {a b A B : Int} (ha : -A ≤ a ∧ a ≤ A) (hb : -B ≤ b ∧ b ≤ B) : -(A * B) ≤ a * b ∧ a * b ≤ A * B := by
  have hA : 0 ≤ A := by omega
  have hB : 0 ≤ B := by omega
  have h1 : a.natAbs ≤ A.natAbs := by omega
  have h2 : b.natAbs ≤ B.natAbs := by omega
  have h3 := Nat.mul_le_mul h1 h2
  rw [← Int.natAbs_mul, ← Int.natAbs_mul] at h3
  have h4 : 0 ≤ A * B := Int.mul_nonneg hA hB
  omega
theorem mul_pos_rng {a b A B : Int} (ha : 0 ≤ a ∧ a ≤ A) (hb : 0 ≤ b ∧ b ≤ B) : 0 ≤ a * b ∧ a * b ≤ A * B :=
  ⟨Int.mul_nonneg ha.1 hb.1, (mul_abs ⟨by omega, ha.2⟩ ⟨by omega, hb.2⟩).2⟩
/-- the balances: s of date n, times 20 ^ n -/
def balN (start : Int) (g net : Int → Int) : Nat → Int
  | 0 => start
  | n + 1 => balN start g net n * g ((n : Int) + 1) + 20 ^ (n + 1) * net ((n : Int) + 1)
def bal (start : Int) (g net : Int → Int) (n : Int) : Int := balN start g net n.toNat
theorem bal_0 (start : Int) (g net : Int → Int) : bal start g net 0 = start := rfl
theorem bal_succ (start : Int) (g net : Int → Int) {k : Int} (h : 0 ≤ k) : bal start g net (k + 1) = bal start g net k * g (k + 1) + p20 (k + 1) * net (k + 1) := by
  unfold bal p20
  rw [show (k + 1).toNat = k.toNat + 1 by omega]
  show balN start g net k.toNat * g (((k.toNat : Nat) : Int) + 1) + 20 ^ (k.toNat + 1) * net (((k.toNat : Nat) : Int) + 1) = _
  rw [Int.toNat_of_nonneg h]
/-- at most 4 dates: they stay below 1.3 * 10 ^ 12 -/
theorem bal_rng {start : Int} {g net : Int → Int} (hs : 0 ≤ start ∧ start ≤ 9999) (hg : ∀ i : Int, 0 ≤ g i ∧ g i ≤ 26) (hn : ∀ i : Int, -1000000 ≤ net i ∧ net i ≤ 1000000) {k : Int} (h0 : 0 ≤ k) (h4 : k ≤ 4) : -1300000000000 ≤ bal start g net k ∧ bal start g net k ≤ 1300000000000 := by
  have q1 : p20 1 = 20 := rfl
  have q2 : p20 2 = 400 := rfl
  have q3 : p20 3 = 8000 := rfl
  have q4 : p20 4 = 160000 := rfl
  have b1 := bal_succ start g net (k := 0) (by omega)
  have b2 := bal_succ start g net (k := 1) (by omega)
  have b3 := bal_succ start g net (k := 2) (by omega)
  have b4 := bal_succ start g net (k := 3) (by omega)
  simp only [Int.zero_add, show (1 : Int) + 1 = 2 by rfl, show (2 : Int) + 1 = 3 by rfl, show (3 : Int) + 1 = 4 by rfl] at b1 b2 b3 b4
  rw [bal_0, q1] at b1
  rw [q2] at b2
  rw [q3] at b3
  rw [q4] at b4
  have m1 := mul_abs (a := start) (A := 9999) (b := g 1) (B := 26) (by omega) (by have := hg 1; omega)
  have n1 := hn 1
  have r1 : -21000000 ≤ bal start g net 1 ∧ bal start g net 1 ≤ 21000000 := by omega
  have m2 := mul_abs (a := bal start g net 1) (A := 21000000) (b := g 2) (B := 26) r1 (by have := hg 2; omega)
  have n2 := hn 2
  have r2 : -1000000000 ≤ bal start g net 2 ∧ bal start g net 2 ≤ 1000000000 := by omega
  have m3 := mul_abs (a := bal start g net 2) (A := 1000000000) (b := g 3) (B := 26) r2 (by have := hg 3; omega)
  have n3 := hn 3
  have r3 : -40000000000 ≤ bal start g net 3 ∧ bal start g net 3 ≤ 40000000000 := by omega
  have m4 := mul_abs (a := bal start g net 3) (A := 40000000000) (b := g 4) (B := 26) r3 (by have := hg 4; omega)
  have n4 := hn 4
  have r4 : -1300000000000 ≤ bal start g net 4 ∧ bal start g net 4 ≤ 1300000000000 := by omega
  have hk : k = 0 ∨ k = 1 ∨ k = 2 ∨ k = 3 ∨ k = 4 := by omega
  rcases hk with rfl | rfl | rfl | rfl | rfl
  · rw [bal_0]; omega
  · omega
  · omega
  · omega
  · omega
theorem p20_rng {k : Int} (h0 : 0 ≤ k) (h4 : k ≤ 4) : 1 ≤ p20 k ∧ p20 k ≤ 160000 := by
  have hk : k = 0 ∨ k = 1 ∨ k = 2 ∨ k = 3 ∨ k = 4 := by omega
  rcases hk with rfl | rfl | rfl | rfl | rfl <;> decide
/-- what 1 behind date a becomes by date b, times 20 ^ (b - a) -/
def grwN (g : Int → Int) (a : Int) : Nat → Int
  | 0 => 1
  | n + 1 => grwN g a n * g (a + (n : Int) + 1)
def grw (g : Int → Int) (a b : Int) : Int := grwN g a (b - a).toNat
theorem grw_self (g : Int → Int) (a : Int) : grw g a a = 1 := by unfold grw; rw [Int.sub_self]; rfl
theorem grw_succ (g : Int → Int) {a b : Int} (h : a ≤ b) : grw g a (b + 1) = grw g a b * g (b + 1) := by
  unfold grw
  rw [show (b + 1 - a).toNat = (b - a).toNat + 1 by omega]
  show grwN g a (b - a).toNat * g (a + (((b - a).toNat : Nat) : Int) + 1) = _
  rw [Int.toNat_of_nonneg (by omega), show a + (b - a) + 1 = b + 1 by omega]
theorem carr_rng {g : Int → Int} (hg : ∀ i : Int, 20 ≤ g i ∧ g i ≤ 26) {a j : Int} (h0 : 0 ≤ a) (h1 : a ≤ j) (h4 : j ≤ 4) : 1 ≤ p20 a * grw g a j ∧ p20 a * grw g a j ≤ 456976 := by
  have key : ∀ n : Nat, 1 ≤ p20 a * grwN g a n ∧ p20 a * grwN g a n ≤ 26 ^ (a.toNat + n) := by
    intro n
    induction n with
    | zero =>
      show 1 ≤ p20 a * 1 ∧ p20 a * 1 ≤ 26 ^ a.toNat
      have hk : a = 0 ∨ a = 1 ∨ a = 2 ∨ a = 3 ∨ a = 4 := by omega
      rcases hk with rfl | rfl | rfl | rfl | rfl <;> decide
    | succ n ih =>
      show 1 ≤ p20 a * (grwN g a n * g (a + (n : Int) + 1)) ∧ p20 a * (grwN g a n * g (a + (n : Int) + 1)) ≤ 26 ^ (a.toNat + n + 1)
      have hq := hg (a + (n : Int) + 1)
      generalize g (a + (n : Int) + 1) = y at hq ⊢
      rw [← Int.mul_assoc, Int.pow_succ]
      generalize p20 a * grwN g a n = x at ih ⊢
      generalize (26 : Int) ^ (a.toNat + n) = M at ih ⊢
      have h2 := mul_pos_rng (a := x) (A := M) (b := y) (B := 26) (by omega) (by omega)
      have h3 : x * 1 ≤ x * y := Int.mul_le_mul_of_nonneg_left (by omega) (by omega)
      omega
  have h := key (j - a).toNat
  refine ⟨h.1, Int.le_trans h.2 ?_⟩
  have e : a.toNat + (j - a).toNat = j.toNat := by omega
  rw [e]
  have hk : j = 0 ∨ j = 1 ∨ j = 2 ∨ j = 3 ∨ j = 4 := by omega
  rcases hk with rfl | rfl | rfl | rfl | rfl <;> decide
/-- the first date at which it is below 0; 0: none up to n -/
def fstNeg (B : Int → Int) (n f : Int) : Prop := (f = 0 ∧ ∀ k : Int, 1 ≤ k → k ≤ n → 0 ≤ B k) ∨ (1 ≤ f ∧ f ≤ n ∧ B f < 0 ∧ ∀ k : Int, 1 ≤ k → k < f → 0 ≤ B k)
theorem fstNeg_0 (B : Int → Int) : fstNeg B 0 0 := Or.inl ⟨rfl, fun k h1 h2 => by omega⟩
theorem fstNeg_ok {B : Int → Int} {n f k : Int} (h : fstNeg B (k - 1) f) (hn : n = k) (hk : 0 ≤ B k) : fstNeg B n f := by
  subst hn
  rcases h with ⟨h1, h2⟩ | ⟨h1, h2, h3, h4⟩
  · refine Or.inl ⟨h1, fun j a b => ?_⟩
    by_cases e : j = n
    · rw [e]; exact hk
    · exact h2 j a (by omega)
  · exact Or.inr ⟨h1, by omega, h3, h4⟩
theorem fstNeg_keep {B : Int → Int} {n f k : Int} (h : fstNeg B (k - 1) f) (hn : n = k) (hf : ¬ f = 0) : fstNeg B n f := by
  subst hn
  rcases h with ⟨h1, h2⟩ | ⟨h1, h2, h3, h4⟩
  · exact absurd h1 hf
  · exact Or.inr ⟨h1, by omega, h3, h4⟩
theorem fstNeg_new {B : Int → Int} {n f k : Int} (h : fstNeg B (k - 1) f) (hn : n = k) (h1 : 1 ≤ k) (hf : f = 0) (hk : B k < 0) : fstNeg B n k := by
  subst hn
  rcases h with ⟨-, h2⟩ | ⟨q, -⟩
  · exact Or.inr ⟨h1, Int.le_refl _, hk, fun j a b => h2 j a (by omega)⟩
  · omega
theorem fstNeg_one {B : Int → Int} {n f f2 : Int} (h : fstNeg B n f) (h' : fstNeg B n f2) : f = f2 := by
  rcases h with ⟨h1, h2⟩ | ⟨h1, h2, h3, h4⟩ <;> rcases h' with ⟨g1, g2⟩ | ⟨g1, g2, g3, g4⟩
  · omega
  · have := h2 f2 g1 g2; omega
  · have := g2 f h1 h2; omega
  · rcases Int.lt_trichotomy f f2 with q | q | q
    · have := g4 f h1 q; omega
    · exact q
    · have := h4 f2 g1 q; omega
/-- the most of what the dates a to n lack, as a fraction -/
def isLack (B cr : Int → Int) (a n rn rd : Int) : Prop := 0 ≤ rn ∧ 0 < rd ∧ (∀ j : Int, a ≤ j → j ≤ n → -B j * rd ≤ rn * cr j) ∧ ((rn = 0 ∧ rd = 1) ∨ ∃ j : Int, a ≤ j ∧ j ≤ n ∧ rn = -B j ∧ rd = cr j)
theorem isLack_0 (B cr : Int → Int) {a n : Int} (h : n < a) : isLack B cr a n 0 1 := ⟨by omega, by omega, fun j h1 h2 => by omega, Or.inl ⟨rfl, rfl⟩⟩
theorem isLack_keep {B cr : Int → Int} {a n k rn rd : Int} (h : isLack B cr a (k - 1) rn rd) (hn : n = k) (hk : -B k * rd ≤ rn * cr k) : isLack B cr a n rn rd := by
  subst hn
  obtain ⟨h1, h2, h3, h4⟩ := h
  refine ⟨h1, h2, fun j a1 b1 => ?_, ?_⟩
  · by_cases e : j = n
    · rw [e]; exact hk
    · exact h3 j a1 (by omega)
  · rcases h4 with h4 | ⟨j, a1, b1, c1⟩
    · exact Or.inl h4
    · exact Or.inr ⟨j, a1, by omega, c1⟩
theorem isLack_new {B cr : Int → Int} {a n k rn rd : Int} (h : isLack B cr a (k - 1) rn rd) (hn : n = k) (ha : a ≤ k) (hc : ∀ j : Int, a ≤ j → j ≤ k → 0 < cr j) (hk : rn * cr k < -B k * rd) : isLack B cr a n (-B k) (cr k) := by
  subst hn
  obtain ⟨h1, h2, h3, h4⟩ := h
  have hck := hc n ha (Int.le_refl _)
  have hb : 0 < -B n := by
    have e1 : 0 ≤ rn * cr n := Int.mul_nonneg h1 (by omega)
    have e2 : 0 < -B n * rd := by omega
    exact Int.not_le.mp (fun q => by have := Int.mul_le_mul_of_nonneg_right q (show 0 ≤ rd by omega); rw [Int.zero_mul] at this; omega)
  refine ⟨by omega, hck, fun j a1 b1 => ?_, Or.inr ⟨n, ha, Int.le_refl _, rfl, rfl⟩⟩
  by_cases e : j = n
  · rw [e]; exact Int.le_refl _
  · have e1 := h3 j a1 (by omega)
    have hcj := hc j a1 b1
    -- (-B j) rd cr n ≤ rn cr j cr n < (-B n) rd cr j
    have e2 : -B j * rd * cr n ≤ rn * cr j * cr n := Int.mul_le_mul_of_nonneg_right e1 (by omega)
    have e3 : rn * cr n * cr j ≤ -B n * rd * cr j := Int.mul_le_mul_of_nonneg_right (by omega) (by omega)
    have e4 : rn * cr j * cr n = rn * cr n * cr j := Int.mul_right_comm _ _ _
    have e5 : -B j * cr n * rd ≤ -B n * cr j * rd := by
      rw [Int.mul_right_comm (-B j) (cr n) rd, Int.mul_right_comm (-B n) (cr j) rd]
      omega
    exact Int.le_of_mul_le_mul_right e5 h2
theorem isLack_one {B cr : Int → Int} {a n rn rd rn2 rd2 : Int} (hc : ∀ j : Int, a ≤ j → j ≤ n → 0 < cr j) (h : isLack B cr a n rn rd) (g : isLack B cr a n rn2 rd2) : rn * rd2 = rn2 * rd := by
  have key : ∀ {rn rd rn2 rd2 : Int}, isLack B cr a n rn rd → isLack B cr a n rn2 rd2 → rn * rd2 ≤ rn2 * rd := by
    intro rn rd rn2 rd2 h g
    rcases h.2.2.2 with ⟨rfl, rfl⟩ | ⟨j, a1, b1, rfl, rfl⟩
    · have := g.1; omega
    · exact g.2.2.1 j a1 b1
  have e1 := key h g
  have e2 := key g h
  omega
theorem zup_all {f g : Int → Int} {k v : Int} (h : ∀ j : Int, 0 ≤ j → j < k → g j = f j) (hv : v = f k) : ∀ j : Int, 0 ≤ j → j < k + 1 → zup g k v j = f j := by
  intro j h0 h1
  by_cases e : j = k
  · rw [e, zup_eq]; exact hv
  · rw [zup_ne e]; exact h j h0 (by omega)
theorem p20_pred {k : Int} (h : 1 ≤ k) : p20 (k - 1) * 20 = p20 k := by
  have := p20_succ (k := k - 1) (by omega)
  rw [show k - 1 + 1 = k by omega] at this
  exact this.symm
