/-- what elimination makes of a matrix (row, column), by how many columns are done -/
def cl (a : Int → Int → Int) (j : Int) : Int → Int := fun r => a r j
def FK (k : Int) (a : Int → Int → Int) (i j : Int) : Int :=
  if k = 0 then a i j
  else if k = 1 then (if i = 0 then a 0 j else e2 i (cl a 0) (cl a j))
  else if k = 2 then (if i = 0 then d2 (cl a j) (cl a 1) else if i = 1 then d2 (cl a 0) (cl a j) else e3 i (cl a 0) (cl a 1) (cl a j))
  else if k = 3 then (if i = 0 then d3 (cl a j) (cl a 1) (cl a 2) else if i = 1 then d3 (cl a 0) (cl a j) (cl a 2) else if i = 2 then d3 (cl a 0) (cl a 1) (cl a j) else d4 (cl a 0) (cl a 1) (cl a 2) (cl a j))
  else (if i = 0 then d4 (cl a j) (cl a 1) (cl a 2) (cl a 3) else if i = 1 then d4 (cl a 0) (cl a j) (cl a 2) (cl a 3) else if i = 2 then d4 (cl a 0) (cl a 1) (cl a j) (cl a 3) else d4 (cl a 0) (cl a 1) (cl a 2) (cl a j))
def mK (k : Int) (a : Int → Int → Int) : Int :=
  if k = 0 then 1 else if k = 1 then a 0 0 else if k = 2 then d2 (cl a 0) (cl a 1) else if k = 3 then d3 (cl a 0) (cl a 1) (cl a 2) else d4 (cl a 0) (cl a 1) (cl a 2) (cl a 3)
theorem FK0 (a : Int → Int → Int) (i j : Int) : FK 0 a i j = a i j := by simp [FK]
theorem FK1 (a : Int → Int → Int) (i j : Int) : FK 1 a i j = if i = 0 then a 0 j else e2 i (cl a 0) (cl a j) := by simp [FK]
theorem FK2 (a : Int → Int → Int) (i j : Int) : FK 2 a i j = if i = 0 then d2 (cl a j) (cl a 1) else if i = 1 then d2 (cl a 0) (cl a j) else e3 i (cl a 0) (cl a 1) (cl a j) := by simp [FK]
theorem FK3 (a : Int → Int → Int) (i j : Int) : FK 3 a i j = if i = 0 then d3 (cl a j) (cl a 1) (cl a 2) else if i = 1 then d3 (cl a 0) (cl a j) (cl a 2) else if i = 2 then d3 (cl a 0) (cl a 1) (cl a j) else d4 (cl a 0) (cl a 1) (cl a 2) (cl a j) := by simp [FK]
theorem FK4 (a : Int → Int → Int) (i j : Int) : FK 4 a i j = if i = 0 then d4 (cl a j) (cl a 1) (cl a 2) (cl a 3) else if i = 1 then d4 (cl a 0) (cl a j) (cl a 2) (cl a 3) else if i = 2 then d4 (cl a 0) (cl a 1) (cl a j) (cl a 3) else d4 (cl a 0) (cl a 1) (cl a 2) (cl a j) := by simp [FK]
theorem mK0 (a : Int → Int → Int) : mK 0 a = 1 := by simp [mK]
theorem mK1 (a : Int → Int → Int) : mK 1 a = a 0 0 := by simp [mK]
theorem mK2 (a : Int → Int → Int) : mK 2 a = d2 (cl a 0) (cl a 1) := by simp [mK]
theorem mK3 (a : Int → Int → Int) : mK 3 a = d3 (cl a 0) (cl a 1) (cl a 2) := by simp [mK]
theorem mK4 (a : Int → Int → Int) : mK 4 a = d4 (cl a 0) (cl a 1) (cl a 2) (cl a 3) := by simp [mK]
theorem FK_piv (a : Int → Int → Int) {k : Int} (h0 : 0 ≤ k) (h1 : k < 4) : FK k a k k = mK (k + 1) a := by
  rcases (show k = 0 ∨ k = 1 ∨ k = 2 ∨ k = 3 by omega) with rfl | rfl | rfl | rfl
  · rw [FK0, show (0 : Int) + 1 = 1 by rfl, mK1]
  · rw [FK1, show (1 : Int) + 1 = 2 by rfl, mK2, if_neg (by omega)]; rfl
  · rw [FK2, show (2 : Int) + 1 = 3 by rfl, mK3, if_neg (by omega), if_neg (by omega)]; rfl
  · rw [FK3, show (3 : Int) + 1 = 4 by rfl, mK4, if_neg (by omega), if_neg (by omega), if_neg (by omega)]
theorem FK_row (a : Int → Int → Int) {k : Int} (h0 : 0 ≤ k) (h1 : k < 4) (j : Int) : FK (k + 1) a k j = FK k a k j := by
  rcases (show k = 0 ∨ k = 1 ∨ k = 2 ∨ k = 3 by omega) with rfl | rfl | rfl | rfl
  · rw [FK0, show (0 : Int) + 1 = 1 by rfl, FK1, if_pos rfl]
  · rw [show (1 : Int) + 1 = 2 by rfl, FK1, FK2]; simp only [show ¬ (1 : Int) = 0 by omega, show ¬ (2 : Int) = 0 by omega, show ¬ (2 : Int) = 1 by omega, show ¬ (3 : Int) = 0 by omega, show ¬ (3 : Int) = 1 by omega, show ¬ (3 : Int) = 2 by omega, if_false, if_pos]; rfl
  · rw [show (2 : Int) + 1 = 3 by rfl, FK2, FK3]; simp only [show ¬ (1 : Int) = 0 by omega, show ¬ (2 : Int) = 0 by omega, show ¬ (2 : Int) = 1 by omega, show ¬ (3 : Int) = 0 by omega, show ¬ (3 : Int) = 1 by omega, show ¬ (3 : Int) = 2 by omega, if_false, if_pos]; rfl
  · rw [show (3 : Int) + 1 = 4 by rfl, FK3, FK4]; simp only [show ¬ (1 : Int) = 0 by omega, show ¬ (2 : Int) = 0 by omega, show ¬ (2 : Int) = 1 by omega, show ¬ (3 : Int) = 0 by omega, show ¬ (3 : Int) = 1 by omega, show ¬ (3 : Int) = 2 by omega, if_false, if_pos]
theorem FK_syl (a : Int → Int → Int) {k i : Int} (h0 : 0 ≤ k) (h1 : k < 4) (i0 : 0 ≤ i) (i1 : i < 4) (hi : ¬ i = k) (j : Int) : FK k a k k * FK k a i j - FK k a i k * FK k a k j = mK k a * FK (k + 1) a i j := by
  rcases (show k = 0 ∨ k = 1 ∨ k = 2 ∨ k = 3 by omega) with rfl | rfl | rfl | rfl
  · rw [FK0, FK0, FK0, FK0, mK0, show (0 : Int) + 1 = 1 by rfl, FK1, if_neg hi, Int.one_mul]; rfl
  · rw [show (1 : Int) + 1 = 2 by rfl, FK1, FK1, FK1, FK1, FK2, mK1]
    rw [if_neg (by omega : ¬ (1 : Int) = 0), if_neg (by omega : ¬ (1 : Int) = 0)]
    by_cases e0 : i = 0
    · rw [if_pos e0, if_pos e0, if_pos e0]; exact sy10 (cl a 0) (cl a 1) (cl a j)
    · rw [if_neg e0, if_neg e0, if_neg e0, if_neg hi]; exact sy1 i (cl a 0) (cl a 1) (cl a j)
  · rw [show (2 : Int) + 1 = 3 by rfl, FK2, FK2, FK2, FK2, FK3, mK2]
    rw [if_neg (by omega : ¬ (2 : Int) = 0), if_neg (by omega : ¬ (2 : Int) = 1), if_neg (by omega : ¬ (2 : Int) = 0), if_neg (by omega : ¬ (2 : Int) = 1)]
    rcases (show i = 0 ∨ i = 1 ∨ i = 3 by omega) with rfl | rfl | rfl
    · simp only [if_pos]; exact sy20 (cl a 0) (cl a 1) (cl a 2) (cl a j)
    · rw [if_neg (by omega), if_pos rfl, if_neg (by omega), if_pos rfl, if_neg (by omega), if_pos rfl]; exact sy21 (cl a 0) (cl a 1) (cl a 2) (cl a j)
    · rw [if_neg (by omega), if_neg (by omega), if_neg (by omega), if_neg (by omega), if_neg (by omega), if_neg (by omega), if_neg (by omega)]; exact sy23 (cl a 0) (cl a 1) (cl a 2) (cl a j)
  · rw [show (3 : Int) + 1 = 4 by rfl, FK3, FK3, FK3, FK3, FK4, mK3]
    rw [if_neg (by omega : ¬ (3 : Int) = 0), if_neg (by omega : ¬ (3 : Int) = 1), if_neg (by omega : ¬ (3 : Int) = 2), if_neg (by omega : ¬ (3 : Int) = 0), if_neg (by omega : ¬ (3 : Int) = 1), if_neg (by omega : ¬ (3 : Int) = 2)]
    rcases (show i = 0 ∨ i = 1 ∨ i = 2 by omega) with rfl | rfl | rfl
    · simp only [if_pos]; exact sy30 (cl a 0) (cl a 1) (cl a 2) (cl a 3) (cl a j)
    · rw [if_neg (by omega), if_pos rfl, if_neg (by omega), if_pos rfl, if_neg (by omega), if_pos rfl]; exact sy31 (cl a 0) (cl a 1) (cl a 2) (cl a 3) (cl a j)
    · rw [if_neg (by omega), if_neg (by omega), if_pos rfl, if_neg (by omega), if_neg (by omega), if_pos rfl, if_neg (by omega), if_neg (by omega), if_pos rfl]; exact sy32 (cl a 0) (cl a 1) (cl a 2) (cl a 3) (cl a j)
/-- sums of up to four terms -/
theorem zsum_1 (f : Int → Int) : zsum f 1 = f 0 := by show 0 + f 0 = f 0; omega
theorem zsum_2 (f : Int → Int) : zsum f 2 = f 0 + f 1 := by show 0 + f 0 + f 1 = _; omega
theorem zsum_3 (f : Int → Int) : zsum f 3 = f 0 + f 1 + f 2 := by show 0 + f 0 + f 1 + f 2 = _; omega
theorem zsum_4 (f : Int → Int) : zsum f 4 = f 0 + f 1 + f 2 + f 3 := by show 0 + f 0 + f 1 + f 2 + f 3 = _; omega
theorem FK_cr (a : Int → Int → Int) {T r : Int} (h0 : 1 ≤ T) (h1 : T ≤ 4) (r0 : 0 ≤ r) (r1 : r < T) (j : Int) : zsum (fun i => a r i * FK T a i j) T = mK T a * a r j := by
  rcases (show T = 1 ∨ T = 2 ∨ T = 3 ∨ T = 4 by omega) with rfl | rfl | rfl | rfl
  · rw [zsum_1, FK1, mK1, if_pos rfl, show r = 0 by omega]
  · rw [zsum_2]
    simp only [FK2, mK2, if_pos, show ¬ (1 : Int) = 0 by omega, if_false]
    exact cr2 (cl a 0) (cl a 1) (cl a j) r0 r1
  · rw [zsum_3]
    simp only [FK3, mK3, if_pos, show ¬ (1 : Int) = 0 by omega, show ¬ (2 : Int) = 0 by omega, show ¬ (2 : Int) = 1 by omega, if_false]
    exact cr3 (cl a 0) (cl a 1) (cl a 2) (cl a j) r0 r1
  · rw [zsum_4]
    simp only [FK4, mK4, if_pos, show ¬ (1 : Int) = 0 by omega, show ¬ (2 : Int) = 0 by omega, show ¬ (2 : Int) = 1 by omega, show ¬ (3 : Int) = 0 by omega, show ¬ (3 : Int) = 1 by omega, show ¬ (3 : Int) = 2 by omega, if_false]
    exact cr4 (cl a 0) (cl a 1) (cl a 2) (cl a 3) (cl a j) r0 r1
/-- bounds -/
theorem e2_rng {u v : Int → Int} {i U V : Int} (hu : ∀ r : Int, 0 ≤ r → r < 4 → -U ≤ u r ∧ u r ≤ U) (hv : ∀ r : Int, 0 ≤ r → r < 4 → -V ≤ v r ∧ v r ≤ V) (h0 : 0 ≤ i) (h1 : i < 4) : -(2 * (U * V)) ≤ e2 i u v ∧ e2 i u v ≤ 2 * (U * V) := by
  unfold e2
  have a1 := mul_abs (hu 0 (by omega) (by omega)) (hv i h0 h1)
  have a2 := mul_abs (hu i h0 h1) (hv 0 (by omega) (by omega))
  omega
theorem two_rng {u v : Int → Int} {i U V : Int} (hu : ∀ r : Int, 0 ≤ r → r < 4 → -U ≤ u r ∧ u r ≤ U) (hv : ∀ r : Int, 0 ≤ r → r < 4 → -V ≤ v r ∧ v r ≤ V) (h0 : 0 ≤ i) (h1 : i < 3) : -(2 * (U * V)) ≤ two u v i ∧ two u v i ≤ 2 * (U * V) := by
  unfold two
  have a1 := mul_abs (hu i (by omega) (by omega)) (hv (i + 1) (by omega) (by omega))
  have a2 := mul_abs (hv i (by omega) (by omega)) (hu (i + 1) (by omega) (by omega))
  rw [Int.mul_comm V U] at a2
  omega
theorem e3_rng {u v w : Int → Int} {i : Int} (hu : ∀ r : Int, 0 ≤ r → r < 4 → -60 ≤ u r ∧ u r ≤ 60) (hv : ∀ r : Int, 0 ≤ r → r < 4 → -60 ≤ v r ∧ v r ≤ 60) (hw : ∀ r : Int, 0 ≤ r → r < 4 → -60 ≤ w r ∧ w r ≤ 60) (h0 : 0 ≤ i) (h1 : i < 4) : -1296000 ≤ e3 i u v w ∧ e3 i u v w ≤ 1296000 := by
  unfold e3
  have m : ∀ {a b c d : Int}, (-60 ≤ a ∧ a ≤ 60) → (-60 ≤ b ∧ b ≤ 60) → (-60 ≤ c ∧ c ≤ 60) → (-60 ≤ d ∧ d ≤ 60) → -7200 ≤ a * b - c * d ∧ a * b - c * d ≤ 7200 := by
    intro a b c d p q r s
    have := mul_abs p q
    have := mul_abs r s
    omega
  have b1 := m (hv 1 (by omega) (by omega)) (hw i h0 h1) (hv i h0 h1) (hw 1 (by omega) (by omega))
  have b2 := m (hu 1 (by omega) (by omega)) (hw i h0 h1) (hu i h0 h1) (hw 1 (by omega) (by omega))
  have b3 := m (hu 1 (by omega) (by omega)) (hv i h0 h1) (hu i h0 h1) (hv 1 (by omega) (by omega))
  have c1 := mul_abs (hu 0 (by omega) (by omega)) b1
  have c2 := mul_abs (hv 0 (by omega) (by omega)) b2
  have c3 := mul_abs (hw 0 (by omega) (by omega)) b3
  omega
theorem d4_rng {u v w x : Int → Int} (hu : ∀ r : Int, 0 ≤ r → r < 4 → -60 ≤ u r ∧ u r ≤ 60) (hv : ∀ r : Int, 0 ≤ r → r < 4 → -60 ≤ v r ∧ v r ≤ 60) (hw : ∀ r : Int, 0 ≤ r → r < 4 → -60 ≤ w r ∧ w r ≤ 60) (hx : ∀ r : Int, 0 ≤ r → r < 4 → -60 ≤ x r ∧ x r ≤ 60) : -311040000 ≤ d4 u v w x ∧ d4 u v w x ≤ 311040000 := by
  unfold d4
  have t : ∀ {f g : Int → Int} (hf : ∀ r : Int, 0 ≤ r → r < 4 → -60 ≤ f r ∧ f r ≤ 60) (hg : ∀ r : Int, 0 ≤ r → r < 4 → -60 ≤ g r ∧ g r ≤ 60) (i : Int), 0 ≤ i → i < 3 → -7200 ≤ two f g i ∧ two f g i ≤ 7200 := by
    intro f g hf hg i h0 h1
    have := two_rng hf hg h0 h1
    omega
  have a1 := mul_abs (t hu hv 0 (by omega) (by omega)) (t hw hx 2 (by omega) (by omega))
  have a2 := mul_abs (t hu hw 0 (by omega) (by omega)) (t hv hx 2 (by omega) (by omega))
  have a3 := mul_abs (t hu hx 0 (by omega) (by omega)) (t hv hw 2 (by omega) (by omega))
  have a4 := mul_abs (t hv hw 0 (by omega) (by omega)) (t hu hx 2 (by omega) (by omega))
  have a5 := mul_abs (t hv hx 0 (by omega) (by omega)) (t hu hw 2 (by omega) (by omega))
  have a6 := mul_abs (t hw hx 0 (by omega) (by omega)) (t hu hv 2 (by omega) (by omega))
  omega
theorem FK_rng {a : Int → Int → Int} {k i j : Int} (ha : ∀ r c : Int, 0 ≤ r → r < 4 → (c = j ∨ (0 ≤ c ∧ c < 4)) → -60 ≤ a r c ∧ a r c ≤ 60) (h0 : 0 ≤ k) (h1 : k ≤ 4) (i0 : 0 ≤ i) (i1 : i < 4) : -311040000 ≤ FK k a i j ∧ FK k a i j ≤ 311040000 := by
  have c : ∀ q : Int, (q = j ∨ (0 ≤ q ∧ q < 4)) → ∀ r : Int, 0 ≤ r → r < 4 → -60 ≤ cl a q r ∧ cl a q r ≤ 60 := fun q hq r r0 r1 => ha r q r0 r1 hq
  have cj := c j (Or.inl rfl)
  have c0 := c 0 (by omega)
  have c1 := c 1 (by omega)
  have c2 := c 2 (by omega)
  have c3 := c 3 (by omega)
  have d2r : ∀ {u v : Int → Int}, (∀ r : Int, 0 ≤ r → r < 4 → -60 ≤ u r ∧ u r ≤ 60) → (∀ r : Int, 0 ≤ r → r < 4 → -60 ≤ v r ∧ v r ≤ 60) → -7200 ≤ d2 u v ∧ d2 u v ≤ 7200 := by
    intro u v hu hv
    have := e2_rng (i := 1) hu hv (by omega) (by omega)
    unfold e2 at this
    unfold d2
    omega
  rcases (show k = 0 ∨ k = 1 ∨ k = 2 ∨ k = 3 ∨ k = 4 by omega) with rfl | rfl | rfl | rfl | rfl
  · rw [FK0]; have := ha i j i0 i1 (Or.inl rfl); omega
  · rw [FK1]; split
    · have := ha 0 j (by omega) (by omega) (Or.inl rfl); omega
    · have := e2_rng c0 cj i0 i1; omega
  · rw [FK2]; split
    · have := d2r cj c1; omega
    · split
      · have := d2r c0 cj; omega
      · have := e3_rng c0 c1 cj i0 i1; omega
  · rw [FK3]; split
    · have := e3_rng cj c1 c2 (i := 2) (by omega) (by omega); unfold d3; omega
    · split
      · have := e3_rng c0 cj c2 (i := 2) (by omega) (by omega); unfold d3; omega
      · split
        · have := e3_rng c0 c1 cj (i := 2) (by omega) (by omega); unfold d3; omega
        · exact d4_rng c0 c1 c2 cj
  · rw [FK4]; split
    · exact d4_rng cj c1 c2 c3
    · split
      · exact d4_rng c0 cj c2 c3
      · split
        · exact d4_rng c0 c1 cj c3
        · exact d4_rng c0 c1 c2 cj
/-- no pivot: the determinant is 0 -/
theorem schur4 (u v w x : Int → Int) : u 0 * u 0 * d4 u v w x = e2 1 u v * (e2 2 u w * e2 3 u x - e2 2 u x * e2 3 u w) - e2 2 u v * (e2 1 u w * e2 3 u x - e2 1 u x * e2 3 u w) + e2 3 u v * (e2 1 u w * e2 2 u x - e2 1 u x * e2 2 u w) := by unfold d4 two e2; grind
theorem zero_of {m x : Int} (hm : ¬ m = 0) (h : m * x = 0) : x = 0 := (Int.mul_eq_zero.mp h).resolve_left hm
theorem FK_none {a : Int → Int → Int} {T k : Int} (h0 : 0 ≤ k) (h1 : k < T) (h4 : T ≤ 4) (hm : ¬ mK k a = 0) (hz : ∀ i : Int, k ≤ i → i < T → FK k a i k = 0) : mK T a = 0 := by
  rcases (show k = 0 ∨ k = 1 ∨ k = 2 ∨ k = 3 by omega) with rfl | rfl | rfl | rfl
  · have z : ∀ i : Int, 0 ≤ i → i < T → cl a 0 i = 0 := fun i p q => by have := hz i p q; rwa [FK0] at this
    have z0 := z 0 (by omega) (by omega)
    rcases (show T = 1 ∨ T = 2 ∨ T = 3 ∨ T = 4 by omega) with rfl | rfl | rfl | rfl
    · rw [mK1]; exact z0
    · have z1 := z 1 (by omega) (by omega)
      rw [mK2]; unfold d2; rw [z0, z1]; omega
    · have z1 := z 1 (by omega) (by omega)
      have z2 := z 2 (by omega) (by omega)
      rw [mK3]; unfold d3 e3; rw [z0, z1, z2]; grind
    · have z1 := z 1 (by omega) (by omega)
      have z2 := z 2 (by omega) (by omega)
      have z3 := z 3 (by omega) (by omega)
      rw [mK4]; simp only [d4, two, show (0 : Int) + 1 = 1 by rfl, show (2 : Int) + 1 = 3 by rfl, z0, z1, z2, z3]; grind
  · have z : ∀ i : Int, 1 ≤ i → i < T → e2 i (cl a 0) (cl a 1) = 0 := fun i p q => by have := hz i p q; rwa [FK1, if_neg (by omega)] at this
    rw [mK1] at hm
    have z1 := z 1 (by omega) (by omega)
    rcases (show T = 2 ∨ T = 3 ∨ T = 4 by omega) with rfl | rfl | rfl
    · rw [mK2]; exact z1
    · have z2 := z 2 (by omega) (by omega)
      rw [mK3]
      have := sy1 2 (cl a 0) (cl a 1) (cl a 2)
      rw [show d2 (cl a 0) (cl a 1) = 0 from z1, z2, Int.zero_mul, Int.zero_mul] at this
      exact zero_of (m := a 0 0) hm this.symm
    · have z2 := z 2 (by omega) (by omega)
      have z3 := z 3 (by omega) (by omega)
      rw [mK4]
      have := schur4 (cl a 0) (cl a 1) (cl a 2) (cl a 3)
      rw [z1, z2, z3, Int.zero_mul, Int.zero_mul, Int.zero_mul] at this
      exact zero_of (m := a 0 0 * a 0 0) (fun q => by rcases Int.mul_eq_zero.mp q with q | q <;> exact hm q) this
  · have z : ∀ i : Int, 2 ≤ i → i < T → e3 i (cl a 0) (cl a 1) (cl a 2) = 0 := fun i p q => by have := hz i p q; rwa [FK2, if_neg (by omega), if_neg (by omega)] at this
    rw [mK2] at hm
    have z2 := z 2 (by omega) (by omega)
    rcases (show T = 3 ∨ T = 4 by omega) with rfl | rfl
    · rw [mK3]; exact z2
    · have z3 := z 3 (by omega) (by omega)
      rw [mK4]
      have := sy23 (cl a 0) (cl a 1) (cl a 2) (cl a 3)
      rw [show d3 (cl a 0) (cl a 1) (cl a 2) = 0 from z2, z3, Int.zero_mul, Int.zero_mul] at this
      exact zero_of hm this.symm
  · have := hz 3 (by omega) (by omega)
    rw [FK3, if_neg (by omega), if_neg (by omega), if_neg (by omega)] at this
    rw [show T = 4 by omega, mK4]
    exact this
