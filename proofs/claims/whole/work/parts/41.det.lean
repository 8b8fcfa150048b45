/-- determinants of columns -/
def d2 (u v : Int → Int) : Int := u 0 * v 1 - u 1 * v 0
def e2 (i : Int) (u v : Int → Int) : Int := u 0 * v i - u i * v 0
def e3 (i : Int) (u v w : Int → Int) : Int := u 0 * (v 1 * w i - v i * w 1) - v 0 * (u 1 * w i - u i * w 1) + w 0 * (u 1 * v i - u i * v 1)
def d3 (u v w : Int → Int) : Int := e3 2 u v w
def two (u v : Int → Int) (r : Int) : Int := u r * v (r + 1) - v r * u (r + 1)
def d4 (u v w x : Int → Int) : Int := two u v 0 * two w x 2 - two u w 0 * two v x 2 + two u x 0 * two v w 2 + two v w 0 * two u x 2 - two v x 0 * two u w 2 + two w x 0 * two u v 2
theorem sy10 (u v x : Int → Int) : d2 u v * x 0 - v 0 * e2 1 u x = u 0 * d2 x v := by unfold d2 e2; grind
theorem sy1 (i : Int) (u v x : Int → Int) : d2 u v * e2 i u x - e2 i u v * e2 1 u x = u 0 * e3 i u v x := by unfold d2 e2 e3; grind
theorem sy20 (u v w x : Int → Int) : d3 u v w * d2 x v - d2 w v * e3 2 u v x = d2 u v * d3 x v w := by unfold d3 d2 e3; grind
theorem sy21 (u v w x : Int → Int) : d3 u v w * d2 u x - d2 u w * e3 2 u v x = d2 u v * d3 u x w := by unfold d3 d2 e3; grind
theorem sy23 (u v w x : Int → Int) : d3 u v w * e3 3 u v x - e3 3 u v w * e3 2 u v x = d2 u v * d4 u v w x := by unfold d3 d2 e3 d4 two; grind
theorem sy30 (u v w y x : Int → Int) : d4 u v w y * d3 x v w - d3 y v w * d4 u v w x = d3 u v w * d4 x v w y := by unfold d3 e3 d4 two; grind
theorem sy31 (u v w y x : Int → Int) : d4 u v w y * d3 u x w - d3 u y w * d4 u v w x = d3 u v w * d4 u x w y := by unfold d3 e3 d4 two; grind
theorem sy32 (u v w y x : Int → Int) : d4 u v w y * d3 u v x - d3 u v y * d4 u v w x = d3 u v w * d4 u v x y := by unfold d3 e3 d4 two; grind
theorem cr4 (u v w y x : Int → Int) {r : Int} (h0 : 0 ≤ r) (h1 : r < 4) : u r * d4 x v w y + v r * d4 u x w y + w r * d4 u v x y + y r * d4 u v w x = d4 u v w y * x r := by
  refine zz_c4 (P := fun r => u r * d4 x v w y + v r * d4 u x w y + w r * d4 u v x y + y r * d4 u v w x = d4 u v w y * x r) ?_ ?_ ?_ ?_ h0 h1 <;> (unfold d4 two; grind)
theorem cr3 (u v w x : Int → Int) {r : Int} (h0 : 0 ≤ r) (h1 : r < 3) : u r * d3 x v w + v r * d3 u x w + w r * d3 u v x = d3 u v w * x r := by
  rcases (show r = 0 ∨ r = 1 ∨ r = 2 by omega) with rfl | rfl | rfl <;> (unfold d3 e3; grind)
theorem cr2 (u v x : Int → Int) {r : Int} (h0 : 0 ≤ r) (h1 : r < 2) : u r * d2 x v + v r * d2 u x = d2 u v * x r := by
  rcases (show r = 0 ∨ r = 1 by omega) with rfl | rfl <;> (unfold d2; grind)
/-- a column replaced by a sum of all: that column's part -/
theorem rp4a (u v w y x : Int → Int) (a b c d : Int) (h : ∀ r : Int, 0 ≤ r → r < 4 → x r = u r * a + v r * b + w r * c + y r * d) : d4 x v w y = a * d4 u v w y := by
  have h0 := h 0 (by omega) (by omega)
  have h1 := h 1 (by omega) (by omega)
  have h2 := h 2 (by omega) (by omega)
  have h3 := h 3 (by omega) (by omega)
  simp only [d4, two, show (0 : Int) + 1 = 1 by rfl, show (2 : Int) + 1 = 3 by rfl, h0, h1, h2, h3]
  grind
theorem rp4b (u v w y x : Int → Int) (a b c d : Int) (h : ∀ r : Int, 0 ≤ r → r < 4 → x r = u r * a + v r * b + w r * c + y r * d) : d4 u x w y = b * d4 u v w y := by
  have h0 := h 0 (by omega) (by omega)
  have h1 := h 1 (by omega) (by omega)
  have h2 := h 2 (by omega) (by omega)
  have h3 := h 3 (by omega) (by omega)
  simp only [d4, two, show (0 : Int) + 1 = 1 by rfl, show (2 : Int) + 1 = 3 by rfl, h0, h1, h2, h3]
  grind
theorem rp4c (u v w y x : Int → Int) (a b c d : Int) (h : ∀ r : Int, 0 ≤ r → r < 4 → x r = u r * a + v r * b + w r * c + y r * d) : d4 u v x y = c * d4 u v w y := by
  have h0 := h 0 (by omega) (by omega)
  have h1 := h 1 (by omega) (by omega)
  have h2 := h 2 (by omega) (by omega)
  have h3 := h 3 (by omega) (by omega)
  simp only [d4, two, show (0 : Int) + 1 = 1 by rfl, show (2 : Int) + 1 = 3 by rfl, h0, h1, h2, h3]
  grind
theorem rp4d (u v w y x : Int → Int) (a b c d : Int) (h : ∀ r : Int, 0 ≤ r → r < 4 → x r = u r * a + v r * b + w r * c + y r * d) : d4 u v w x = d * d4 u v w y := by
  have h0 := h 0 (by omega) (by omega)
  have h1 := h 1 (by omega) (by omega)
  have h2 := h 2 (by omega) (by omega)
  have h3 := h 3 (by omega) (by omega)
  simp only [d4, two, show (0 : Int) + 1 = 1 by rfl, show (2 : Int) + 1 = 3 by rfl, h0, h1, h2, h3]
  grind
/-- a determinant is no more than the product of its columns' lengths -/
def sq4 (u : Int → Int) : Int := u 0 * u 0 + u 1 * u 1 + u 2 * u 2 + u 3 * u 3
def pr6 (u v : Int → Int) : Int := (u 0 * v 1 - v 0 * u 1) * (u 0 * v 1 - v 0 * u 1) + (u 0 * v 2 - v 0 * u 2) * (u 0 * v 2 - v 0 * u 2) + (u 0 * v 3 - v 0 * u 3) * (u 0 * v 3 - v 0 * u 3) + (u 1 * v 2 - v 1 * u 2) * (u 1 * v 2 - v 1 * u 2) + (u 1 * v 3 - v 1 * u 3) * (u 1 * v 3 - v 1 * u 3) + (u 2 * v 3 - v 2 * u 3) * (u 2 * v 3 - v 2 * u 3)
theorem pr6_sq (u v : Int → Int) : pr6 u v + (u 0 * v 0 + u 1 * v 1 + u 2 * v 2 + u 3 * v 3) * (u 0 * v 0 + u 1 * v 1 + u 2 * v 2 + u 3 * v 3) = sq4 u * sq4 v := by unfold pr6 sq4; grind
set_option maxRecDepth 20000 in
theorem d4_cs (u v w x : Int → Int) : ∃ q : Int, 0 ≤ q ∧ d4 u v w x * d4 u v w x + q = pr6 u v * pr6 w x := by
  -- Laplace by the first two columns, then Cauchy and Schwarz for six numbers
  have key : ∀ a1 a2 a3 a4 a5 a6 b1 b2 b3 b4 b5 b6 : Int, (a1 * b1 + a2 * b2 + a3 * b3 + a4 * b4 + a5 * b5 + a6 * b6) * (a1 * b1 + a2 * b2 + a3 * b3 + a4 * b4 + a5 * b5 + a6 * b6)
      + ((a1 * b2 - a2 * b1) * (a1 * b2 - a2 * b1) + (a1 * b3 - a3 * b1) * (a1 * b3 - a3 * b1) + (a1 * b4 - a4 * b1) * (a1 * b4 - a4 * b1) + (a1 * b5 - a5 * b1) * (a1 * b5 - a5 * b1) + (a1 * b6 - a6 * b1) * (a1 * b6 - a6 * b1)
        + (a2 * b3 - a3 * b2) * (a2 * b3 - a3 * b2) + (a2 * b4 - a4 * b2) * (a2 * b4 - a4 * b2) + (a2 * b5 - a5 * b2) * (a2 * b5 - a5 * b2) + (a2 * b6 - a6 * b2) * (a2 * b6 - a6 * b2)
        + (a3 * b4 - a4 * b3) * (a3 * b4 - a4 * b3) + (a3 * b5 - a5 * b3) * (a3 * b5 - a5 * b3) + (a3 * b6 - a6 * b3) * (a3 * b6 - a6 * b3)
        + (a4 * b5 - a5 * b4) * (a4 * b5 - a5 * b4) + (a4 * b6 - a6 * b4) * (a4 * b6 - a6 * b4) + (a5 * b6 - a6 * b5) * (a5 * b6 - a6 * b5))
      = (a1 * a1 + a2 * a2 + a3 * a3 + a4 * a4 + a5 * a5 + a6 * a6) * (b1 * b1 + b2 * b2 + b3 * b3 + b4 * b4 + b5 * b5 + b6 * b6) := by
    intros; grind
  have h := key (u 0 * v 1 - v 0 * u 1) (u 0 * v 2 - v 0 * u 2) (u 0 * v 3 - v 0 * u 3) (u 1 * v 2 - v 1 * u 2) (u 1 * v 3 - v 1 * u 3) (u 2 * v 3 - v 2 * u 3)
    (w 2 * x 3 - x 2 * w 3) (-(w 1 * x 3 - x 1 * w 3)) (w 1 * x 2 - x 1 * w 2) (w 0 * x 3 - x 0 * w 3) (-(w 0 * x 2 - x 0 * w 2)) (w 0 * x 1 - x 0 * w 1)
  have sq : ∀ a : Int, 0 ≤ a * a := fun a => by
    rcases Int.le_total 0 a with q | q
    · exact Int.mul_nonneg q q
    · have := Int.mul_nonneg (show 0 ≤ -a by omega) (show 0 ≤ -a by omega)
      rwa [Int.neg_mul_neg] at this
  have e : d4 u v w x = (u 0 * v 1 - v 0 * u 1) * (w 2 * x 3 - x 2 * w 3) + (u 0 * v 2 - v 0 * u 2) * (-(w 1 * x 3 - x 1 * w 3)) + (u 0 * v 3 - v 0 * u 3) * (w 1 * x 2 - x 1 * w 2) + (u 1 * v 2 - v 1 * u 2) * (w 0 * x 3 - x 0 * w 3) + (u 1 * v 3 - v 1 * u 3) * (-(w 0 * x 2 - x 0 * w 2)) + (u 2 * v 3 - v 2 * u 3) * (w 0 * x 1 - x 0 * w 1) := by
    simp only [d4, two, show (0 : Int) + 1 = 1 by rfl, show (2 : Int) + 1 = 3 by rfl]
    grind
  rw [← e] at h
  refine ⟨_, ?_, h.trans ?_⟩
  · repeat' apply Int.add_nonneg
    all_goals exact sq _
  · unfold pr6; grind
theorem sq_nonneg9 (a : Int) : 0 ≤ a * a := by
  rcases Int.le_total 0 a with q | q
  · exact Int.mul_nonneg q q
  · have := Int.mul_nonneg (show 0 ≤ -a by omega) (show 0 ≤ -a by omega)
    rwa [Int.neg_mul_neg] at this
theorem d4_had (u v w x : Int → Int) : d4 u v w x * d4 u v w x ≤ sq4 u * sq4 v * (sq4 w * sq4 x) := by
  obtain ⟨q, hq, h⟩ := d4_cs u v w x
  have h1 := pr6_sq u v
  have h2 := pr6_sq w x
  have n1 := sq_nonneg9 (u 0 * v 0 + u 1 * v 1 + u 2 * v 2 + u 3 * v 3)
  have n2 := sq_nonneg9 (w 0 * x 0 + w 1 * x 1 + w 2 * x 2 + w 3 * x 3)
  have p1 : 0 ≤ pr6 u v := by
    unfold pr6
    repeat' apply Int.add_nonneg
    all_goals exact sq_nonneg9 _
  have p2 : 0 ≤ pr6 w x := by
    unfold pr6
    repeat' apply Int.add_nonneg
    all_goals exact sq_nonneg9 _
  have h3 : pr6 u v * pr6 w x ≤ sq4 u * sq4 v * (sq4 w * sq4 x) := by
    refine Int.mul_le_mul (by omega) (by omega) p2 (by omega)
  omega
