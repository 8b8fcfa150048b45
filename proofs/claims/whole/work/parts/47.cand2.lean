/-- fractions in the order of their keys -/
def lexLt (m D : Int) (K : Int → Int) (D' : Int) (K' : Int → Int) : Prop := ∃ j : Int, 0 ≤ j ∧ j < m ∧ (∀ i : Int, 0 ≤ i → i < j → K i * D' = K' i * D) ∧ K j * D' < K' j * D
theorem lex_irr {m D D' : Int} {K K' : Int → Int} (h : ∀ i : Int, 0 ≤ i → i < m → K i * D' = K' i * D) : ¬ lexLt m D K D' K' := by
  rintro ⟨j, j0, j1, -, q⟩
  have := h j j0 j1
  omega
theorem lex_tri (m D D' : Int) (K K' : Int → Int) : lexLt m D K D' K' ∨ (∀ i : Int, 0 ≤ i → i < m → K i * D' = K' i * D) ∨ lexLt m D' K' D K := by
  have key : ∀ n : Nat, lexLt (n : Int) D K D' K' ∨ (∀ i : Int, 0 ≤ i → i < (n : Int) → K i * D' = K' i * D) ∨ lexLt (n : Int) D' K' D K := by
    intro n
    induction n with
    | zero => exact Or.inr (Or.inl (fun i a b => by omega))
    | succ n ih =>
      rcases ih with ⟨j, a, b, c, d⟩ | h | ⟨j, a, b, c, d⟩
      · exact Or.inl ⟨j, a, by omega, c, d⟩
      · rcases Int.lt_trichotomy (K n * D') (K' n * D) with q | q | q
        · exact Or.inl ⟨n, by omega, by omega, h, q⟩
        · refine Or.inr (Or.inl (fun i a b => ?_))
          by_cases e : i = (n : Int)
          · rw [e]; exact q
          · exact h i a (by omega)
        · exact Or.inr (Or.inr ⟨n, by omega, by omega, fun i a b => (h i a b).symm, q⟩)
      · exact Or.inr (Or.inr ⟨j, a, by omega, c, d⟩)
  by_cases hm : 0 ≤ m
  · have := key m.toNat
    rwa [Int.toNat_of_nonneg hm] at this
  · exact Or.inr (Or.inl (fun i a b => by omega))
theorem xeq_trans {a D b E c F : Int} (hE : 0 < E) (h1 : a * E = b * D) (h2 : b * F = c * E) : a * F = c * D := by
  have e1 : a * F * E = c * D * E := by
    have : a * F * E = a * E * F := Int.mul_right_comm _ _ _
    rw [this, h1, Int.mul_right_comm b D F, h2, Int.mul_right_comm]
  exact Int.eq_of_mul_eq_mul_right (by omega) e1
theorem xlt_trans {a D b E c F : Int} (hD : 0 < D) (hE : 0 < E) (hF : 0 < F) (h1 : a * E ≤ b * D) (h2 : b * F ≤ c * E) (h3 : a * E < b * D ∨ b * F < c * E) : a * F < c * D := by
  have m1 : a * E * F ≤ b * D * F := Int.mul_le_mul_of_nonneg_right h1 (by omega)
  have m2 : b * F * D ≤ c * E * D := Int.mul_le_mul_of_nonneg_right h2 (by omega)
  have e1 : b * D * F = b * F * D := Int.mul_right_comm _ _ _
  have k : a * F * E < c * D * E := by
    rw [Int.mul_right_comm a F E, Int.mul_right_comm c D E]
    rcases h3 with q | q
    · have := Int.mul_lt_mul_of_pos_right q hF
      omega
    · have := Int.mul_lt_mul_of_pos_right q hD
      omega
  exact Int.lt_of_mul_lt_mul_right k (by omega)
theorem lex_trans {m D D' D'' : Int} {K K' K'' : Int → Int} (hD : 0 < D) (hE : 0 < D') (hF : 0 < D'') (h1 : lexLt m D K D' K') (h2 : lexLt m D' K' D'' K'') : lexLt m D K D'' K'' := by
  obtain ⟨j, a, b, c, d⟩ := h1
  obtain ⟨k, a', b', c', d'⟩ := h2
  rcases Int.lt_trichotomy j k with q | q | q
  · exact ⟨j, a, b, fun i i0 i1 => xeq_trans hE (c i i0 i1) (c' i i0 (by omega)), xlt_trans hD hE hF (Int.le_of_lt d) (Int.le_of_eq (c' j a q)) (Or.inl d)⟩
  · subst q
    exact ⟨j, a, b, fun i i0 i1 => xeq_trans hE (c i i0 i1) (c' i i0 i1), xlt_trans hD hE hF (Int.le_of_lt d) (Int.le_of_lt d') (Or.inl d)⟩
  · exact ⟨k, a', b', fun i i0 i1 => xeq_trans hE (c i i0 (by omega)) (c' i i0 i1), xlt_trans hD hE hF (Int.le_of_eq (c k a' q)) (Int.le_of_lt d') (Or.inr d')⟩
theorem lex_eqr {m D D' D'' : Int} {K K' K'' : Int → Int} (hD : 0 < D) (hE : 0 < D') (hF : 0 < D'') (h1 : lexLt m D K D' K') (h2 : ∀ i : Int, 0 ≤ i → i < m → K' i * D'' = K'' i * D') : lexLt m D K D'' K'' := by
  obtain ⟨j, a, b, c, d⟩ := h1
  exact ⟨j, a, b, fun i i0 i1 => xeq_trans hE (c i i0 i1) (h2 i i0 (by omega)), xlt_trans hD hE hF (Int.le_of_lt d) (Int.le_of_eq (h2 j a b)) (Or.inl d)⟩
theorem lex_eql {m D D' D'' : Int} {K K' K'' : Int → Int} (hD : 0 < D) (hE : 0 < D') (hF : 0 < D'') (h1 : ∀ i : Int, 0 ≤ i → i < m → K i * D' = K' i * D) (h2 : lexLt m D' K' D'' K'') : lexLt m D K D'' K'' := by
  obtain ⟨j, a, b, c, d⟩ := h2
  exact ⟨j, a, b, fun i i0 i1 => xeq_trans hE (h1 i i0 (by omega)) (c i i0 i1), xlt_trans hD hE hF (Int.le_of_eq (h1 j a b)) (Int.le_of_lt d) (Or.inr d)⟩
/-- the best of those that are looked at; D = 0: none -/
def opt (Q : (Int → Int) → Prop) (C : (Int → Int) → Int → (Int → Int) → Prop) (m : Int) (key : (Int → Int) → Int → Int) (D : Int) (V : Int → Int) : Prop :=
  (D = 0 ∧ ∀ g D' V', Q g → ¬ C g D' V') ∨ (0 < D ∧ (∃ g, C g D V) ∧ ∀ g D' V', Q g → C g D' V' → ¬ lexLt m D' (key V') D (key V))
theorem opt_skip {Q Q' : (Int → Int) → Prop} {C : (Int → Int) → Int → (Int → Int) → Prop} {m D : Int} {key : (Int → Int) → Int → Int} {V : Int → Int} (h : opt Q C m key D V) (hq : ∀ g D' V', Q' g → C g D' V' → Q g) : opt Q' C m key D V := by
  rcases h with ⟨h1, h2⟩ | ⟨h1, h2, h3⟩
  · exact Or.inl ⟨h1, fun g D' V' a b => h2 g D' V' (hq g D' V' a b) b⟩
  · exact Or.inr ⟨h1, h2, fun g D' V' a b => h3 g D' V' (hq g D' V' a b) b⟩
theorem opt_keep {Q Q' : (Int → Int) → Prop} {C : (Int → Int) → Int → (Int → Int) → Prop} {m D D0 : Int} {key : (Int → Int) → Int → Int} {V V0 : Int → Int} (hC : ∀ g D' V', C g D' V' → 0 < D') (h : opt Q C m key D V) (hD : ¬ D = 0) (h0 : 0 < D0) (hn : ¬ lexLt m D0 (key V0) D (key V)) (hq : ∀ g D' V', Q' g → C g D' V' → Q g ∨ ∀ i : Int, 0 ≤ i → i < m → key V' i * D0 = key V0 i * D') : opt Q' C m key D V := by
  rcases h with ⟨h1, h2⟩ | ⟨h1, h2, h3⟩
  · exact absurd h1 hD
  · refine Or.inr ⟨h1, h2, fun g D' V' a b q => ?_⟩
    rcases hq g D' V' a b with w | w
    · exact h3 g D' V' w b q
    · exact hn (lex_eql h0 (hC g D' V' b) h1 (fun i i0 i1 => (w i i0 i1).symm) q)
theorem opt_new {Q Q' : (Int → Int) → Prop} {C : (Int → Int) → Int → (Int → Int) → Prop} {m D D0 : Int} {key : (Int → Int) → Int → Int} {V V0 g0 : Int → Int} (hC : ∀ g D' V', C g D' V' → 0 < D') (h : opt Q C m key D V) (h0 : C g0 D0 V0) (hn : D = 0 ∨ lexLt m D0 (key V0) D (key V)) (hq : ∀ g D' V', Q' g → C g D' V' → Q g ∨ ∀ i : Int, 0 ≤ i → i < m → key V' i * D0 = key V0 i * D') : opt Q' C m key D0 V0 := by
  have hp := hC _ _ _ h0
  refine Or.inr ⟨hp, ⟨g0, h0⟩, fun g D' V' a b q => ?_⟩
  rcases hq g D' V' a b with w | w
  · rcases h with ⟨h1, h2⟩ | ⟨h1, h2, h3⟩
    · exact h2 g D' V' w b
    · rcases hn with e | e
      · omega
      · exact h3 g D' V' w b (lex_trans (hC _ _ _ b) hp h1 q e)
  · exact lex_irr w q
theorem opt_one {C : (Int → Int) → Int → (Int → Int) → Prop} {m D D' : Int} {key : (Int → Int) → Int → Int} {V V' : Int → Int} (h : opt (fun _ => True) C m key D V) (h' : opt (fun _ => True) C m key D' V') (hD : ¬ D = 0) (hD' : ¬ D' = 0) : ∀ i : Int, 0 ≤ i → i < m → key V i * D' = key V' i * D := by
  rcases h with ⟨h1, h2⟩ | ⟨h1, ⟨g, h2⟩, h3⟩
  · exact absurd h1 hD
  rcases h' with ⟨k1, k2⟩ | ⟨k1, ⟨g', k2⟩, k3⟩
  · exact absurd k1 hD'
  rcases lex_tri m D D' (key V) (key V') with q | q | q
  · exact absurd q (k3 g D V trivial h2)
  · exact q
  · exact absurd q (h3 g' D' V' trivial k2)
/-- rows of columns, rising -/
def srt (T : Int) (g : Int → Int) : Prop := ∀ i : Int, 0 ≤ i → i + 1 < T → g i < g (i + 1)
def sameB (T : Int) (g g' : Int → Int) : Prop := (∀ i : Int, 0 ≤ i → i < T → ∃ j : Int, 0 ≤ j ∧ j < T ∧ g' j = g i) ∧ (∀ i : Int, 0 ≤ i → i < T → ∃ j : Int, 0 ≤ j ∧ j < T ∧ g j = g' i)
theorem sameB_refl (T : Int) (g : Int → Int) : sameB T g g := ⟨fun i a b => ⟨i, a, b, rfl⟩, fun i a b => ⟨i, a, b, rfl⟩⟩
theorem sameB_trans {T : Int} {g g' g'' : Int → Int} (h : sameB T g g') (k : sameB T g' g'') : sameB T g g'' :=
  ⟨fun i a b => by obtain ⟨j, c, d, e⟩ := h.1 i a b; obtain ⟨q, c', d', e'⟩ := k.1 j c d; exact ⟨q, c', d', e'.trans e⟩,
   fun i a b => by obtain ⟨j, c, d, e⟩ := k.2 i a b; obtain ⟨q, c', d', e'⟩ := h.2 j c d; exact ⟨q, c', d', e'.trans e⟩⟩
def swg (k : Int) (g : Int → Int) : Int → Int := fun i => if i = k then g (k + 1) else if i = k + 1 then g k else g i
theorem sameB_swg {T k : Int} (g : Int → Int) (k0 : 0 ≤ k) (k1 : k + 1 < T) : sameB T g (swg k g) := by
  refine ⟨fun i a b => ?_, fun i a b => ?_⟩
  · by_cases e : i = k
    · exact ⟨k + 1, by omega, k1, by unfold swg; rw [if_neg (by omega), if_pos rfl, e]⟩
    · by_cases q : i = k + 1
      · exact ⟨k, by omega, by omega, by unfold swg; rw [if_pos rfl, q]⟩
      · exact ⟨i, a, b, by unfold swg; rw [if_neg e, if_neg q]⟩
  · by_cases e : i = k
    · exact ⟨k + 1, by omega, k1, by unfold swg; rw [if_pos e]⟩
    · by_cases q : i = k + 1
      · exact ⟨k, by omega, by omega, by unfold swg; rw [if_neg e, if_pos q]⟩
      · exact ⟨i, a, b, by unfold swg; rw [if_neg e, if_neg q]⟩
theorem d4_s0 (u v w x : Int → Int) : d4 v u w x = -d4 u v w x := by unfold d4 two; grind
theorem d4_s1 (u v w x : Int → Int) : d4 u w v x = -d4 u v w x := by unfold d4 two; grind
theorem d4_s2 (u v w x : Int → Int) : d4 u v x w = -d4 u v w x := by unfold d4 two; grind
theorem dB_swg {T k : Int} (E : Int → Int → Int) (g : Int → Int) (k0 : 0 ≤ k) (k1 : k + 1 < T) (h4 : T ≤ 4) : dB T E (swg k g) = -dB T E g := by
  have e : ∀ i j : Int, i < T → j < T → swg k g i = g j → pcol T E (swg k g) i = pcol T E g j := fun i j a b q => by funext r; unfold pcol; rw [if_pos a, if_pos b, q]
  have e' : ∀ i : Int, T ≤ i → pcol T E (swg k g) i = pcol T E g i := fun i a => by funext r; unfold pcol; rw [if_neg (show ¬ i < T by omega), if_neg (show ¬ i < T by omega)]
  have a1 := e k (k + 1) (by omega) k1 (by unfold swg; rw [if_pos rfl])
  have a2 := e (k + 1) k k1 (by omega) (by unfold swg; rw [if_neg (by omega), if_pos rfl])
  have a3 : ∀ i : Int, ¬ i = k → ¬ i = k + 1 → pcol T E (swg k g) i = pcol T E g i := fun i q1 q2 => by
    by_cases q : i < T
    · exact e i i q q (by unfold swg; rw [if_neg q1, if_neg q2])
    · exact e' i (by omega)
  unfold dB
  rcases (show k = 0 ∨ k = 1 ∨ k = 2 by omega) with rfl | rfl | rfl
  · rw [show (0 : Int) + 1 = 1 by rfl] at a1 a2
    rw [a1, a2, a3 2 (by omega) (by omega), a3 3 (by omega) (by omega), d4_s0]
  · rw [show (1 : Int) + 1 = 2 by rfl] at a1 a2
    rw [a1, a2, a3 0 (by omega) (by omega), a3 3 (by omega) (by omega), d4_s1]
  · rw [show (2 : Int) + 1 = 3 by rfl] at a1 a2
    rw [a1, a2, a3 0 (by omega) (by omega), a3 1 (by omega) (by omega), d4_s2]
theorem cmpx {T k : Int} {E : Int → Int → Int} {g : Int → Int} (hd : ¬ dB T E g = 0) (k0 : 0 ≤ k) (k1 : k + 1 < T) (h4 : T ≤ 4) : ∃ g', ¬ dB T E g' = 0 ∧ sameB T g g' ∧ g' k = min (g k) (g (k + 1)) ∧ g' (k + 1) = max (g k) (g (k + 1)) ∧ ∀ i : Int, ¬ i = k → ¬ i = k + 1 → g' i = g i := by
  by_cases q : g k ≤ g (k + 1)
  · exact ⟨g, hd, sameB_refl T g, by omega, by omega, fun _ _ _ => rfl⟩
  · refine ⟨swg k g, by rw [dB_swg E g k0 k1 h4]; omega, sameB_swg g k0 k1, ?_, ?_, fun i a b => ?_⟩
    · unfold swg; rw [if_pos rfl]; omega
    · unfold swg; rw [if_neg (by omega), if_pos rfl]; omega
    · unfold swg; rw [if_neg a, if_neg b]
/-- what is chosen can be brought into order -/
theorem dB_srt {T : Int} {E : Int → Int → Int} {g : Int → Int} (h1 : 1 ≤ T) (h4 : T ≤ 4) (hd : ¬ dB T E g = 0) : ∃ g', ¬ dB T E g' = 0 ∧ sameB T g g' ∧ srt T g' := by
  have fin : ∀ g', ¬ dB T E g' = 0 → sameB T g g' → (∀ i : Int, 0 ≤ i → i + 1 < T → g' i ≤ g' (i + 1)) → ∃ g', ¬ dB T E g' = 0 ∧ sameB T g g' ∧ srt T g' := by
    intro g' a b c
    refine ⟨g', a, b, fun i i0 i1 => ?_⟩
    have := c i i0 i1
    have e := dB_inj h4 a i (i + 1) i0 (by omega) (by omega) i1
    by_cases q : g' i = g' (i + 1)
    · have := e q; omega
    · omega
  rcases (show T = 1 ∨ T = 2 ∨ T = 3 ∨ T = 4 by omega) with rfl | rfl | rfl | rfl
  · exact fin g hd (sameB_refl _ g) (fun i i0 i1 => by omega)
  · obtain ⟨a, a1, a2, a3, a4, a5⟩ := cmpx (k := 0) hd (by omega) (by omega) h4
    refine fin a a1 a2 (fun i i0 i1 => ?_)
    rw [show i = 0 by omega]; omega
  · obtain ⟨a, a1, a2, a3, a4, a5⟩ := cmpx (k := 0) hd (by omega) (by omega) h4
    obtain ⟨b, b1, b2, b3, b4, b5⟩ := cmpx (k := 1) a1 (by omega) (by omega) h4
    obtain ⟨c, c1, c2, c3, c4, c5⟩ := cmpx (k := 0) b1 (by omega) (by omega) h4
    refine fin c c1 (sameB_trans a2 (sameB_trans b2 c2)) (fun i i0 i1 => ?_)
    have b0 := b5 0 (by omega) (by omega)
    have c6 := c5 2 (by omega) (by omega)
    have a6 := a5 2 (by omega) (by omega)
    simp only [show (0 : Int) + 1 = 1 by rfl, show (1 : Int) + 1 = 2 by rfl] at *
    rcases (show i = 0 ∨ i = 1 by omega) with rfl | rfl <;> simp only [show (0 : Int) + 1 = 1 by rfl, show (1 : Int) + 1 = 2 by rfl] <;> omega
  · obtain ⟨a, a1, a2, a3, a4, a5⟩ := cmpx (k := 0) hd (by omega) (by omega) h4
    obtain ⟨b, b1, b2, b3, b4, b5⟩ := cmpx (k := 1) a1 (by omega) (by omega) h4
    obtain ⟨c, c1, c2, c3, c4, c5⟩ := cmpx (k := 2) b1 (by omega) (by omega) h4
    obtain ⟨d, d1, d2, d3, d4, d5⟩ := cmpx (k := 0) c1 (by omega) (by omega) h4
    obtain ⟨e, e1, e2, e3, e4, e5⟩ := cmpx (k := 1) d1 (by omega) (by omega) h4
    obtain ⟨f, f1, f2, f3, f4, f5⟩ := cmpx (k := 0) e1 (by omega) (by omega) h4
    refine fin f f1 (sameB_trans a2 (sameB_trans b2 (sameB_trans c2 (sameB_trans d2 (sameB_trans e2 f2))))) (fun i i0 i1 => ?_)
    have a6 := a5 2 (by omega) (by omega)
    have a7 := a5 3 (by omega) (by omega)
    have b6 := b5 0 (by omega) (by omega)
    have b7 := b5 3 (by omega) (by omega)
    have c6 := c5 0 (by omega) (by omega)
    have c7 := c5 1 (by omega) (by omega)
    have d6 := d5 2 (by omega) (by omega)
    have d7 := d5 3 (by omega) (by omega)
    have e6 := e5 0 (by omega) (by omega)
    have e7 := e5 3 (by omega) (by omega)
    have f6 := f5 2 (by omega) (by omega)
    have f7 := f5 3 (by omega) (by omega)
    simp only [show (0 : Int) + 1 = 1 by rfl, show (1 : Int) + 1 = 2 by rfl, show (2 : Int) + 1 = 3 by rfl] at *
    rcases (show i = 0 ∨ i = 1 ∨ i = 2 by omega) with rfl | rfl | rfl <;> simp only [show (0 : Int) + 1 = 1 by rfl, show (1 : Int) + 1 = 2 by rfl, show (2 : Int) + 1 = 3 by rfl] <;> omega
theorem cand_same {T n D : Int} {E : Int → Int → Int} {O g g' V : Int → Int} (h : cand T n E O g D V) (hs : sameB T g g') (hd : ¬ dB T E g' = 0) : cand T n E O g' D V := by
  refine ⟨fun i i0 i1 => ?_, hd, h.2.2.1, fun c c0 c1 q => ?_⟩
  · obtain ⟨j, a, b, e⟩ := hs.2 i i0 i1
    rw [← e]; exact h.1 j a b
  · obtain ⟨i, a, b, e⟩ := h.2.2.2 c c0 c1 q
    obtain ⟨j, a', b', e'⟩ := hs.1 i a b
    exact ⟨j, a', b', e'.trans e⟩
