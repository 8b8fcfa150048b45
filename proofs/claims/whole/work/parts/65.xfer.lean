/-- covers of the class and of the reference -/
def uOf (B : Int) (V : Int → Int) : Int → Int := fun c => if c < B then V c else 20 * V c
def vOf (B : Int) (u : Int → Int) : Int → Int := fun c => if c < B then 20 * u c else u c
def xEq (T n B : Int) (E E' : Int → Int → Int) (O O' P P' : Int → Int) : Prop := (∀ c d : Int, 0 ≤ c → c < n → 1 ≤ d → d ≤ T → E' c d = (if c < B then 20 else 1) * E c d) ∧ (∀ d : Int, 1 ≤ d → d ≤ T → O' d = 20 * O d) ∧ ∀ c : Int, 0 ≤ c → c < n → (c < B ∧ P' c = P c) ∨ (c = B ∧ P' c = 1 ∧ P c = 20) ∨ (B < c ∧ P' c = 0 ∧ P c = 0)
theorem onB_k {T n : Int} {g V V' : Int → Int} (h : onB T n g V) (hz : ∀ c : Int, 0 ≤ c → c < n → V c = 0 → V' c = 0) : onB T n g V' := fun c a b q => h c a b (fun w => q (hz c a b w))
theorem dB_ne {T : Int} {E E' : Int → Int → Int} {g g' l : Int → Int} (h : ∀ i r : Int, 0 ≤ i → i < T → 0 ≤ r → r < T → E' (g' i) (r + 1) = l i * E (g i) (r + 1)) (hl : ∀ i : Int, 0 ≤ i → i < T → ¬ l i = 0) : (¬ dB T E g = 0) ↔ ¬ dB T E' g' = 0 := by
  rw [dB_scale h]
  have p : ∀ i : Int, 0 ≤ i → ¬ (if i < T then l i else 1) = 0 := fun i i0 => by
    split
    · rename_i q; exact hl i i0 q
    · omega
  have q := mulne (mulne (mulne (p 0 (by omega)) (p 1 (by omega))) (p 2 (by omega))) (p 3 (by omega))
  refine ⟨fun a => mulne q a, fun a b => a ?_⟩
  rw [b, Int.mul_zero]
theorem cand_toM {T n B D : Int} {E E' : Int → Int → Int} {O O' P P' g V : Int → Int} (hx : xEq T n B E E' O O' P P') (h : cand T n E O g D V) : cand T n E' O' g D (uOf B V) := by
  refine ⟨h.1, ?_, ⟨h.2.2.1.1, fun c c0 c1 => ?_, fun r r0 r1 => ?_⟩, onB_k h.2.2.2 (fun c _ _ z => by unfold uOf; rw [z]; split <;> rfl)⟩
  · refine (dB_ne (l := fun i => if g i < B then 20 else 1) (fun i r i0 i1 r0 r1 => ?_) (fun i i0 i1 => by show ¬ (if g i < B then (20 : Int) else 1) = 0; split <;> omega)).mp h.2.1
    have := h.1 i i0 i1
    exact hx.1 (g i) (r + 1) this.1 this.2 (by omega) (by omega)
  · have := h.2.2.1.2.1 c c0 c1
    unfold uOf
    split <;> omega
  · rw [hx.2.1 r r0 r1, show D * (20 * O r) = D * O r * 20 by grind, ← h.2.2.1.2.2 r r0 r1, ← zsum_mulr]
    refine zsum_congr (fun c c0 c1 => ?_)
    show E' c r * uOf B V c = E c r * V c * 20
    rw [hx.1 c r c0 c1 r0 r1]
    unfold uOf
    split <;> grind
theorem cand_toC {T n B L : Int} {E E' : Int → Int → Int} {O O' P P' g u : Int → Int} (hx : xEq T n B E E' O O' P P') (h : cand T n E' O' g L u) : cand T n E O g (20 * L) (vOf B u) := by
  refine ⟨h.1, ?_, ⟨by have := h.2.2.1.1; omega, fun c c0 c1 => ?_, fun r r0 r1 => ?_⟩, onB_k h.2.2.2 (fun c _ _ z => by unfold vOf; rw [z]; split <;> rfl)⟩
  · refine (dB_ne (E' := E') (g' := g) (l := fun i => if g i < B then 20 else 1) (fun i r i0 i1 r0 r1 => ?_) (fun i i0 i1 => by show ¬ (if g i < B then (20 : Int) else 1) = 0; split <;> omega)).mpr h.2.1
    have := h.1 i i0 i1
    exact hx.1 (g i) (r + 1) this.1 this.2 (by omega) (by omega)
  · have := h.2.2.1.2.1 c c0 c1
    unfold vOf
    split <;> omega
  · have a := h.2.2.1.2.2 r r0 r1
    rw [hx.2.1 r r0 r1] at a
    rw [show 20 * L * O r = L * (20 * O r) by grind, ← a]
    refine zsum_congr (fun c c0 c1 => ?_)
    show E c r * vOf B u c = E' c r * u c
    rw [hx.1 c r c0 c1 r0 r1]
    unfold vOf
    split <;> grind
theorem price_toM {T n B : Int} {E E' : Int → Int → Int} {O O' P P' : Int → Int} (hx : xEq T n B E E' O O' P P') (V : Int → Int) : zsum (fun c => P' c * uOf B V c) n = zsum (fun c => P c * V c) n := by
  refine zsum_congr (fun c c0 c1 => ?_)
  show P' c * uOf B V c = P c * V c
  unfold uOf
  rcases hx.2.2 c c0 c1 with ⟨a, b⟩ | ⟨a, b, d⟩ | ⟨a, b, d⟩
  · rw [if_pos a, b]
  · rw [if_neg (by omega), b, d]; omega
  · rw [if_neg (by omega), b, d]; omega
theorem price_toC {T n B : Int} {E E' : Int → Int → Int} {O O' P P' : Int → Int} (hx : xEq T n B E E' O O' P P') (u : Int → Int) : zsum (fun c => P c * vOf B u c) n = 20 * zsum (fun c => P' c * u c) n := by
  rw [← zsum_mull]
  refine zsum_congr (fun c c0 c1 => ?_)
  show P c * vOf B u c = 20 * (P' c * u c)
  unfold vOf
  rcases hx.2.2 c c0 c1 with ⟨a, b⟩ | ⟨a, b, d⟩ | ⟨a, b, d⟩
  · rw [if_pos a, b]; grind
  · rw [if_neg (by omega), b, d]; omega
  · rw [if_neg (by omega), b, d]; omega
theorem cov_eq {T n B D p L q : Int} {E E' : Int → Int → Int} {O O' P P' V u : Int → Int} (hx : xEq T n B E E' O O' P P') (h : covBest T n B E O P D p V) (h' : mBest T n B E' O' P' (-1) L q u) : ∀ i : Int, 0 ≤ i → i < B + 1 → cKey n P V i * L = cKey n P' u i * D := by
  have hD := h.2.1
  have hL := h'.2.1
  rcases h.1 with ⟨a, -⟩ | ⟨-, ⟨g, c⟩, k⟩
  · omega
  rcases h'.1 with ⟨a, -⟩ | ⟨-, ⟨g', c'⟩, k'⟩
  · omega
  have e1 : ∀ i : Int, 0 ≤ i → i < B + 1 → cKey n P' (uOf B V) i = cKey n P V i := fun i i0 i1 => by
    unfold cKey
    split
    · exact price_toM hx V
    · unfold uOf; rw [if_pos (by omega)]
  have e2 : ∀ i : Int, 0 ≤ i → i < B + 1 → cKey n P (vOf B u) i = 20 * cKey n P' u i := fun i i0 i1 => by
    unfold cKey
    split
    · exact price_toC hx u
    · unfold vOf; rw [if_pos (by omega)]
  have n1 := k' g D (uOf B V) trivial ⟨cand_toM hx c, fun i i0 i1 e => by have := c.1 i i0 i1; omega⟩
  have n2 := k g' (20 * L) (vOf B u) trivial (cand_toC hx c'.1)
  rcases lex_tri (B + 1) D L (cKey n P' (uOf B V)) (cKey n P' u) with w | w | w
  · exact absurd w n1
  · intro i i0 i1
    have := w i i0 i1
    rw [e1 i i0 i1] at this
    exact this
  · refine absurd ?_ n2
    obtain ⟨j, j0, j1, j2, j3⟩ := w
    refine ⟨j, j0, j1, fun i i0 i1 => ?_, ?_⟩
    · have := j2 i i0 i1
      rw [e1 i i0 (by omega)] at this
      rw [e2 i i0 (by omega), Int.mul_assoc, this]
      grind
    · rw [e1 j j0 j1] at j3
      rw [e2 j j0 j1, Int.mul_assoc, show cKey n P V j * (20 * L) = 20 * (cKey n P V j * L) by grind]
      omega
theorem cost_x {T n B D p L q : Int} {E E' : Int → Int → Int} {O O' P P' V u : Int → Int} (hB : 0 ≤ B) (hx : xEq T n B E E' O O' P P') (h : covBest T n B E O P D p V) (h' : mBest T n B E' O' P' (-1) L q u) : p * L = q * D := by
  have := cov_eq hx h h' 0 (by omega) (by omega)
  unfold cKey at this
  rw [if_pos rfl, if_pos rfl, ← h.2.2.1, ← h'.2.2.1] at this
  exact this
theorem part_x {T n B D p L q b : Int} {E E' : Int → Int → Int} {O O' P P' V u : Int → Int} (hb : 0 ≤ b ∧ b < B) (hx : xEq T n B E E' O O' P P') (h : covBest T n B E O P D p V) (h' : mBest T n B E' O' P' (-1) L q u) : V b * L = u b * D := by
  have := cov_eq hx h h' (b + 1) (by omega) (by omega)
  unfold cKey at this
  rw [if_neg (by omega), if_neg (by omega), show b + 1 - 1 = b by omega] at this
  exact this
theorem cov_eqs {T n B : Int} {E : Int → Int → Int} {O P : Int → Int} {m D : Int} {key : (Int → Int) → Int → Int} {V : Int → Int} {C : (Int → Int) → Int → (Int → Int) → Prop} (hC : ∀ g D V, C g D V → cand T n E O g D V) (h : opt (fun _ => True) C m key D V) (hD : 0 < D) (_ : B = B ∧ P = P) : ∀ r : Int, 1 ≤ r → r ≤ T → zsum (fun c => E c r * V c) n = D * O r := by
  rcases h with ⟨a, -⟩ | ⟨-, ⟨g, c⟩, -⟩
  · omega
  · exact (hC g D V c).2.2.1.2.2
theorem surplus_x {T n B D p L q : Int} {E E' : Int → Int → Int} {O O' P P' V u G : Int → Int} (hT : 1 ≤ T) (hB : 0 ≤ B) (hn : n = B + T + 1) (hE : stdE T B E G) (hx : xEq T n B E E' O O' P P') (h : covBest T n B E O P D p V) (h' : mBest T n B E' O' P' (-1) L q u) {t : Int} (t0 : 0 ≤ t) (t1 : t ≤ T) : 20 * V (B + t) * L = u (B + t) * D := by
  have hD := h.2.1
  have hL := h'.2.1
  have hb := fun b b0 b1 => part_x (b := b) ⟨b0, b1⟩ hx h h'
  have hp := cost_x hB hx h h'
  have q1 := cov_eqs (B := B) (P := P) (fun g D V c => c) h.1 (by omega) ⟨rfl, rfl⟩
  have q2 := cov_eqs (B := B) (P := P) (fun g D V (c : candW T n E' O' (-1) g D V) => c.1) h'.1 (by omega) ⟨rfl, rfl⟩
  have hE' : stdE T B E' G := fun s r s0 s1 r0 r1 => by
    rw [hx.1 (B + s) r (by omega) (by omega) r0 r1, if_neg (by omega), Int.one_mul]
    exact hE s r s0 s1 r0 r1
  have bs : ∀ r : Int, 1 ≤ r → r ≤ T → zsum (fun b => E' b r * u b) B * D = 20 * (zsum (fun b => E b r * V b) B * L) := fun r r0 r1 => by
    rw [← zsum_mulr, ← zsum_mulr, ← zsum_mull]
    refine zsum_congr (fun b b0 b1 => ?_)
    show E' b r * u b * D = 20 * (E b r * V b * L)
    rw [hx.1 b r b0 (by omega) r0 r1, if_pos b1, Int.mul_assoc _ (u b) D, ← hb b b0 b1]
    grind
  subst hn
  have key : ∀ m : Nat, (m : Int) ≤ T → 20 * V (B + m) * L = u (B + m) * D := by
    intro m
    induction m with
    | zero =>
      intro _
      have p1 := h.2.2.1
      have p2 := h'.2.2.1
      have s1 : ∀ (P V : Int → Int), (∀ c : Int, B < c → c < B + T + 1 → P c = 0) → zsum (fun c => P c * V c) (B + T + 1) = zsum (fun c => P c * V c) B + P B * V B := fun P V hz => by
        rw [show B + T + 1 = B + (T + 1) by omega, zsum_app _ hB (by omega)]
        congr 1
        rw [zsum_congr (g := fun i => if 0 = i then (fun i => P (B + i) * V (B + i)) i else 0) (fun i i0 i1 => ?_), zsum_ind (fun i => P (B + i) * V (B + i)) 0 (by omega) (by omega)]
        · show P (B + 0) * V (B + 0) = _; rw [Int.add_zero]
        · show P (B + i) * V (B + i) = _
          by_cases e : 0 = i
          · rw [if_pos e]
          · rw [if_neg e, hz (B + i) (by omega) (by omega), Int.zero_mul]
      have z : ∀ c : Int, B < c → c < B + T + 1 → P c = 0 ∧ P' c = 0 := fun c a b => by
        rcases hx.2.2 c (by omega) b with ⟨x, -⟩ | ⟨x, -⟩ | ⟨-, x, y⟩
        · omega
        · omega
        · exact ⟨y, x⟩
      rw [s1 P V (fun c a b => (z c a b).1)] at p1
      rw [s1 P' u (fun c a b => (z c a b).2)] at p2
      have pB : P' B = 1 ∧ P B = 20 := by
        rcases hx.2.2 B hB (by omega) with ⟨x, -⟩ | ⟨-, x⟩ | ⟨x, -⟩
        · omega
        · exact x
        · omega
      have bp : zsum (fun c => P c * V c) B * L = zsum (fun c => P' c * u c) B * D := by
        rw [← zsum_mulr, ← zsum_mulr]
        refine zsum_congr (fun b b0 b1 => ?_)
        show P b * V b * L = P' b * u b * D
        have e : P' b = P b := by
          rcases hx.2.2 b b0 (by omega) with ⟨-, x⟩ | ⟨x, -⟩ | ⟨x, -⟩
          · exact x
          · omega
          · omega
        rw [e, Int.mul_assoc, hb b b0 b1, Int.mul_assoc]
      rw [pB.2] at p1
      rw [pB.1, Int.one_mul] at p2
      rw [show B + ((0 : Nat) : Int) = B by omega]
      rw [p1, p2, Int.add_mul, Int.add_mul] at hp
      omega
    | succ m ih =>
      intro hm
      have a := ih (by omega)
      have r0 : 1 ≤ (m : Int) + 1 := by omega
      have e1 := q1 ((m : Int) + 1) r0 (by omega)
      have e2 := q2 ((m : Int) + 1) r0 (by omega)
      rw [eq_std hB hT hE r0 (by omega)] at e1
      rw [eq_std hB hT hE' r0 (by omega), hx.2.1 _ r0 (by omega)] at e2
      have e3 := bs ((m : Int) + 1) r0 (by omega)
      rw [show B + ((m : Int) + 1) - 1 = B + m by omega] at e1 e2
      rw [show B + ((m + 1 : Nat) : Int) = B + ((m : Int) + 1) by omega]
      generalize zsum (fun b => E b ((m : Int) + 1) * V b) B = x1 at *
      generalize zsum (fun b => E' b ((m : Int) + 1) * u b) B = x2 at *
      generalize V (B + (m : Int)) = v0 at *
      generalize u (B + (m : Int)) = u0 at *
      generalize V (B + ((m : Int) + 1)) = v1 at *
      generalize u (B + ((m : Int) + 1)) = u1 at *
      generalize G ((m : Int) + 1) = gg at *
      generalize O ((m : Int) + 1) = oo at *
      have f1 : (x1 + (gg * v0 - 20 * v1)) * (20 * L) = D * oo * (20 * L) := by rw [e1]
      have f2 : (x2 + (gg * u0 - 20 * u1)) * D = L * (20 * oo) * D := by rw [e2]
      have f3 : x1 * (20 * L) + gg * (20 * v0 * L) - 20 * (20 * v1 * L) = x2 * D + gg * (u0 * D) - 20 * (u1 * D) := by
        have : (x1 + (gg * v0 - 20 * v1)) * (20 * L) = (x2 + (gg * u0 - 20 * u1)) * D := by rw [f1, f2]; grind
        grind
      rw [a] at f3
      have f4 : x1 * (20 * L) = x2 * D := by rw [e3]; grind
      omega
  have := key t.toNat (by omega)
  rwa [Int.toNat_of_nonneg t0] at this
theorem without_x {T n B L q b : Int} {E E' : Int → Int → Int} {O O' P P' PW BW u G : Int → Int} (h1 : 1 ≤ T) (h4 : T ≤ 4) (hn : n = B + T + 1) (hb : 0 ≤ b ∧ b < B) (hE : stdE T B E G) (hx : xEq T n B E E' O O' P P') (h : outBest T n B E O P PW BW) (h' : mBest T n B E' O' P' b L q u) : PW b * L = q * BW b := by
  obtain ⟨k1, k2, ⟨g, V, k3, k4, k5⟩, k6⟩ := h b hb.1 hb.2
  have hL := h'.2.1
  rcases h'.1 with ⟨a, -⟩ | ⟨-, ⟨g', c'⟩, k'⟩
  · omega
  have z : u b = 0 := Classical.byContradiction fun w => by
    obtain ⟨i, i0, i1, e⟩ := c'.1.2.2.2 b hb.1 (by omega) w
    exact c'.2 i i0 i1 e
  have m1 := k6 g' (20 * L) (vOf B u) (cand_toC hx c'.1) (by unfold vOf; rw [if_pos hb.2, z]; rfl)
  rw [price_toC hx u, ← h'.2.2.1] at m1
  obtain ⟨g2, c2, c3⟩ := cand_out h1 h4 hn hb hE k3 k4
  have m2 := k' g2 (BW b) (uOf B V) trivial ⟨cand_toM hx c2, c3⟩
  have m3 : ¬ PW b * L < q * BW b := fun w => m2 ⟨0, by omega, by omega, fun i a b => by omega, by
    unfold cKey
    rw [if_pos rfl, if_pos rfl, price_toM hx V, ← k5, ← h'.2.2.1]
    exact w⟩
  have e1 : PW b * (20 * L) = 20 * (PW b * L) := by grind
  have e2 : 20 * q * BW b = 20 * (q * BW b) := by grind
  omega
/-- multipliers of the class and of the reference -/
def tau (T B c : Int) : Int := if c < B then c else if c = B then B + T else c - 1
theorem sgm_tau {T B c : Int} (hT : 1 ≤ T) (hB : 0 ≤ B) (hc : 0 ≤ c ∧ c < B + T + 1) : sgm T B (tau T B c) = c ∧ 0 ≤ tau T B c ∧ tau T B c < B + T + 1 := by
  unfold sgm tau
  (repeat' split) <;> omega
theorem sgm_rng {T B c : Int} (hT : 1 ≤ T) (hB : 0 ≤ B) (hc : 0 ≤ c ∧ c < B + T + 1) : 0 ≤ sgm T B c ∧ sgm T B c < B + T + 1 := by
  unfold sgm
  (repeat' split) <;> omega
def yEq (T n B : Int) (E F : Int → Int → Int) (P Gm : Int → Int) : Prop := ∀ c : Int, 0 ≤ c → c < n → (∀ d : Int, 1 ≤ d → d ≤ T → lmb T B c * F c d = E (sgm T B c) d) ∧ lmb T B c * Gm c = P (sgm T B c)
theorem lmb_pos (T B c : Int) : 0 < lmb T B c := by unfold lmb; split <;> omega
theorem dsum_l {T n B c : Int} {E F : Int → Int → Int} {P Gm Y : Int → Int} (hx : yEq T n B E F P Gm) (c0 : 0 ≤ c) (c1 : c < n) : lmb T B c * dsum T F Y c = dsum T E Y (sgm T B c) := by
  unfold dsum
  rw [← zsum_mull]
  refine zsum_congr (fun j j0 j1 => ?_)
  show lmb T B c * (Y (j + 1) * F c (j + 1)) = Y (j + 1) * E (sgm T B c) (j + 1)
  rw [← (hx c c0 c1).1 (j + 1) (by omega) (by omega)]
  grind
theorem dcand_toC {T n B D : Int} {E F : Int → Int → Int} {P Gm h Y : Int → Int} (hT : 1 ≤ T) (hB : 0 ≤ B) (hn : n = B + T + 1) (hx : yEq T n B E F P Gm) (hc : dcand T n F Gm h D Y) : dcand T n E P (fun i => sgm T B (h i)) D Y := by
  refine ⟨fun i i0 i1 => ?_, ?_, hc.2.2.1, fun i i0 i1 => ?_, fun c c0 c1 => ?_⟩
  · have := sgm_rng hT hB (c := h i) (by have := hc.1 i i0 i1; omega)
    show 0 ≤ sgm T B (h i) ∧ sgm T B (h i) < n
    omega
  · refine (dB_ne (l := fun i => lmb T B (h i)) (fun i r i0 i1 r0 r1 => ?_) (fun i _ _ => by have := lmb_pos T B (h i); show ¬ lmb T B (h i) = 0; omega)).mp hc.2.1
    have := hc.1 i i0 i1
    exact ((hx (h i) this.1 this.2).1 (r + 1) (by omega) (by omega)).symm
  · have a := hc.1 i i0 i1
    show dsum T E Y (sgm T B (h i)) = D * P (sgm T B (h i))
    rw [← dsum_l hx a.1 a.2, hc.2.2.2.1 i i0 i1, ← (hx (h i) a.1 a.2).2]
    grind
  · have s := sgm_tau (T := T) (B := B) (c := c) hT hB (by omega)
    have a := hc.2.2.2.2 (tau T B c) s.2.1 (by omega)
    have b := dsum_l (Y := Y) hx (c := tau T B c) s.2.1 (by omega)
    have d := (hx (tau T B c) s.2.1 (by omega)).2
    rw [s.1] at b d
    rw [← b, ← d]
    have := Int.mul_le_mul_of_nonneg_left a (Int.le_of_lt (lmb_pos T B (tau T B c)))
    rw [show D * (lmb T B (tau T B c) * Gm (tau T B c)) = lmb T B (tau T B c) * (D * Gm (tau T B c)) by grind]
    exact this
theorem dcand_toM {T n B D : Int} {E F : Int → Int → Int} {P Gm g Y : Int → Int} (hT : 1 ≤ T) (hB : 0 ≤ B) (hn : n = B + T + 1) (hx : yEq T n B E F P Gm) (hc : dcand T n E P g D Y) : dcand T n F Gm (fun i => tau T B (g i)) D Y := by
  have st := fun i i0 i1 => sgm_tau (T := T) (B := B) (c := g i) hT hB (by have := hc.1 i i0 i1; omega)
  refine ⟨fun i i0 i1 => ?_, ?_, hc.2.2.1, fun i i0 i1 => ?_, fun c c0 c1 => ?_⟩
  · have := st i i0 i1
    show 0 ≤ tau T B (g i) ∧ tau T B (g i) < n
    omega
  · refine (dB_ne (E' := E) (g' := g) (l := fun i => lmb T B (tau T B (g i))) (fun i r i0 i1 r0 r1 => ?_) (fun i _ _ => by have := lmb_pos T B (tau T B (g i)); show ¬ lmb T B (tau T B (g i)) = 0; omega)).mpr hc.2.1
    have s := st i i0 i1
    have := (hx (tau T B (g i)) s.2.1 (by omega)).1 (r + 1) (by omega) (by omega)
    rw [s.1] at this
    exact this.symm
  · have s := st i i0 i1
    have b := dsum_l (Y := Y) hx (c := tau T B (g i)) s.2.1 (by omega)
    have d := (hx (tau T B (g i)) s.2.1 (by omega)).2
    rw [s.1] at b d
    have e := hc.2.2.2.1 i i0 i1
    rw [← b, ← d] at e
    show dsum T F Y (tau T B (g i)) = D * Gm (tau T B (g i))
    have l := lmb_pos T B (tau T B (g i))
    rw [show D * (lmb T B (tau T B (g i)) * Gm (tau T B (g i))) = lmb T B (tau T B (g i)) * (D * Gm (tau T B (g i))) by grind] at e
    exact Int.eq_of_mul_eq_mul_left (by omega) e
  · have s := sgm_rng (T := T) (B := B) (c := c) hT hB (by omega)
    have a := hc.2.2.2.2 (sgm T B c) s.1 (by omega)
    rw [← dsum_l hx c0 c1, ← (hx c c0 c1).2] at a
    rw [show D * (lmb T B c * Gm c) = lmb T B c * (D * Gm c) by grind] at a
    exact Int.le_of_mul_le_mul_left a (lmb_pos T B c)
theorem mult_eq {T n B D w L q : Int} {E F : Int → Int → Int} {O O' P Gm Y Z : Int → Int} (hT : 1 ≤ T) (hB : 0 ≤ B) (hn : n = B + T + 1) (hx : yEq T n B E F P Gm) (hO : ∀ d : Int, 1 ≤ d → d ≤ T → O d = O' d) (h : prfBest T n E O P D w Y) (h' : nBest T n F O' Gm L q Z) : ∀ d : Int, 1 ≤ d → d ≤ T → Y d * L = Z d * D := by
  have hD := h.2.1
  have hL := h'.2.1
  have ko : ∀ Y, dKey T O Y = dKey T O' Y := fun Y => by unfold dKey; rw [worth_E hO Y]
  rcases h.1 with ⟨a, -⟩ | ⟨-, ⟨g, c⟩, k⟩
  · omega
  rcases h'.1 with ⟨a, -⟩ | ⟨-, ⟨g', c'⟩, k'⟩
  · omega
  have n1 := k' _ D Y trivial (dcand_toM hT hB hn hx c)
  have n2 := k _ L Z trivial (dcand_toC hT hB hn hx c')
  rw [ko Y, ko Z] at n2
  intro d d0 d1
  rcases lex_tri (T + 1) D L (dKey T O' Y) (dKey T O' Z) with x | x | x
  · exact absurd x n1
  · have := x d (by omega) (by omega)
    unfold dKey at this
    rw [if_neg (by omega), if_neg (by omega)] at this
    exact this
  · exact absurd x n2
theorem dear_x {T D L b P : Int} {E : Int → Int → Int} {Y Z f : Int → Int} (h : ∀ d : Int, 1 ≤ d → d ≤ T → Y d * L = Z d * D) (hE : ∀ d : Int, 1 ≤ d → d ≤ T → E b d = f d) : (P * D - dsum T E Y b) * L = (P * L - zsum (fun j => Z (j + 1) * f (j + 1)) T) * D := by
  have e : dsum T E Y b * L = zsum (fun j => Z (j + 1) * f (j + 1)) T * D := by
    unfold dsum
    rw [← zsum_mulr, ← zsum_mulr]
    refine zsum_congr (fun j j0 j1 => ?_)
    show Y (j + 1) * E b (j + 1) * L = Z (j + 1) * f (j + 1) * D
    rw [hE (j + 1) (by omega) (by omega), Int.mul_right_comm, h (j + 1) (by omega) (by omega), Int.mul_right_comm]
  rw [Int.sub_mul, Int.sub_mul, e]
  grind
