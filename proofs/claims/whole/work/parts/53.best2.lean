/-- the prices without a bond, once a cover was seen -/
def wCnd (V : Int → Int) (p D : Int) (PW BW : Int → Int) (b : Int) : Prop := V b = 0 ∧ (BW b = 0 ∨ p * BW b < PW b * D)
def wUpd (nb : Int) (V : Int → Int) (p D : Int) (PW BW PW' BW' : Int → Int) : Prop := ∀ b : Int, 0 ≤ b → b < nb → (wCnd V p D PW BW b ∧ PW' b = p ∧ BW' b = D) ∨ (¬ wCnd V p D PW BW b ∧ PW' b = PW b ∧ BW' b = BW b)
def wUs (V : Int → Int) (p D : Int) (PW BW : Int → Int) (k : Int) (gP gB : Int → Int) : Prop := wUpd k V p D PW BW gP gB ∧ ∀ b : Int, k ≤ b → gP b = PW b ∧ gB b = BW b
theorem wUs_0 (V : Int → Int) (p D : Int) (PW BW : Int → Int) : wUs V p D PW BW 0 PW BW := ⟨fun b a c => by omega, fun _ _ => ⟨rfl, rfl⟩⟩
theorem wUs_keep {V PW BW gP gB : Int → Int} {p D k : Int} (h : wUs V p D PW BW k gP gB) (hc : ¬ wCnd V p D PW BW k) : wUs V p D PW BW (k + 1) gP gB := by
  refine ⟨fun b a c => ?_, fun b a => h.2 b (by omega)⟩
  by_cases e : b = k
  · subst e; exact Or.inr ⟨hc, h.2 b (by omega)⟩
  · exact h.1 b a (by omega)
theorem wUs_set {V PW BW gP gB : Int → Int} {p D k : Int} (h : wUs V p D PW BW k gP gB) (hc : wCnd V p D PW BW k) : wUs V p D PW BW (k + 1) (zup gP k p) (zup gB k D) := by
  refine ⟨fun b a c => ?_, fun b a => by rw [zup_ne (by omega), zup_ne (by omega)]; exact h.2 b (by omega)⟩
  by_cases e : b = k
  · subst e; exact Or.inl ⟨hc, zup_eq _ _ _, zup_eq _ _ _⟩
  · rw [zup_ne e, zup_ne e]; exact h.1 b a (by omega)
def wBnd (nb : Int) (PW BW : Int → Int) : Prop := ∀ b : Int, 0 ≤ b → b < nb → (0 ≤ BW b ∧ BW b ≤ 23040000) ∧ (¬ BW b = 0 → 0 ≤ PW b ∧ PW b ≤ 212834560000)
/-- what a try makes of the best cover, of the best multipliers -/
def tcP (T n nb : Int) (E : Int → Int → Int) (O P g : Int → Int) (D cb cp : Int) (fV : Int → Int) (kb kp : Int) (kV PW BW hP hB : Int → Int) : Prop := ((∀ D' V', ¬ cand T n E O g D' V') ∧ kb = cb ∧ kp = cp ∧ kV = fV ∧ hP = PW ∧ hB = BW) ∨ ∃ p0 V0, cand T n E O g D V0 ∧ cBd n P p0 V0 ∧ wUpd nb V0 p0 D PW BW hP hB ∧ (((cb = 0 ∨ lexLt (nb + 1) D (kk p0 V0) cb (kk cp fV)) ∧ kb = D ∧ kp = p0 ∧ kV = V0) ∨ ((¬ cb = 0 ∧ ¬ lexLt (nb + 1) D (kk p0 V0) cb (kk cp fV)) ∧ kb = cb ∧ kp = cp ∧ kV = fV))
def tpP (T n : Int) (E : Int → Int → Int) (O P g : Int → Int) (D cb cp : Int) (fV : Int → Int) (kb kp : Int) (kV : Int → Int) : Prop := ((∀ D' V', ¬ dcand T n E P g D' V') ∧ kb = cb ∧ kp = cp ∧ kV = fV) ∨ ∃ p0 V0, dcand T n E P g D V0 ∧ dBd T O p0 V0 ∧ (((cb = 0 ∨ lexLt (T + 1) D (kd p0 V0) cb (kd cp fV)) ∧ kb = D ∧ kp = p0 ∧ kV = V0) ∨ ((¬ cb = 0 ∧ ¬ lexLt (T + 1) D (kd p0 V0) cb (kd cp fV)) ∧ kb = cb ∧ kp = cp ∧ kV = fV))
def covSt (T n nb : Int) (E : Int → Int → Int) (O P : Int → Int) (M D p : Int) (V : Int → Int) : Prop := opt (qMsk T n M) (cand T n E O) (nb + 1) (cKey n P) D V ∧ (0 ≤ D ∧ D ≤ 23040000) ∧ (¬ D = 0 → cBd n P p V)
def prfSt (T n : Int) (E : Int → Int → Int) (O P : Int → Int) (M D w : Int) (Y : Int → Int) : Prop := opt (qMsk T n M) (dcand T n E P) (T + 1) (dKey T O) D Y ∧ (0 ≤ D ∧ D ≤ 23040000) ∧ (¬ D = 0 → dBd T O w Y)
def outSt (T n nb : Int) (E : Int → Int → Int) (O P : Int → Int) (M : Int) (PW BW : Int → Int) : Prop := ∀ b : Int, 0 ≤ b → b < nb → (0 ≤ BW b ∧ BW b ≤ 23040000) ∧ ((BW b = 0 ∧ ∀ g D V, qMsk T n M g → cand T n E O g D V → ¬ V b = 0) ∨ (0 < BW b ∧ (0 ≤ PW b ∧ PW b ≤ 212834560000) ∧ (∃ g V, cand T n E O g (BW b) V ∧ V b = 0 ∧ PW b = zsum (fun c => P c * V c) n) ∧ ∀ g D V, qMsk T n M g → cand T n E O g D V → V b = 0 → PW b * D ≤ zsum (fun c => P c * V c) n * BW b))
theorem covSt_0 (T n nb : Int) (E : Int → Int → Int) (O P : Int → Int) (p : Int) (V : Int → Int) : covSt T n nb E O P 0 0 p V := ⟨Or.inl ⟨rfl, fun g _ _ h => absurd h (qMsk_0 T n g)⟩, by omega, fun h => absurd rfl h⟩
theorem prfSt_0 (T n : Int) (E : Int → Int → Int) (O P : Int → Int) (p : Int) (V : Int → Int) : prfSt T n E O P 0 0 p V := ⟨Or.inl ⟨rfl, fun g _ _ h => absurd h (qMsk_0 T n g)⟩, by omega, fun h => absurd rfl h⟩
theorem outSt_0 {T n nb : Int} {E : Int → Int → Int} {O P : Int → Int} {PW BW : Int → Int} (h : ∀ b : Int, 0 ≤ b → b < nb → BW b = 0) : outSt T n nb E O P 0 PW BW := fun b a c => by
  rw [h b a c]
  exact ⟨by omega, Or.inl ⟨rfl, fun g _ _ q => absurd q (qMsk_0 T n g)⟩⟩
theorem covSt_skip {T n nb M D p : Int} {E : Int → Int → Int} {O P V : Int → Int} (h : covSt T n nb E O P M D p V) (hq : ∀ g D' V', qMsk T n (M + 1) g → cand T n E O g D' V' → qMsk T n M g) : covSt T n nb E O P (M + 1) D p V := ⟨opt_skip h.1 hq, h.2⟩
theorem prfSt_skip {T n M D p : Int} {E : Int → Int → Int} {O P V : Int → Int} (h : prfSt T n E O P M D p V) (hq : ∀ g D' V', qMsk T n (M + 1) g → dcand T n E P g D' V' → qMsk T n M g) : prfSt T n E O P (M + 1) D p V := ⟨opt_skip h.1 hq, h.2⟩
theorem outSt_skip {T n nb M : Int} {E : Int → Int → Int} {O P PW BW : Int → Int} (h : outSt T n nb E O P M PW BW) (hq : ∀ g D' V', qMsk T n (M + 1) g → cand T n E O g D' V' → qMsk T n M g) : outSt T n nb E O P (M + 1) PW BW := fun b a c => by
  obtain ⟨h1, h2⟩ := h b a c
  refine ⟨h1, ?_⟩
  rcases h2 with ⟨x, y⟩ | ⟨x, y, w, k⟩
  · exact Or.inl ⟨x, fun g D V q r => y g D V (hq g D V q r) r⟩
  · exact Or.inr ⟨x, y, w, fun g D V q r => k g D V (hq g D V q r) r⟩
theorem gC_hq {T n M : Int} {gC : Int → Int} (hC : ∀ c9 : Int, 0 ≤ c9 → c9 < n → bitZ M c9 = 1 → gC (cntB M c9) = c9) {C : (Int → Int) → Int → (Int → Int) → Prop} (hcg : ∀ g D V, (∀ i : Int, 0 ≤ i → i < T → g i = gC i) → C g D V → C gC D V) (hno : ∀ D V, ¬ C gC D V) : ∀ g D V, qMsk T n (M + 1) g → C g D V → qMsk T n M g := fun g D V q c => by
  rcases qMsk_step q hC with w | w
  · exact w
  · exact absurd (hcg g D V w c) (hno D V)
theorem no_sing {T n : Int} {E : Int → Int → Int} {O gC : Int → Int} (h1 : 1 ≤ T) (h4 : T ≤ 4) (hz : mK T (orig T E gC) = 0) : ∀ D V, ¬ cand T n E O gC D V := fun D V c => c.2.1 (by rw [dB_mK h1 h4]; exact hz)
theorem no_singD {T n : Int} {E : Int → Int → Int} {P gC : Int → Int} (h1 : 1 ≤ T) (h4 : T ≤ 4) (hz : mK T (orig T E gC) = 0) : ∀ D V, ¬ dcand T n E P gC D V := fun D V c => c.2.1 (by rw [dB_mK h1 h4]; exact hz)
theorem covSt_try {T n nb M D cb cp kb kp : Int} {E : Int → Int → Int} {O P gC fV kV PW BW hP hB : Int → Int} (h1 : 1 ≤ T) (h4 : T ≤ 4) (hnb : nb ≤ n) (h : covSt T n nb E O P M cb cp fV) (hD : 1 ≤ D ∧ D ≤ 23040000) (hC : ∀ c9 : Int, 0 ≤ c9 → c9 < n → bitZ M c9 = 1 → gC (cntB M c9) = c9) (ht : tcP T n nb E O P gC D cb cp fV kb kp kV PW BW hP hB) : covSt T n nb E O P (M + 1) kb kp kV := by
  rcases ht with ⟨a, rfl, rfl, rfl, -, -⟩ | ⟨p0, V0, a, b, -, c⟩
  · exact covSt_skip h (gC_hq hC (fun g D V e q => cand_congr e q) a)
  · have hq : ∀ g D' V', qMsk T n (M + 1) g → cand T n E O g D' V' → qMsk T n M g ∨ ∀ i : Int, 0 ≤ i → i < nb + 1 → cKey n P V' i * D = cKey n P V0 i * D' := fun g D' V' q r => by
      rcases qMsk_step q hC with w | w
      · exact Or.inl w
      · exact Or.inr (cKey_x h1 h4 a (cand_congr w r) (by omega))
    rcases c with ⟨c, rfl, rfl, rfl⟩ | ⟨⟨c, d⟩, rfl, rfl, rfl⟩
    · refine ⟨opt_new (fun g D' V' q => q.2.2.1.1) h.1 a ?_ hq, by omega, fun _ => b⟩
      rcases c with e | e
      · exact Or.inl e
      · by_cases z : cb = 0
        · exact Or.inl z
        · rw [cKey_kk b.1, cKey_kk (h.2.2 z).1]; exact Or.inr e
    · refine ⟨opt_keep (fun g D' V' q => q.2.2.1.1) h.1 c (by omega) ?_ hq, h.2⟩
      rw [cKey_kk b.1, cKey_kk (h.2.2 c).1]; exact d
theorem prfSt_try {T n M D cb cp kb kp : Int} {E : Int → Int → Int} {O P gC fV kV : Int → Int} (h1 : 1 ≤ T) (h4 : T ≤ 4) (h : prfSt T n E O P M cb cp fV) (hD : 1 ≤ D ∧ D ≤ 23040000) (hC : ∀ c9 : Int, 0 ≤ c9 → c9 < n → bitZ M c9 = 1 → gC (cntB M c9) = c9) (ht : tpP T n E O P gC D cb cp fV kb kp kV) : prfSt T n E O P (M + 1) kb kp kV := by
  rcases ht with ⟨a, rfl, rfl, rfl⟩ | ⟨p0, V0, a, b, c⟩
  · exact prfSt_skip h (gC_hq hC (fun g D V e q => dcand_congr e q) a)
  · have hq : ∀ g D' V', qMsk T n (M + 1) g → dcand T n E P g D' V' → qMsk T n M g ∨ ∀ i : Int, 0 ≤ i → i < T + 1 → dKey T O V' i * D = dKey T O V0 i * D' := fun g D' V' q r => by
      rcases qMsk_step q hC with w | w
      · exact Or.inl w
      · exact Or.inr (dKey_x h1 h4 a (dcand_congr w r))
    rcases c with ⟨c, rfl, rfl, rfl⟩ | ⟨⟨c, d⟩, rfl, rfl, rfl⟩
    · refine ⟨opt_new (fun g D' V' q => q.2.2.1) h.1 a ?_ hq, by omega, fun _ => b⟩
      rcases c with e | e
      · exact Or.inl e
      · by_cases z : cb = 0
        · exact Or.inl z
        · rw [dKey_kd b.1, dKey_kd (h.2.2 z).1]; exact Or.inr e
    · refine ⟨opt_keep (fun g D' V' q => q.2.2.1) h.1 c (by omega) ?_ hq, h.2⟩
      rw [dKey_kd b.1, dKey_kd (h.2.2 c).1]; exact d
theorem price_x {T n D D' : Int} {E : Int → Int → Int} {O P g V V' : Int → Int} (h1 : 1 ≤ T) (h4 : T ≤ 4) (h : cand T n E O g D V) (h' : cand T n E O g D' V') : zsum (fun c => P c * V' c) n * D = zsum (fun c => P c * V c) n * D' := by
  have := cKey_x (P := P) (m := 1) h1 h4 h h' (by by_cases q : 0 ≤ n; omega; have := (h.1 0 (by omega) (by omega)); omega) 0 (by omega) (by omega)
  unfold cKey at this
  rw [if_pos rfl, if_pos rfl] at this
  exact this
theorem outSt_try {T n nb M D cb cp kb kp : Int} {E : Int → Int → Int} {O P gC fV kV PW BW hP hB : Int → Int} (h1 : 1 ≤ T) (h4 : T ≤ 4) (hnb : nb ≤ n) (h : outSt T n nb E O P M PW BW) (hD : 1 ≤ D ∧ D ≤ 23040000) (hC : ∀ c9 : Int, 0 ≤ c9 → c9 < n → bitZ M c9 = 1 → gC (cntB M c9) = c9) (ht : tcP T n nb E O P gC D cb cp fV kb kp kV PW BW hP hB) : outSt T n nb E O P (M + 1) hP hB := by
  rcases ht with ⟨a, -, -, -, rfl, rfl⟩ | ⟨p0, V0, a, b, c, -⟩
  · exact outSt_skip h (gC_hq hC (fun g D V e q => cand_congr e q) a)
  · intro x x0 x1
    obtain ⟨k1, k2⟩ := h x x0 x1
    rcases c x x0 x1 with ⟨⟨z, e⟩, e1, e2⟩ | ⟨z, e1, e2⟩
    · rw [e1, e2]
      refine ⟨by omega, Or.inr ⟨by omega, b.2.1, ⟨gC, V0, a, z, b.1⟩, fun g D' V' q r s => ?_⟩⟩
      rcases qMsk_step q hC with w | w
      · rcases k2 with ⟨y1, y2⟩ | ⟨y1, y2, y3, y4⟩
        · exact absurd s (y2 g D' V' w r)
        · have t := y4 g D' V' w r s
          have e' : p0 * BW x < PW x * D := by rcases e with e | e; omega; exact e
          exact Int.le_of_lt (xlt_trans (a := p0) (D := D) (b := PW x) (E := BW x) (c := zsum (fun c => P c * V' c) n) (F := D') (by omega) y1 r.2.2.1.1 (Int.le_of_lt e') t (Or.inl e'))
      · have := price_x (P := P) h1 h4 a (cand_congr w r)
        rw [b.1]; omega
    · rw [e1, e2]
      refine ⟨k1, ?_⟩
      rcases k2 with ⟨y1, y2⟩ | ⟨y1, y2, y3, y4⟩
      · refine Or.inl ⟨y1, fun g D' V' q r s => ?_⟩
        rcases qMsk_step q hC with w | w
        · exact y2 g D' V' w r s
        · have u := cand_uniq h1 h4 a (cand_congr w r) x x0 (by omega)
          rw [s, Int.zero_mul] at u
          have := r.2.2.1.1
          exact z ⟨(Int.mul_eq_zero.mp u).resolve_right (by omega), Or.inl y1⟩
      · refine Or.inr ⟨y1, y2, y3, fun g D' V' q r s => ?_⟩
        rcases qMsk_step q hC with w | w
        · exact y4 g D' V' w r s
        · have u := cand_uniq h1 h4 a (cand_congr w r) x x0 (by omega)
          rw [s, Int.zero_mul] at u
          have hp' := r.2.2.1.1
          have v0 := (Int.mul_eq_zero.mp u).resolve_right (by omega)
          have pe := price_x (P := P) h1 h4 a (cand_congr w r)
          have nl : ¬ p0 * BW x < PW x * D := fun q => z ⟨v0, Or.inr q⟩
          -- PW * D ≤ p0 * BW, p0 * D' = price' * D
          have m1 : PW x * D * D' ≤ p0 * BW x * D' := Int.mul_le_mul_of_nonneg_right (by omega) (by omega)
          have m2 : p0 * BW x * D' = zsum (fun c => P c * V' c) n * BW x * D := by
            rw [Int.mul_right_comm p0, b.1, ← pe, Int.mul_right_comm]
          have m3 : PW x * D' * D ≤ zsum (fun c => P c * V' c) n * BW x * D := by
            rw [Int.mul_right_comm (PW x) D' D]; omega
          exact Int.le_of_mul_le_mul_right m3 (by omega)
theorem outSt_bnd {T n nb M : Int} {E : Int → Int → Int} {O P PW BW : Int → Int} (h : outSt T n nb E O P M PW BW) : wBnd nb PW BW := fun b a c => by
  obtain ⟨h1, h2⟩ := h b a c
  refine ⟨h1, fun q => ?_⟩
  rcases h2 with ⟨x, -⟩ | ⟨-, y, -⟩
  · exact absurd x q
  · exact y
/-- the end -/
def covBest (T n nb : Int) (E : Int → Int → Int) (O P : Int → Int) (D p : Int) (V : Int → Int) : Prop := opt (fun _ => True) (cand T n E O) (nb + 1) (cKey n P) D V ∧ (1 ≤ D ∧ D ≤ 23040000) ∧ cBd n P p V
def prfBest (T n : Int) (E : Int → Int → Int) (O P : Int → Int) (D w : Int) (Y : Int → Int) : Prop := opt (fun _ => True) (dcand T n E P) (T + 1) (dKey T O) D Y ∧ (1 ≤ D ∧ D ≤ 23040000) ∧ dBd T O w Y
def outBest (T n nb : Int) (E : Int → Int → Int) (O P : Int → Int) (PW BW : Int → Int) : Prop := ∀ b : Int, 0 ≤ b → b < nb → (1 ≤ BW b ∧ BW b ≤ 23040000) ∧ (0 ≤ PW b ∧ PW b ≤ 212834560000) ∧ (∃ g V, cand T n E O g (BW b) V ∧ V b = 0 ∧ PW b = zsum (fun c => P c * V c) n) ∧ ∀ g D V, cand T n E O g D V → V b = 0 → PW b * D ≤ zsum (fun c => P c * V c) n * BW b
theorem covSt_end {T n nb D p : Int} {E : Int → Int → Int} {O P V : Int → Int} (h1 : 1 ≤ T) (h4 : T ≤ 4) (hn : 0 ≤ n) (he : ∃ g D V, cand T n E O g D V) (h : covSt T n nb E O P (2 ^ n.toNat) D p V) : covBest T n nb E O P D p V := by
  have a := opt_all h1 h4 hn h.1
  obtain ⟨g, D', V', c⟩ := he
  have b := opt_found a c
  exact ⟨a, by have := h.2.1; omega, h.2.2 (by omega)⟩
theorem prfSt_end {T n D p : Int} {E : Int → Int → Int} {O P V : Int → Int} (h1 : 1 ≤ T) (h4 : T ≤ 4) (hn : 0 ≤ n) (he : ∃ g D V, dcand T n E P g D V) (h : prfSt T n E O P (2 ^ n.toNat) D p V) : prfBest T n E O P D p V := by
  have a := opt_allD h1 h4 hn h.1
  obtain ⟨g, D', V', c⟩ := he
  have b := opt_found a c
  exact ⟨a, by have := h.2.1; omega, h.2.2 (by omega)⟩
theorem outSt_end {T n nb : Int} {E : Int → Int → Int} {O P PW BW : Int → Int} (h1 : 1 ≤ T) (h4 : T ≤ 4) (hn : 0 ≤ n) (he : ∃ g D V, cand T n E O g D V ∧ ∀ c : Int, 0 ≤ c → c < nb → V c = 0) (h : outSt T n nb E O P (2 ^ n.toNat) PW BW) : outBest T n nb E O P PW BW := fun b a c => by
  have k : ∀ g D' V', cand T n E O g D' V' → ∃ g', qMsk T n (2 ^ n.toNat) g' ∧ cand T n E O g' D' V' := fun g D' V' c => by
    obtain ⟨g', a, b, s⟩ := dB_srt h1 h4 c.2.1
    have c' := cand_same c b a
    obtain ⟨m, m0, m1, m2⟩ := srt_msk h1 h4 hn c'.1 s
    exact ⟨g', ⟨c'.1, m, m0, m1, m2⟩, c'⟩
  obtain ⟨x, y⟩ := h b a c
  rcases y with ⟨-, y⟩ | ⟨y1, y2, y3, y4⟩
  · obtain ⟨g, D, V, q, r⟩ := he
    obtain ⟨g', s, t⟩ := k g D V q
    exact absurd (r b a c) (y g' D V s t)
  · refine ⟨by omega, y2, y3, fun g D V q r => ?_⟩
    obtain ⟨g', s, t⟩ := k g D V q
    exact y4 g' D V s t r
/-- bonds' bounds -/
def plOk (pb : Int) (fT : Int → Int) : Prop := ∀ b : Int, 0 ≤ b → b < pb → fT (b * 7) ≤ 20 ∧ fT (b * 7 + 1) ≤ 40
theorem plY_60 {pb : Int} {fT : Int → Int} (hT : ∀ i : Int, 0 ≤ fT i ∧ fT i ≤ 200) (ho : plOk pb fT) (b d : Int) : 0 ≤ plYield pb fT b d ∧ plYield pb fT b d ≤ 60 ∧ (¬ d = plLast pb fT b → plYield pb fT b d ≤ 20) := by
  have h0 : 0 ≤ plTerm pb fT b 0 ∧ plTerm pb fT b 0 ≤ 20 := by
    unfold plTerm
    split
    · rename_i h; have := ho b h.1 h.2.1; have := hT (b * 7); rw [Int.add_zero]; omega
    · omega
  have h1 : 0 ≤ plTerm pb fT b 1 ∧ plTerm pb fT b 1 ≤ 40 := by
    unfold plTerm
    split
    · rename_i h; have := ho b h.1 h.2.1; have := hT (b * 7 + 1); omega
    · omega
  unfold plYield
  (repeat' split) <;> omega
theorem sq_le {a A : Int} (h : -A ≤ a ∧ a ≤ A) : a * a ≤ A * A := (mul_abs h h).2
theorem plE_60 {pd pb : Int} {fR fT : Int → Int} (hT : ∀ i : Int, 0 ≤ fT i ∧ fT i ≤ 200) (hR : ∀ i : Int, 0 ≤ fR i ∧ fR i ≤ 6) (ho : plOk pb fT) (c d : Int) : -60 ≤ plE pd pb fR fT c d ∧ plE pd pb fR fT c d ≤ 60 := by
  have a := plY_60 hT ho c d
  have b := plAt_rng (pd := pd) hR d
  unfold plE
  (repeat' split) <;> omega
theorem plE_sq {pd pb : Int} {fR fT : Int → Int} (hT : ∀ i : Int, 0 ≤ fT i ∧ fT i ≤ 200) (hR : ∀ i : Int, 0 ≤ fR i ∧ fR i ≤ 6) (ho : plOk pb fT) (c : Int) : plE pd pb fR fT c 1 * plE pd pb fR fT c 1 + plE pd pb fR fT c 2 * plE pd pb fR fT c 2 + plE pd pb fR fT c 3 * plE pd pb fR fT c 3 + plE pd pb fR fT c 4 * plE pd pb fR fT c 4 ≤ 4800 := by
  by_cases q : c < pb
  · have e : ∀ d : Int, plE pd pb fR fT c d = plYield pb fT c d := fun d => by unfold plE; rw [if_pos q]
    rw [e 1, e 2, e 3, e 4]
    have k : ∀ d : Int, ¬ d = plLast pb fT c → plYield pb fT c d * plYield pb fT c d ≤ 400 := fun d h => sq_le (A := 20) (by have := plY_60 hT ho c d; omega)
    have k' : ∀ d : Int, plYield pb fT c d * plYield pb fT c d ≤ 3600 := fun d => sq_le (A := 60) (by have := plY_60 hT ho c d; omega)
    have a1 := k 1
    have a2 := k 2
    have a3 := k 3
    have a4 := k 4
    have b1 := k' 1
    have b2 := k' 2
    have b3 := k' 3
    have b4 := k' 4
    by_cases z1 : (1 : Int) = plLast pb fT c
    · have := a2 (by omega); have := a3 (by omega); have := a4 (by omega); omega
    · by_cases z2 : (2 : Int) = plLast pb fT c
      · have := a1 (by omega); have := a3 (by omega); have := a4 (by omega); omega
      · by_cases z3 : (3 : Int) = plLast pb fT c
        · have := a1 (by omega); have := a2 (by omega); have := a4 (by omega); omega
        · have := a1 (by omega); have := a2 (by omega); have := a3 (by omega); omega
  · have e : ∀ d : Int, plE pd pb fR fT c d * plE pd pb fR fT c d ≤ 676 := fun d => sq_le (A := 26) (by
      have b := plAt_rng (pd := pd) hR d
      unfold plE
      rw [if_neg q]
      (repeat' split) <;> omega)
    have := e 1
    have := e 2
    have := e 3
    have := e 4
    omega
theorem plE_std (pd pb : Int) (fR fT : Int → Int) : stdE pd pb (plE pd pb fR fT) (plG pd fR) := fun s r s0 s1 r0 r1 => by
  unfold plE plG
  rw [if_neg (by omega), show pb + s - pb = s by omega]
theorem plQ_rng {pb : Int} {fT : Int → Int} (hT : ∀ i : Int, 0 ≤ fT i ∧ fT i ≤ 200) (c : Int) : 0 ≤ plQ pb fT c ∧ plQ pb fT c ≤ 200 := by
  have := plTerm_rng pb hT c 3
  unfold plQ
  (repeat' split) <;> omega
theorem cand_E {T n : Int} {E E' : Int → Int → Int} {O O' : Int → Int} (hE : ∀ c d : Int, 0 ≤ c → c < n → 1 ≤ d → d ≤ T → E c d = E' c d) (hO : ∀ d : Int, 1 ≤ d → d ≤ T → O d = O' d) {g : Int → Int} {D : Int} {V : Int → Int} (h : cand T n E O g D V) : cand T n E' O' g D V := by
  have e : ∀ i : Int, 0 ≤ i → ∀ r : Int, 0 ≤ r → pcol T E g i r = pcol T E' g i r := fun i i0 r r0 => by
    unfold pcol
    by_cases q : i < T
    · rw [if_pos q, if_pos q]
      by_cases w : r < T
      · rw [if_pos w, if_pos w]
        have := h.1 i i0 q
        exact hE _ _ this.1 this.2 (by omega) (by omega)
      · rw [if_neg w, if_neg w]
    · rw [if_neg q, if_neg q]
  refine ⟨h.1, ?_, ⟨h.2.2.1.1, h.2.2.1.2.1, fun r r0 r1 => ?_⟩, h.2.2.2⟩
  · have : dB T E' g = dB T E g := d4_congr (fun r a _ => (e 0 (by omega) r a).symm) (fun r a _ => (e 1 (by omega) r a).symm) (fun r a _ => (e 2 (by omega) r a).symm) (fun r a _ => (e 3 (by omega) r a).symm)
    rw [this]; exact h.2.1
  · rw [← hO r r0 r1, ← h.2.2.1.2.2 r r0 r1]
    exact zsum_congr (fun c c0 c1 => by show E' c r * V c = E c r * V c; rw [hE c r c0 c1 r0 r1])
theorem dcand_E {T n : Int} {E E' : Int → Int → Int} {P P' : Int → Int} (hE : ∀ c d : Int, 0 ≤ c → c < n → 1 ≤ d → d ≤ T → E c d = E' c d) (hP : ∀ c : Int, 0 ≤ c → c < n → P c = P' c) {g : Int → Int} {D : Int} {Y : Int → Int} (h : dcand T n E P g D Y) : dcand T n E' P' g D Y := by
  have e : ∀ i : Int, 0 ≤ i → ∀ r : Int, 0 ≤ r → pcol T E g i r = pcol T E' g i r := fun i i0 r r0 => by
    unfold pcol
    by_cases q : i < T
    · rw [if_pos q, if_pos q]
      by_cases w : r < T
      · rw [if_pos w, if_pos w]
        have := h.1 i i0 q
        exact hE _ _ this.1 this.2 (by omega) (by omega)
      · rw [if_neg w, if_neg w]
    · rw [if_neg q, if_neg q]
  have k : ∀ c : Int, 0 ≤ c → c < n → dsum T E' Y c = dsum T E Y c := fun c c0 c1 => zsum_congr (fun j j0 j1 => by show Y (j + 1) * E' c (j + 1) = Y (j + 1) * E c (j + 1); rw [hE c (j + 1) c0 c1 (by omega) (by omega)])
  refine ⟨h.1, ?_, h.2.2.1, fun i i0 i1 => ?_, fun c c0 c1 => ?_⟩
  · have : dB T E' g = dB T E g := d4_congr (fun r a _ => (e 0 (by omega) r a).symm) (fun r a _ => (e 1 (by omega) r a).symm) (fun r a _ => (e 2 (by omega) r a).symm) (fun r a _ => (e 3 (by omega) r a).symm)
    rw [this]; exact h.2.1
  · have := h.1 i i0 i1
    rw [k _ this.1 this.2, ← hP _ this.1 this.2]; exact h.2.2.2.1 i i0 i1
  · rw [k c c0 c1, ← hP c c0 c1]; exact h.2.2.2.2 c c0 c1
theorem pow_rng {n : Int} (h0 : 0 ≤ n) (h1 : n ≤ 10) : (1 : Int) ≤ 2 ^ n.toNat ∧ (2 : Int) ^ n.toNat ≤ 1024 := by
  have : ∀ k : Fin 11, (1 : Int) ≤ 2 ^ k.val ∧ (2 : Int) ^ k.val ≤ 1024 := by decide
  exact this ⟨n.toNat, by omega⟩

abbrev po_X1_tryWithout (z : zC) (gh : Nat) (gcv : Nat) (gpf : Nat) (gpw : Nat) (gbw : Nat) (gnp : Nat) (gbs : Nat) (fPW : Int → Int) (fBW : Int → Int) (ch : Nat) (ca : Nat) (cb : Int) (cp : Int) (fV : Int → Int) (eh : Nat) (eo : Nat) (ep : Nat) (ew : Nat) (eR : Int → Nat) (ed : Int) (eb : Int) (ec : Int) (fE : Int → Int → Int) (fQ : Int → Int) (fO : Int → Int) : Option Value → va_W → Prop := fun v w => ∃ (hP : Int → Int), ∃ (hB : Int → Int), (wUpd eb fV cp cb fPW fBW hP hB) ∧ v = none ∧ w = (wBC z gh gcv gpf gpw gbw ch gnp eh gbs hP hB) ++ (wCov z ch ca cb cp fV) ++ (wEq z eh eo ep ew eR ed eb ec fE fQ fO)
abbrev rm_X1_tryWithout : Room := { frames := 1, cells := 0, slots := 0, locals := 40 }
set_option maxHeartbeats 4000000 in
set_option maxRecDepth 100000 in
theorem cc_X1_tryWithout (l : Launch) (z : zC) (gh : Nat) (gcv : Nat) (gpf : Nat) (gpw : Nat) (gbw : Nat) (gnp : Nat) (gbs : Nat) (fPW : Int → Int) (fBW : Int → Int) (ch : Nat) (ca : Nat) (cb : Int) (cp : Int) (fV : Int → Int) (eh : Nat) (eo : Nat) (ep : Nat) (ew : Nat) (eR : Int → Nat) (ed : Int) (eb : Int) (ec : Int) (fE : Int → Int → Int) (fQ : Int → Int) (fO : Int → Int) (heb : 0 ≤ eb ∧ eb ≤ 5) (hcb : 1 ≤ cb ∧ cb ≤ 23040000) (hcp : 0 ≤ cp ∧ cp ≤ 212834560000) (hV : ∀ c : Int, 0 ≤ c → c < eb → 0 ≤ fV c ∧ fV c ≤ 266043200) (hwb : wBnd eb fPW fBW) : zzMet l yX1_tryWithout cX1_tryWithout 2 none rm_X1_tryWithout z [.ref gh] ((wBC z gh gcv gpf gpw gbw ch gnp eh gbs fPW fBW) ++ (wCov z ch ca cb cp fV) ++ (wEq z eh eo ep ew eR ed eb ec fE fQ fO)) (po_X1_tryWithout z gh gcv gpf gpw gbw gnp gbs fPW fBW ch ca cb cp fV eh eo ep ew eR ed eb ec fE fQ fO) := by
  refine zzMet.of (own := RX1) (ls0 := [(0, .ref gh)]) (by decide) rfl (Nat.le_of_ble_eq_true rfl) rfl ?_
  intro p e s m below meth c A C hr hnm
  refine zz_iconst C dX1_tryWithout_0 ?_
  refine zz_istore_n (ls' := [(1, .int (iI 0)), (0, .ref gh)]) C dX1_tryWithout_1 rfl (by decide) rfl ?_
  have Lp2 : ∀ (fu9 : Nat) (k : Int) (gP : Int → Int) (gB : Int → Int), (0 ≤ k ∧ k ≤ eb) → (wUs fV cp cb fPW fBW k gP gB) → (eb - k).toNat < fu9 → zzW p l e rm_X1_tryWithout s m ([.ref gh] : List Value).toArray below meth c z A 2 (MQ below (zQ z A (po_X1_tryWithout z gh gcv gpf gpw gbw gnp gbs fPW fBW ch ca cb cp fV eh eo ep ew eR ed eb ec fE fQ fO)) ([.ref gh] : List Value).toArray s 0 0 A) 0 0 ((wBC z gh gcv gpf gpw gbw ch gnp eh gbs gP gB) ++ (wCov z ch ca cb cp fV) ++ (wEq z eh eo ep ew eR ed eb ec fE fQ fO)) [(0, .ref gh), (1, .int (iI k))] [] 2 := by
    intro fu9
    induction fu9 with
    | zero => intro k gP gB hk hU h9; exact absurd h9 (Nat.not_lt_zero _)
    | succ fu9 ih2 =>
      intro k gP gB hk hU hm2
      refine zz_iload_n C 1 dX1_tryWithout_2 rfl rfl ?_
      refine zz_aload_n C 0 dX1_tryWithout_3 rfl rfl ?_
      refine zz_get C 0 (ci := 1) (k := 6) rfl rfl in_X1 (by decide) qw_189 rfl rfl dX1_tryWithout_4 ?_
      refine zz_get C 5 (ci := 3) (k := 1) rfl rfl in_X3 (by decide) qw_125 rfl rfl dX1_tryWithout_7 ?_
      refine zz_icmp_ge (tgt := 102) C dX1_tryWithout_10 (by decide) (by unfold rI; omega) (by unfold rI; omega) (fun c10 => ?_) (fun c10 => ?_)
      · skip
        exact zz_vret C hr dX1_tryWithout_102 ⟨gP, gB, by rw [show k = eb by omega] at hU; exact hU.1, rfl, rfl⟩
      · skip
        have hv9 := hV k (by omega) (by omega)
        have hw9 := hwb k (by omega) (by omega)
        obtain ⟨hg1, hg2⟩ := hU.2 k (by omega)
        refine zz_aload_n C 0 dX1_tryWithout_13 rfl rfl ?_
        refine zz_get C 0 (ci := 1) (k := 4) rfl rfl in_X1 (by decide) qw_187 rfl rfl dX1_tryWithout_14 ?_
        refine zz_get C 3 (ci := 2) (k := 2) rfl rfl in_X2 (by decide) qw_83 rfl rfl dX1_tryWithout_17 ?_
        refine zz_iload_n C 1 dX1_tryWithout_20 rfl rfl ?_
        refine zz_lald C 4 rfl (by omega) (by omega) (by decide) dX1_tryWithout_21 ?_
        refine zz_lconst (a := 0) C dX1_tryWithout_22 (by decide +kernel) ?_
        refine zz_lcmp_ne (tgt := 96) C dX1_tryWithout_23 dX1_tryWithout_24 (by decide) (by unfold rL; omega) (by unfold rL; omega) (fun c23 => ?_) (fun c23 => ?_)
        · skip
          have hU9 := wUs_keep hU (fun q => c23 q.1)
          refine zz_iinc (ls' := [(1, .int (iI (k + 1))), (0, .ref gh)]) C 1 dX1_tryWithout_96 rfl (by decide) rfl ?_
          refine zz_goto (tgt := 2) C dX1_tryWithout_99 (by decide) ?_
          refine zz_loc (ls' := [(0, .ref gh), (1, .int (iI (k + 1)))]) [1, 0] rfl ?_
          exact ih2 (k + 1) gP gB (by omega) hU9 (by omega)
        · skip
          refine zz_aload_n C 0 dX1_tryWithout_27 rfl rfl ?_
          refine zz_get C 0 (ci := 1) (k := 3) rfl rfl in_X1 (by decide) qw_185 rfl rfl dX1_tryWithout_28 ?_
          refine zz_iload_n C 1 dX1_tryWithout_31 rfl rfl ?_
          refine zz_lald C 2 rfl (by omega) (by omega) (by decide) dX1_tryWithout_32 ?_
          refine zz_lconst (a := 0) C dX1_tryWithout_33 (by decide +kernel) ?_
          refine zz_lcmp_eq (tgt := 70) C dX1_tryWithout_34 dX1_tryWithout_35 (by decide) (by unfold rL; omega) (by unfold rL; omega) (fun c34 => ?_) (fun c34 => ?_)
          · skip
            have hc9 : wCnd fV cp cb fPW fBW k := ⟨c23, Or.inl (by omega)⟩
            have hU9 := wUs_set hU hc9
            refine zz_aload_n C 0 dX1_tryWithout_70 rfl rfl ?_
            refine zz_get C 0 (ci := 1) (k := 2) rfl rfl in_X1 (by decide) qw_183 rfl rfl dX1_tryWithout_71 ?_
            refine zz_iload_n C 1 dX1_tryWithout_74 rfl rfl ?_
            refine zz_aload_n C 0 dX1_tryWithout_75 rfl rfl ?_
            refine zz_get C 0 (ci := 1) (k := 4) rfl rfl in_X1 (by decide) qw_187 rfl rfl dX1_tryWithout_76 ?_
            refine zz_get C 3 (ci := 2) (k := 1) rfl rfl in_X2 (by decide) qw_80 rfl rfl dX1_tryWithout_79 ?_
            refine zz_last (ws' := (wBC z gh gcv gpf gpw gbw ch gnp eh gbs (zup gP k cp) gB) ++ (wCov z ch ca cb cp fV) ++ (wEq z eh eo ep ew eR ed eb ec fE fQ fO)) C 1 rfl (by omega) (by omega) (by decide) rfl dX1_tryWithout_82 ?_
            refine zz_aload_n C 0 dX1_tryWithout_83 rfl rfl ?_
            refine zz_get C 0 (ci := 1) (k := 3) rfl rfl in_X1 (by decide) qw_185 rfl rfl dX1_tryWithout_84 ?_
            refine zz_iload_n C 1 dX1_tryWithout_87 rfl rfl ?_
            refine zz_aload_n C 0 dX1_tryWithout_88 rfl rfl ?_
            refine zz_get C 0 (ci := 1) (k := 4) rfl rfl in_X1 (by decide) qw_187 rfl rfl dX1_tryWithout_89 ?_
            refine zz_get C 3 (ci := 2) (k := 0) rfl rfl in_X2 (by decide) qw_77 rfl rfl dX1_tryWithout_92 ?_
            refine zz_last (ws' := (wBC z gh gcv gpf gpw gbw ch gnp eh gbs (zup gP k cp) (zup gB k cb)) ++ (wCov z ch ca cb cp fV) ++ (wEq z eh eo ep ew eR ed eb ec fE fQ fO)) C 2 rfl (by omega) (by omega) (by decide) rfl dX1_tryWithout_95 ?_
            refine zz_iinc (ls' := [(1, .int (iI (k + 1))), (0, .ref gh)]) C 1 dX1_tryWithout_96 rfl (by decide) rfl ?_
            refine zz_goto (tgt := 2) C dX1_tryWithout_99 (by decide) ?_
            refine zz_loc (ls' := [(0, .ref gh), (1, .int (iI (k + 1)))]) [1, 0] rfl ?_
            exact ih2 (k + 1) (zup gP k cp) (zup gB k cb) (by omega) hU9 (by omega)
          · skip
            have hw8 := hw9.2 (by omega)
            have hm1 := pr_rL hcp (b := gB k) (by omega)
            have hm2 := pr_rL (a := gP k) (b := cb) (by omega) (by omega)
            refine zz_aload_n C 0 dX1_tryWithout_38 rfl rfl ?_
            refine zz_get C 0 (ci := 1) (k := 4) rfl rfl in_X1 (by decide) qw_187 rfl rfl dX1_tryWithout_39 ?_
            refine zz_get C 3 (ci := 2) (k := 1) rfl rfl in_X2 (by decide) qw_80 rfl rfl dX1_tryWithout_42 ?_
            refine zz_aload_n C 0 dX1_tryWithout_45 rfl rfl ?_
            refine zz_get C 0 (ci := 1) (k := 3) rfl rfl in_X1 (by decide) qw_185 rfl rfl dX1_tryWithout_46 ?_
            refine zz_iload_n C 1 dX1_tryWithout_49 rfl rfl ?_
            refine zz_lald C 2 rfl (by omega) (by omega) (by decide) dX1_tryWithout_50 ?_
            refine zz_lmul C dX1_tryWithout_51 ?_
            refine zz_aload_n C 0 dX1_tryWithout_52 rfl rfl ?_
            refine zz_get C 0 (ci := 1) (k := 2) rfl rfl in_X1 (by decide) qw_183 rfl rfl dX1_tryWithout_53 ?_
            refine zz_iload_n C 1 dX1_tryWithout_56 rfl rfl ?_
            refine zz_lald C 1 rfl (by omega) (by omega) (by decide) dX1_tryWithout_57 ?_
            refine zz_aload_n C 0 dX1_tryWithout_58 rfl rfl ?_
            refine zz_get C 0 (ci := 1) (k := 4) rfl rfl in_X1 (by decide) qw_187 rfl rfl dX1_tryWithout_59 ?_
            refine zz_get C 3 (ci := 2) (k := 0) rfl rfl in_X2 (by decide) qw_77 rfl rfl dX1_tryWithout_62 ?_
            refine zz_lmul C dX1_tryWithout_65 ?_
            refine zz_lcmp_ge (tgt := 96) C dX1_tryWithout_66 dX1_tryWithout_67 (by decide) hm1 hm2 (fun c66 => ?_) (fun c66 => ?_)
            · skip
              have hU9 := wUs_keep hU (fun q => by rcases q.2 with q1 | q1; omega; rw [← hg1, ← hg2] at q1; omega)
              refine zz_iinc (ls' := [(1, .int (iI (k + 1))), (0, .ref gh)]) C 1 dX1_tryWithout_96 rfl (by decide) rfl ?_
              refine zz_goto (tgt := 2) C dX1_tryWithout_99 (by decide) ?_
              refine zz_loc (ls' := [(0, .ref gh), (1, .int (iI (k + 1)))]) [1, 0] rfl ?_
              exact ih2 (k + 1) gP gB (by omega) hU9 (by omega)
            · skip
              have hc9 : wCnd fV cp cb fPW fBW k := ⟨c23, Or.inr (by rw [← hg1, ← hg2]; omega)⟩
              have hU9 := wUs_set hU hc9
              refine zz_aload_n C 0 dX1_tryWithout_70 rfl rfl ?_
              refine zz_get C 0 (ci := 1) (k := 2) rfl rfl in_X1 (by decide) qw_183 rfl rfl dX1_tryWithout_71 ?_
              refine zz_iload_n C 1 dX1_tryWithout_74 rfl rfl ?_
              refine zz_aload_n C 0 dX1_tryWithout_75 rfl rfl ?_
              refine zz_get C 0 (ci := 1) (k := 4) rfl rfl in_X1 (by decide) qw_187 rfl rfl dX1_tryWithout_76 ?_
              refine zz_get C 3 (ci := 2) (k := 1) rfl rfl in_X2 (by decide) qw_80 rfl rfl dX1_tryWithout_79 ?_
              refine zz_last (ws' := (wBC z gh gcv gpf gpw gbw ch gnp eh gbs (zup gP k cp) gB) ++ (wCov z ch ca cb cp fV) ++ (wEq z eh eo ep ew eR ed eb ec fE fQ fO)) C 1 rfl (by omega) (by omega) (by decide) rfl dX1_tryWithout_82 ?_
              refine zz_aload_n C 0 dX1_tryWithout_83 rfl rfl ?_
              refine zz_get C 0 (ci := 1) (k := 3) rfl rfl in_X1 (by decide) qw_185 rfl rfl dX1_tryWithout_84 ?_
              refine zz_iload_n C 1 dX1_tryWithout_87 rfl rfl ?_
              refine zz_aload_n C 0 dX1_tryWithout_88 rfl rfl ?_
              refine zz_get C 0 (ci := 1) (k := 4) rfl rfl in_X1 (by decide) qw_187 rfl rfl dX1_tryWithout_89 ?_
              refine zz_get C 3 (ci := 2) (k := 0) rfl rfl in_X2 (by decide) qw_77 rfl rfl dX1_tryWithout_92 ?_
              refine zz_last (ws' := (wBC z gh gcv gpf gpw gbw ch gnp eh gbs (zup gP k cp) (zup gB k cb)) ++ (wCov z ch ca cb cp fV) ++ (wEq z eh eo ep ew eR ed eb ec fE fQ fO)) C 2 rfl (by omega) (by omega) (by decide) rfl dX1_tryWithout_95 ?_
              refine zz_iinc (ls' := [(1, .int (iI (k + 1))), (0, .ref gh)]) C 1 dX1_tryWithout_96 rfl (by decide) rfl ?_
              refine zz_goto (tgt := 2) C dX1_tryWithout_99 (by decide) ?_
              refine zz_loc (ls' := [(0, .ref gh), (1, .int (iI (k + 1)))]) [1, 0] rfl ?_
              exact ih2 (k + 1) (zup gP k cp) (zup gB k cb) (by omega) hU9 (by omega)
  refine zz_loc (ls' := [(0, .ref gh), (1, .int (iI 0))]) [1, 0] rfl ?_
  exact Lp2 _ 0 fPW fBW (by omega) (wUs_0 _ _ _ _ _) (Nat.lt_succ_self _)
abbrev po_X1_tryCover (z : zC) (gh : Nat) (gpf : Nat) (gpw : Nat) (gbw : Nat) (gnp : Nat) (fPW : Int → Int) (fBW : Int → Int) (ch : Nat) (ca : Nat) (cb : Int) (cp : Int) (fV : Int → Int) (ch2 : Nat) (ca2 : Nat) (cb2 : Int) (cp2 : Int) (fV2 : Int → Int) (eh : Nat) (eo : Nat) (ep : Nat) (ew : Nat) (eR : Int → Nat) (ed : Int) (eb : Int) (ec : Int) (fE : Int → Int → Int) (fQ : Int → Int) (fO : Int → Int) (bh : Nat) (bc : Nat) (bo : Nat) (bR : Int → Nat) (bd : Int) (fC : Int → Int) (fM : Int → Int → Int) : Option Value → va_W → Prop := fun v w => ∃ (qc : Nat), ∃ (qa : Nat), ∃ (kb : Int), ∃ (kp : Int), ∃ (kV : Int → Int), ∃ (qn : Nat), ∃ (qx : Nat), ∃ (jb : Int), ∃ (jp : Int), ∃ (jV : Int → Int), ∃ (hP : Int → Int), ∃ (hB : Int → Int), (tcP ed ec eb fE fO fQ fC bd cb cp fV kb kp kV fPW fBW hP hB) ∧ v = none ∧ w = (wBC z gh qc gpf gpw gbw qn gnp eh bh hP hB) ++ (wCov z qc qa kb kp kV) ++ (wCov z qn qx jb jp jV) ++ (wEq z eh eo ep ew eR ed eb ec fE fQ fO) ++ (wBas z bh bc bo bR ed bd fC fM)
abbrev rm_X1_tryCover : Room := { frames := 3, cells := 0, slots := 0, locals := 88 }
set_option maxHeartbeats 4000000 in
set_option maxRecDepth 100000 in
theorem cc_X1_tryCover (l : Launch) (z : zC) (gh : Nat) (gpf : Nat) (gpw : Nat) (gbw : Nat) (gnp : Nat) (fPW : Int → Int) (fBW : Int → Int) (ch : Nat) (ca : Nat) (cb : Int) (cp : Int) (fV : Int → Int) (ch2 : Nat) (ca2 : Nat) (cb2 : Int) (cp2 : Int) (fV2 : Int → Int) (eh : Nat) (eo : Nat) (ep : Nat) (ew : Nat) (eR : Int → Nat) (ed : Int) (eb : Int) (ec : Int) (fE : Int → Int → Int) (fQ : Int → Int) (fO : Int → Int) (bh : Nat) (bc : Nat) (bo : Nat) (bR : Int → Nat) (bd : Int) (fC : Int → Int) (fM : Int → Int → Int) (hed : 1 ≤ ed ∧ ed ≤ 4) (hec : 0 ≤ ec ∧ ec ≤ 10) (heb : 0 ≤ eb ∧ eb ≤ 5 ∧ eb ≤ ec) (hinv : isInv ed fE fC bd fM) (hin : inB ed ec fC) (hO : ∀ r : Int, 1 ≤ r → r ≤ ed → 0 ≤ fO r ∧ fO r ≤ 200) (hQ : ∀ c : Int, 0 ≤ c → c < ec → 0 ≤ fQ c ∧ fQ c ≤ 200) (hcb : 0 ≤ cb ∧ cb ≤ 23040000) (hcv : ¬ cb = 0 → cBd ec fQ cp fV) (hwb : wBnd eb fPW fBW) : zzMet l yX1_tryCover cX1_tryCover 2 none rm_X1_tryCover z [.ref gh] ((wBC z gh ch gpf gpw gbw ch2 gnp eh bh fPW fBW) ++ (wCov z ch ca cb cp fV) ++ (wCov z ch2 ca2 cb2 cp2 fV2) ++ (wEq z eh eo ep ew eR ed eb ec fE fQ fO) ++ (wBas z bh bc bo bR ed bd fC fM)) (po_X1_tryCover z gh gpf gpw gbw gnp fPW fBW ch ca cb cp fV ch2 ca2 cb2 cp2 fV2 eh eo ep ew eR ed eb ec fE fQ fO bh bc bo bR bd fC fM) := by
  refine zzMet.of (own := RX1) (ls0 := [(0, .ref gh)]) (by decide) rfl (Nat.le_of_ble_eq_true rfl) rfl ?_
  intro p e s m below meth c A C hr hnm
  refine zz_aload_n C 0 dX1_tryCover_0 rfl rfl ?_
  refine zz_get C 0 (ci := 1) (k := 4) rfl rfl in_X1 (by decide) qw_187 rfl rfl dX1_tryCover_1 ?_
  refine zz_aload_n C 0 dX1_tryCover_4 rfl rfl ?_
  refine zz_get C 0 (ci := 1) (k := 6) rfl rfl in_X1 (by decide) qw_189 rfl rfl dX1_tryCover_5 ?_
  refine zz_aload_n C 0 dX1_tryCover_8 rfl rfl ?_
  refine zz_get C 0 (ci := 1) (k := 7) rfl rfl in_X1 (by decide) qw_190 rfl rfl dX1_tryCover_9 ?_
  refine zz_callV (wr := (wBC z gh ch gpf gpw gbw ch2 gnp eh bh fPW fBW) ++ (wCov z ch ca cb cp fV)) (st := []) C (cc_X2_readOff l z ch2 ca2 cb2 cp2 fV2 eh eo ep ew eR ed eb ec fE fQ fO bh bc bo bR bd fC fM (by omega) (by omega) (by omega) (by omega) (by omega) (by omega)) yk_X2_readOff qw_678 ⟨by decide, by decide⟩ [5, 6, 7, 8, 9, 10, 11, 12, 13, 14, 15, 16, 17, 18, 19, 20, 21, 22, 23, 24, 25, 26, 27] [0, 1, 2, 3, 4] rfl rfl rfl rfl (by decide) 0 2 rfl rfl rfl rfl (Nat.le_of_ble_eq_true rfl) dX1_tryCover_12 ⟨by decide, by decide⟩ ?_
  rintro _ _ ⟨q_12, gp_12, gV_12, hq_12, rfl, rfl⟩
  refine zz_st (st' := [.int (iI q_12)]) rfl (zz_ws (ws' := (wBC z gh ch gpf gpw gbw ch2 gnp eh bh fPW fBW) ++ (wCov z ch ca cb cp fV) ++ (wCov z ch2 ca2 bd gp_12 gV_12) ++ (wEq z eh eo ep ew eR ed eb ec fE fQ fO) ++ (wBas z bh bc bo bR ed bd fC fM)) rfl ?_)
  refine zz_if_ne (tgt := 19) C dX1_tryCover_15 (by decide) (by unfold rI; omega) (fun c15 => ?_) (fun c15 => ?_)
  · skip
    obtain ⟨hcd9, hcb9⟩ := (hq_12.resolve_right (fun h => by omega)).2
    clear hq_12
    refine zz_aload_n C 0 dX1_tryCover_19 rfl rfl ?_
    refine zz_callV (wr := (wCov z ch ca cb cp fV) ++ (wBas z bh bc bo bR ed bd fC fM)) (st := []) C (cc_X1_tryWithout l z gh ch gpf gpw gbw gnp bh fPW fBW ch2 ca2 bd gp_12 gV_12 eh eo ep ew eR ed eb ec fE fQ fO (by omega) hinv.1 hcb9.2.1 (fun c h0 h1 => hcb9.2.2 c h0 (by omega)) (by omega)) yk_X1_tryWithout qw_686 ⟨by decide, by decide⟩ [0, 1, 2, 5, 6, 7, 8, 9, 10, 11, 12, 13, 14, 15, 16, 17, 18, 19, 20] [3, 4, 21, 22, 23, 24, 25, 26, 27] rfl rfl rfl rfl (by decide) 0 1 rfl rfl rfl rfl (Nat.le_of_ble_eq_true rfl) dX1_tryCover_20 ⟨by decide, by decide⟩ ?_
    rintro _ _ ⟨hP_20, hB_20, hu_20, rfl, rfl⟩
    refine zz_st (st' := []) rfl (zz_ws (ws' := (wCov z ch ca cb cp fV) ++ (wBas z bh bc bo bR ed bd fC fM) ++ (wBC z gh ch gpf gpw gbw ch2 gnp eh bh hP_20 hB_20) ++ (wCov z ch2 ca2 bd gp_12 gV_12) ++ (wEq z eh eo ep ew eR ed eb ec fE fQ fO)) rfl ?_)
    refine zz_aload_n C 0 dX1_tryCover_23 rfl rfl ?_
    refine zz_get C 9 (ci := 1) (k := 4) rfl rfl in_X1 (by decide) qw_187 rfl rfl dX1_tryCover_24 ?_
    refine zz_aload_n C 0 dX1_tryCover_27 rfl rfl ?_
    refine zz_get C 9 (ci := 1) (k := 0) rfl rfl in_X1 (by decide) qw_179 rfl rfl dX1_tryCover_28 ?_
    refine zz_aload_n C 0 dX1_tryCover_31 rfl rfl ?_
    refine zz_get C 9 (ci := 1) (k := 6) rfl rfl in_X1 (by decide) qw_189 rfl rfl dX1_tryCover_32 ?_
    refine zz_get C 14 (ci := 3) (k := 1) rfl rfl in_X3 (by decide) qw_125 rfl rfl dX1_tryCover_35 ?_
    refine zz_callV (wr := (wBas z bh bc bo bR ed bd fC fM) ++ (wBC z gh ch gpf gpw gbw ch2 gnp eh bh hP_20 hB_20) ++ (wEq z eh eo ep ew eR ed eb ec fE fQ fO)) (st := []) C (cc_X2_isBetterThan l z ch2 ca2 bd gp_12 gV_12 ch ca cb cp fV eb (by omega) hinv.1 (by omega) hcb9.2.1 (fun q => (hcv q).2.1) (fun c h0 h1 => hcb9.2.2 c h0 (by omega)) (fun q c h0 h1 => (hcv q).2.2 c h0 (by omega))) yk_X2_isBetterThan qw_690 ⟨by decide, by decide⟩ [12, 13, 0, 1] [2, 3, 4, 5, 6, 7, 8, 9, 10, 11, 14, 15, 16, 17, 18, 19, 20, 21, 22, 23, 24, 25, 26, 27] rfl rfl rfl rfl (by decide) 0 2 rfl rfl rfl rfl (Nat.le_of_ble_eq_true rfl) dX1_tryCover_38 ⟨by decide, by decide⟩ ?_
    rintro _ _ ⟨q_38, hq_38, rfl, rfl⟩
    refine zz_st (st' := [.int (iI q_38)]) rfl (zz_ws (ws' := (wBas z bh bc bo bR ed bd fC fM) ++ (wBC z gh ch gpf gpw gbw ch2 gnp eh bh hP_20 hB_20) ++ (wEq z eh eo ep ew eR ed eb ec fE fQ fO) ++ (wCov z ch2 ca2 bd gp_12 gV_12) ++ (wCov z ch ca cb cp fV)) rfl ?_)
    refine zz_if_eq (tgt := 62) C dX1_tryCover_41 (by decide) (by unfold rI; omega) (fun c41 => ?_) (fun c41 => ?_)
    · skip
      have hn41 := (hq_38.resolve_left (fun h => by omega)).2
      refine zz_sub (ws' := (wBC z gh ch gpf gpw gbw ch2 gnp eh bh hP_20 hB_20) ++ (wCov z ch ca cb cp fV) ++ (wCov z ch2 ca2 bd gp_12 gV_12) ++ (wEq z eh eo ep ew eR ed eb ec fE fQ fO) ++ (wBas z bh bc bo bR ed bd fC fM)) [7, 8, 9, 26, 27, 24, 25, 10, 11, 12, 13, 14, 15, 16, 17, 18, 19, 20, 21, 22, 23, 0, 1, 2, 3, 4, 5, 6] rfl rfl ?_
      exact zz_vret C hr dX1_tryCover_62 ⟨ch, ca, cb, cp, fV, ch2, ca2, bd, gp_12, gV_12, hP_20, hB_20, Or.inr ⟨_, _, hcd9, hcb9, hu_20, by first | exact Or.inl ⟨hy41, rfl, rfl, rfl⟩ | exact Or.inr ⟨hn41, rfl, rfl, rfl⟩⟩, rfl, rfl⟩
    · skip
      have hy41 := (hq_38.resolve_right (fun h => by omega)).2
      refine zz_aload_n C 0 dX1_tryCover_44 rfl rfl ?_
      refine zz_get C 7 (ci := 1) (k := 0) rfl rfl in_X1 (by decide) qw_179 rfl rfl dX1_tryCover_45 ?_
      refine zz_astore_n (ls' := [(1, .ref ch), (0, .ref gh)]) C dX1_tryCover_48 rfl (by decide) rfl ?_
      refine zz_aload_n C 1 dX1_tryCover_49 rfl rfl ?_
      refine zz_aload_n C 1 dX1_tryCover_50 rfl rfl ?_
      refine zz_get C 7 (ci := 1) (k := 4) rfl rfl in_X1 (by decide) qw_187 rfl rfl dX1_tryCover_51 ?_
      refine zz_put (ty := .object "LiabilityMatcher$Cover") (ws' := (wBas z bh bc bo bR ed bd fC fM) ++ (wBC z gh ch2 gpf gpw gbw ch2 gnp eh bh hP_20 hB_20) ++ (wEq z eh eo ep ew eR ed eb ec fE fQ fO) ++ (wCov z ch2 ca2 bd gp_12 gV_12) ++ (wCov z ch ca cb cp fV)) C 7 (ci := 1) (k := 0) rfl rfl in_X1 tyX1 tyX1_ok nmX1 (by decide) qw_179 rfl rfl (by decide +kernel) rfl rfl (Nat.le_of_ble_eq_true rfl) rfl dX1_tryCover_54 ?_
      refine zz_aload_n C 1 dX1_tryCover_57 rfl rfl ?_
      refine zz_aload_n C 0 dX1_tryCover_58 rfl rfl ?_
      refine zz_put (ty := .object "LiabilityMatcher$Cover") (ws' := (wBas z bh bc bo bR ed bd fC fM) ++ (wBC z gh ch2 gpf gpw gbw ch gnp eh bh hP_20 hB_20) ++ (wEq z eh eo ep ew eR ed eb ec fE fQ fO) ++ (wCov z ch2 ca2 bd gp_12 gV_12) ++ (wCov z ch ca cb cp fV)) C 7 (ci := 1) (k := 4) rfl rfl in_X1 tyX1 tyX1_ok nmX1 (by decide) qw_187 rfl rfl (by decide +kernel) rfl rfl (Nat.le_of_ble_eq_true rfl) rfl dX1_tryCover_59 ?_
      refine zz_sub (ws' := (wBC z gh ch2 gpf gpw gbw ch gnp eh bh hP_20 hB_20) ++ (wCov z ch2 ca2 bd gp_12 gV_12) ++ (wCov z ch ca cb cp fV) ++ (wEq z eh eo ep ew eR ed eb ec fE fQ fO) ++ (wBas z bh bc bo bR ed bd fC fM)) [7, 8, 9, 24, 25, 26, 27, 10, 11, 12, 13, 14, 15, 16, 17, 18, 19, 20, 21, 22, 23, 0, 1, 2, 3, 4, 5, 6] rfl rfl ?_
      exact zz_vret C hr dX1_tryCover_62 ⟨ch2, ca2, bd, gp_12, gV_12, ch, ca, cb, cp, fV, hP_20, hB_20, Or.inr ⟨_, _, hcd9, hcb9, hu_20, by first | exact Or.inl ⟨hy41, rfl, rfl, rfl⟩ | exact Or.inr ⟨hn41, rfl, rfl, rfl⟩⟩, rfl, rfl⟩
  · skip
    have hno9 := (hq_12.resolve_left (fun h => by omega)).2
    exact zz_vret C hr dX1_tryCover_18 ⟨ch, ca, cb, cp, fV, ch2, ca2, bd, gp_12, gV_12, fPW, fBW, Or.inl ⟨hno9, rfl, rfl, rfl, rfl, rfl⟩, rfl, rfl⟩
abbrev po_X1_tryProof (z : zC) (gh : Nat) (gcv : Nat) (gpw : Nat) (gbw : Nat) (gnc : Nat) (fPW : Int → Int) (fBW : Int → Int) (yh : Nat) (ya : Nat) (yb : Int) (yw : Int) (fY : Int → Int) (yh2 : Nat) (ya2 : Nat) (yb2 : Int) (yw2 : Int) (fY2 : Int → Int) (eh : Nat) (eo : Nat) (ep : Nat) (ew : Nat) (eR : Int → Nat) (ed : Int) (eb : Int) (ec : Int) (fE : Int → Int → Int) (fQ : Int → Int) (fO : Int → Int) (bh : Nat) (bc : Nat) (bo : Nat) (bR : Int → Nat) (bd : Int) (fC : Int → Int) (fM : Int → Int → Int) : Option Value → va_W → Prop := fun v w => ∃ (qp : Nat), ∃ (qy : Nat), ∃ (lb : Int), ∃ (lw : Int), ∃ (lY : Int → Int), ∃ (qm : Nat), ∃ (qz : Nat), ∃ (mb : Int), ∃ (mw : Int), ∃ (mY : Int → Int), (tpP ed ec fE fO fQ fC bd yb yw fY lb lw lY) ∧ v = none ∧ w = (wBC z gh gcv qp gpw gbw gnc qm eh bh fPW fBW) ++ (wPrf z qp qy lb lw lY) ++ (wPrf z qm qz mb mw mY) ++ (wEq z eh eo ep ew eR ed eb ec fE fQ fO) ++ (wBas z bh bc bo bR ed bd fC fM)
abbrev rm_X1_tryProof : Room := { frames := 3, cells := 0, slots := 0, locals := 89 }
set_option maxHeartbeats 4000000 in
set_option maxRecDepth 100000 in
theorem cc_X1_tryProof (l : Launch) (z : zC) (gh : Nat) (gcv : Nat) (gpw : Nat) (gbw : Nat) (gnc : Nat) (fPW : Int → Int) (fBW : Int → Int) (yh : Nat) (ya : Nat) (yb : Int) (yw : Int) (fY : Int → Int) (yh2 : Nat) (ya2 : Nat) (yb2 : Int) (yw2 : Int) (fY2 : Int → Int) (eh : Nat) (eo : Nat) (ep : Nat) (ew : Nat) (eR : Int → Nat) (ed : Int) (eb : Int) (ec : Int) (fE : Int → Int → Int) (fQ : Int → Int) (fO : Int → Int) (bh : Nat) (bc : Nat) (bo : Nat) (bR : Int → Nat) (bd : Int) (fC : Int → Int) (fM : Int → Int → Int) (hed : 1 ≤ ed ∧ ed ≤ 4) (hec : 0 ≤ ec ∧ ec ≤ 10) (heb : 0 ≤ eb ∧ eb ≤ 5 ∧ eb ≤ ec) (hinv : isInv ed fE fC bd fM) (hin : inB ed ec fC) (hO : ∀ r : Int, 1 ≤ r → r ≤ ed → 0 ≤ fO r ∧ fO r ≤ 200) (hQ : ∀ c : Int, 0 ≤ c → c < ec → 0 ≤ fQ c ∧ fQ c ≤ 200) (hE : ∀ c d : Int, 0 ≤ c → c < ec → 1 ≤ d → d ≤ ed → -60 ≤ fE c d ∧ fE c d ≤ 60) (hyb : 0 ≤ yb ∧ yb ≤ 23040000) (hyv : ¬ yb = 0 → dBd ed fO yw fY) : zzMet l yX1_tryProof cX1_tryProof 2 none rm_X1_tryProof z [.ref gh] ((wBC z gh gcv yh gpw gbw gnc yh2 eh bh fPW fBW) ++ (wPrf z yh ya yb yw fY) ++ (wPrf z yh2 ya2 yb2 yw2 fY2) ++ (wEq z eh eo ep ew eR ed eb ec fE fQ fO) ++ (wBas z bh bc bo bR ed bd fC fM)) (po_X1_tryProof z gh gcv gpw gbw gnc fPW fBW yh ya yb yw fY yh2 ya2 yb2 yw2 fY2 eh eo ep ew eR ed eb ec fE fQ fO bh bc bo bR bd fC fM) := by
  refine zzMet.of (own := RX1) (ls0 := [(0, .ref gh)]) (by decide) rfl (Nat.le_of_ble_eq_true rfl) rfl ?_
  intro p e s m below meth c A C hr hnm
  refine zz_aload_n C 0 dX1_tryProof_0 rfl rfl ?_
  refine zz_get C 0 (ci := 1) (k := 5) rfl rfl in_X1 (by decide) qw_188 rfl rfl dX1_tryProof_1 ?_
  refine zz_aload_n C 0 dX1_tryProof_4 rfl rfl ?_
  refine zz_get C 0 (ci := 1) (k := 6) rfl rfl in_X1 (by decide) qw_189 rfl rfl dX1_tryProof_5 ?_
  refine zz_aload_n C 0 dX1_tryProof_8 rfl rfl ?_
  refine zz_get C 0 (ci := 1) (k := 7) rfl rfl in_X1 (by decide) qw_190 rfl rfl dX1_tryProof_9 ?_
  refine zz_callV (wr := (wBC z gh gcv yh gpw gbw gnc yh2 eh bh fPW fBW) ++ (wPrf z yh ya yb yw fY)) (st := []) C (cc_X7_readOff l z yh2 ya2 yb2 yw2 fY2 eh eo ep ew eR ed eb ec fE fQ fO bh bc bo bR bd fC fM (by omega) (by omega) (by omega) (by omega) (by omega) (by omega) (by omega)) yk_X7_readOff qw_701 ⟨by decide, by decide⟩ [5, 6, 7, 8, 9, 10, 11, 12, 13, 14, 15, 16, 17, 18, 19, 20, 21, 22, 23, 24, 25, 26, 27] [0, 1, 2, 3, 4] rfl rfl rfl rfl (by decide) 0 7 rfl rfl rfl rfl (Nat.le_of_ble_eq_true rfl) dX1_tryProof_12 ⟨by decide, by decide⟩ ?_
  rintro _ _ ⟨q_12, gw_12, gY_12, hq_12, rfl, rfl⟩
  refine zz_st (st' := [.int (iI q_12)]) rfl (zz_ws (ws' := (wBC z gh gcv yh gpw gbw gnc yh2 eh bh fPW fBW) ++ (wPrf z yh ya yb yw fY) ++ (wPrf z yh2 ya2 bd gw_12 gY_12) ++ (wEq z eh eo ep ew eR ed eb ec fE fQ fO) ++ (wBas z bh bc bo bR ed bd fC fM)) rfl ?_)
  refine zz_if_eq (tgt := 57) C dX1_tryProof_15 (by decide) (by unfold rI; omega) (fun c15 => ?_) (fun c15 => ?_)
  · skip
    have hno9 := (hq_12.resolve_left (fun h => by omega)).2
    exact zz_vret C hr dX1_tryProof_57 ⟨yh, ya, yb, yw, fY, yh2, ya2, bd, gw_12, gY_12, by first | exact Or.inl ⟨hno9, rfl, rfl, rfl⟩ | exact Or.inr ⟨_, _, hcd9, hcb9, Or.inl ⟨hy41, rfl, rfl, rfl⟩⟩ | exact Or.inr ⟨_, _, hcd9, hcb9, Or.inr ⟨hn41, rfl, rfl, rfl⟩⟩, rfl, rfl⟩
  · skip
    obtain ⟨hcd9, hcb9⟩ := (hq_12.resolve_right (fun h => by omega)).2
    clear hq_12
    refine zz_aload_n C 0 dX1_tryProof_18 rfl rfl ?_
    refine zz_get C 0 (ci := 1) (k := 5) rfl rfl in_X1 (by decide) qw_188 rfl rfl dX1_tryProof_19 ?_
    refine zz_aload_n C 0 dX1_tryProof_22 rfl rfl ?_
    refine zz_get C 0 (ci := 1) (k := 1) rfl rfl in_X1 (by decide) qw_181 rfl rfl dX1_tryProof_23 ?_
    refine zz_aload_n C 0 dX1_tryProof_26 rfl rfl ?_
    refine zz_get C 0 (ci := 1) (k := 6) rfl rfl in_X1 (by decide) qw_189 rfl rfl dX1_tryProof_27 ?_
    refine zz_get C 7 (ci := 3) (k := 0) rfl rfl in_X3 (by decide) qw_123 rfl rfl dX1_tryProof_30 ?_
    refine zz_callV (wr := (wBC z gh gcv yh gpw gbw gnc yh2 eh bh fPW fBW) ++ (wEq z eh eo ep ew eR ed eb ec fE fQ fO) ++ (wBas z bh bc bo bR ed bd fC fM)) (st := []) C (cc_X7_isBetterThan l z yh2 ya2 bd gw_12 gY_12 yh ya yb yw fY ed (by omega) hinv.1 (by omega) hcb9.2.1 (fun q => (hyv q).2.1) hcb9.2.2 (fun q => (hyv q).2.2)) yk_X7_isBetterThan qw_710 ⟨by decide, by decide⟩ [5, 6, 3, 4] [0, 1, 2, 7, 8, 9, 10, 11, 12, 13, 14, 15, 16, 17, 18, 19, 20, 21, 22, 23, 24, 25, 26, 27] rfl rfl rfl rfl (by decide) 0 7 rfl rfl rfl rfl (Nat.le_of_ble_eq_true rfl) dX1_tryProof_33 ⟨by decide, by decide⟩ ?_
    rintro _ _ ⟨q_33, hq_33, rfl, rfl⟩
    refine zz_st (st' := [.int (iI q_33)]) rfl (zz_ws (ws' := (wBC z gh gcv yh gpw gbw gnc yh2 eh bh fPW fBW) ++ (wEq z eh eo ep ew eR ed eb ec fE fQ fO) ++ (wBas z bh bc bo bR ed bd fC fM) ++ (wPrf z yh2 ya2 bd gw_12 gY_12) ++ (wPrf z yh ya yb yw fY)) rfl ?_)
    refine zz_if_eq (tgt := 57) C dX1_tryProof_36 (by decide) (by unfold rI; omega) (fun c36 => ?_) (fun c36 => ?_)
    · skip
      have hn41 := (hq_33.resolve_left (fun h => by omega)).2
      refine zz_sub (ws' := (wBC z gh gcv yh gpw gbw gnc yh2 eh bh fPW fBW) ++ (wPrf z yh ya yb yw fY) ++ (wPrf z yh2 ya2 bd gw_12 gY_12) ++ (wEq z eh eo ep ew eR ed eb ec fE fQ fO) ++ (wBas z bh bc bo bR ed bd fC fM)) [0, 1, 2, 26, 27, 24, 25, 3, 4, 5, 6, 7, 8, 9, 10, 11, 12, 13, 14, 15, 16, 17, 18, 19, 20, 21, 22, 23] rfl rfl ?_
      exact zz_vret C hr dX1_tryProof_57 ⟨yh, ya, yb, yw, fY, yh2, ya2, bd, gw_12, gY_12, by first | exact Or.inl ⟨hno9, rfl, rfl, rfl⟩ | exact Or.inr ⟨_, _, hcd9, hcb9, Or.inl ⟨hy41, rfl, rfl, rfl⟩⟩ | exact Or.inr ⟨_, _, hcd9, hcb9, Or.inr ⟨hn41, rfl, rfl, rfl⟩⟩, rfl, rfl⟩
    · skip
      have hy41 := (hq_33.resolve_right (fun h => by omega)).2
      refine zz_aload_n C 0 dX1_tryProof_39 rfl rfl ?_
      refine zz_get C 0 (ci := 1) (k := 1) rfl rfl in_X1 (by decide) qw_181 rfl rfl dX1_tryProof_40 ?_
      refine zz_astore_n (ls' := [(1, .ref yh), (0, .ref gh)]) C dX1_tryProof_43 rfl (by decide) rfl ?_
      refine zz_aload_n C 1 dX1_tryProof_44 rfl rfl ?_
      refine zz_aload_n C 1 dX1_tryProof_45 rfl rfl ?_
      refine zz_get C 0 (ci := 1) (k := 5) rfl rfl in_X1 (by decide) qw_188 rfl rfl dX1_tryProof_46 ?_
      refine zz_put (ty := .object "LiabilityMatcher$Proof") (ws' := (wBC z gh gcv yh2 gpw gbw gnc yh2 eh bh fPW fBW) ++ (wEq z eh eo ep ew eR ed eb ec fE fQ fO) ++ (wBas z bh bc bo bR ed bd fC fM) ++ (wPrf z yh2 ya2 bd gw_12 gY_12) ++ (wPrf z yh ya yb yw fY)) C 0 (ci := 1) (k := 1) rfl rfl in_X1 tyX1 tyX1_ok nmX1 (by decide) qw_181 rfl rfl (by decide +kernel) rfl rfl (Nat.le_of_ble_eq_true rfl) rfl dX1_tryProof_49 ?_
      refine zz_aload_n C 1 dX1_tryProof_52 rfl rfl ?_
      refine zz_aload_n C 0 dX1_tryProof_53 rfl rfl ?_
      refine zz_put (ty := .object "LiabilityMatcher$Proof") (ws' := (wBC z gh gcv yh2 gpw gbw gnc yh eh bh fPW fBW) ++ (wEq z eh eo ep ew eR ed eb ec fE fQ fO) ++ (wBas z bh bc bo bR ed bd fC fM) ++ (wPrf z yh2 ya2 bd gw_12 gY_12) ++ (wPrf z yh ya yb yw fY)) C 0 (ci := 1) (k := 5) rfl rfl in_X1 tyX1 tyX1_ok nmX1 (by decide) qw_188 rfl rfl (by decide +kernel) rfl rfl (Nat.le_of_ble_eq_true rfl) rfl dX1_tryProof_54 ?_
      refine zz_sub (ws' := (wBC z gh gcv yh2 gpw gbw gnc yh eh bh fPW fBW) ++ (wPrf z yh2 ya2 bd gw_12 gY_12) ++ (wPrf z yh ya yb yw fY) ++ (wEq z eh eo ep ew eR ed eb ec fE fQ fO) ++ (wBas z bh bc bo bR ed bd fC fM)) [0, 1, 2, 24, 25, 26, 27, 3, 4, 5, 6, 7, 8, 9, 10, 11, 12, 13, 14, 15, 16, 17, 18, 19, 20, 21, 22, 23] rfl rfl ?_
      exact zz_vret C hr dX1_tryProof_57 ⟨yh2, ya2, bd, gw_12, gY_12, yh, ya, yb, yw, fY, by first | exact Or.inl ⟨hno9, rfl, rfl, rfl⟩ | exact Or.inr ⟨_, _, hcd9, hcb9, Or.inl ⟨hy41, rfl, rfl, rfl⟩⟩ | exact Or.inr ⟨_, _, hcd9, hcb9, Or.inr ⟨hn41, rfl, rfl, rfl⟩⟩, rfl, rfl⟩
abbrev po_X1_excessOf (z : zC) (gh : Nat) (gcv : Nat) (gpw : Nat) (gbw : Nat) (gnc : Nat) (gnp : Nat) (gbs : Nat) (fPW : Int → Int) (fBW : Int → Int) (yh : Nat) (ya : Nat) (yb : Int) (yw : Int) (fY : Int → Int) (eh : Nat) (eo : Nat) (ep : Nat) (ew : Nat) (eR : Int → Nat) (ed : Int) (eb : Int) (ec : Int) (fE : Int → Int → Int) (fQ : Int → Int) (fO : Int → Int) (b8 : Int) : Option Value → va_W → Prop := fun v w => v = some (Value.long (iL (fQ b8 * yb - dsum ed fE fY b8))) ∧ w = (wBC z gh gcv yh gpw gbw gnc gnp eh gbs fPW fBW) ++ (wPrf z yh ya yb yw fY) ++ (wEq z eh eo ep ew eR ed eb ec fE fQ fO)
abbrev rm_X1_excessOf : Room := { frames := 2, cells := 0, slots := 0, locals := 65 }
set_option maxHeartbeats 4000000 in
set_option maxRecDepth 100000 in
theorem cc_X1_excessOf (l : Launch) (z : zC) (gh : Nat) (gcv : Nat) (gpw : Nat) (gbw : Nat) (gnc : Nat) (gnp : Nat) (gbs : Nat) (fPW : Int → Int) (fBW : Int → Int) (yh : Nat) (ya : Nat) (yb : Int) (yw : Int) (fY : Int → Int) (eh : Nat) (eo : Nat) (ep : Nat) (ew : Nat) (eR : Int → Nat) (ed : Int) (eb : Int) (ec : Int) (fE : Int → Int → Int) (fQ : Int → Int) (fO : Int → Int) (b8 : Int) (hed : 1 ≤ ed ∧ ed ≤ 4) (hb8 : 0 ≤ b8 ∧ b8 < 10) : zzMet l yX1_excessOf cX1_excessOf 2 (Option.some .long) rm_X1_excessOf z [.ref gh, .int (iI b8)] ((wBC z gh gcv yh gpw gbw gnc gnp eh gbs fPW fBW) ++ (wPrf z yh ya yb yw fY) ++ (wEq z eh eo ep ew eR ed eb ec fE fQ fO)) (po_X1_excessOf z gh gcv gpw gbw gnc gnp gbs fPW fBW yh ya yb yw fY eh eo ep ew eR ed eb ec fE fQ fO b8) := by
  refine zzMet.of (own := RX1) (ls0 := [(0, .ref gh), (1, .int (iI b8))]) (by decide) rfl (Nat.le_of_ble_eq_true rfl) rfl ?_
  intro p e s m below meth c A C hr hnm
  refine zz_aload_n C 0 dX1_excessOf_0 rfl rfl ?_
  refine zz_get C 0 (ci := 1) (k := 1) rfl rfl in_X1 (by decide) qw_181 rfl rfl dX1_excessOf_1 ?_
  refine zz_aload_n C 0 dX1_excessOf_4 rfl rfl ?_
  refine zz_get C 0 (ci := 1) (k := 6) rfl rfl in_X1 (by decide) qw_189 rfl rfl dX1_excessOf_5 ?_
  refine zz_iload_n C 1 dX1_excessOf_8 rfl rfl ?_
  refine zz_callV (wr := wBC z gh gcv yh gpw gbw gnc gnp eh gbs fPW fBW) (st := []) C (cc_X7_excess l z yh ya yb yw fY eh eo ep ew eR ed eb ec fE fQ fO b8 (by omega) (by omega)) yk_X7_excess qw_743 ⟨by decide, by decide⟩ [3, 4, 5, 6, 7, 8, 9, 10, 11, 12, 13, 14, 15, 16, 17, 18] [0, 1, 2] rfl rfl rfl rfl (by decide) 0 7 rfl rfl rfl rfl (Nat.le_of_ble_eq_true rfl) dX1_excessOf_9 ⟨by decide, by decide⟩ ?_
  rintro _ _ ⟨rfl, rfl⟩
  refine zz_st (st' := [.long (iL (fQ b8 * yb - dsum ed fE fY b8))]) rfl (zz_ws (ws' := (wBC z gh gcv yh gpw gbw gnc gnp eh gbs fPW fBW) ++ (wPrf z yh ya yb yw fY) ++ (wEq z eh eo ep ew eR ed eb ec fE fQ fO)) rfl ?_)
  exact zz_lret C hr dX1_excessOf_12 ⟨zz_vL rfl, rfl⟩
