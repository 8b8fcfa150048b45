theorem cand_out {T B n b D : Int} {E : Int → Int → Int} {O g G V : Int → Int} (h1 : 1 ≤ T) (h4 : T ≤ 4) (hn : n = B + T + 1) (hb : 0 ≤ b ∧ b < B) (hE : stdE T B E G) (h : cand T n E O g D V) (hV : V b = 0) : ∃ g', cand T n E O g' D V ∧ ∀ i : Int, 0 ≤ i → i < T → ¬ g' i = b := by
  by_cases q : ∃ i : Int, 0 ≤ i ∧ i < T ∧ g i = b
  · obtain ⟨i, i0, i1, e⟩ := q
    obtain ⟨s, s0, s1, hd⟩ := exch h1 h4 hE h.2.1 i0 i1
    have hj := dB_inj h4 h.2.1
    refine ⟨zup g i (B + s), ⟨fun k k0 k1 => ?_, hd, h.2.2.1, fun c c0 c1 z => ?_⟩, fun k k0 k1 w => ?_⟩
    · by_cases a : k = i
      · rw [a, zup_eq]; omega
      · rw [zup_ne a]; exact h.1 k k0 k1
    · obtain ⟨k, k0, k1, e'⟩ := h.2.2.2 c c0 c1 z
      have : ¬ k = i := fun a => z (by rw [← e', a, e]; exact hV)
      exact ⟨k, k0, k1, by rw [zup_ne this]; exact e'⟩
    · by_cases a : k = i
      · rw [a, zup_eq] at w; omega
      · rw [zup_ne a] at w
        exact a (hj k i k0 k1 i0 i1 (w.trans e.symm))
  · exact ⟨g, h, fun i i0 i1 e => q ⟨i, i0, i1, e⟩⟩
theorem grw_pos {G : Int → Int} {T : Int} (hG : ∀ r : Int, 1 ≤ r → r ≤ T → 1 ≤ G r) {t : Int} (t0 : 0 ≤ t) (t1 : t ≤ T) : 1 ≤ grw G 0 t := by
  have key : ∀ m : Nat, (m : Int) ≤ T → 1 ≤ grw G 0 (m : Int) := by
    intro m
    induction m with
    | zero => intro _; show (1 : Int) ≤ 1; omega
    | succ m ih =>
      intro hm
      rw [show ((m + 1 : Nat) : Int) = (m : Int) + 1 by omega, grw_succ _ (by omega)]
      have a := ih (by omega)
      have b := hG ((m : Int) + 1) (by omega) (by omega)
      have := Int.mul_le_mul a b (by omega) (by omega)
      omega
  have := key t.toNat (by omega)
  rwa [Int.toNat_of_nonneg t0] at this
theorem bal_neg {G O : Int → Int} {T : Int} (hG : ∀ r : Int, 1 ≤ r → r ≤ T → 1 ≤ G r) (hO : ∀ r : Int, 1 ≤ r → r ≤ T → 0 ≤ O r) {t : Int} (t0 : 0 ≤ t) (t1 : t ≤ T) : bal 0 G (fun r => -O r) t ≤ 0 := by
  have key : ∀ m : Nat, (m : Int) ≤ T → bal 0 G (fun r => -O r) (m : Int) ≤ 0 := by
    intro m
    induction m with
    | zero => intro _; show (0 : Int) ≤ 0; omega
    | succ m ih =>
      intro hm
      rw [show ((m + 1 : Nat) : Int) = (m : Int) + 1 by omega, bal_succ _ _ _ (by omega)]
      have a := ih (by omega)
      have b := hG ((m : Int) + 1) (by omega) (by omega)
      have c := hO ((m : Int) + 1) (by omega) (by omega)
      have p : 0 ≤ p20 ((m : Int) + 1) := by unfold p20; exact Int.le_of_lt (Int.pow_pos (by omega))
      have e1 := Int.mul_nonneg (show 0 ≤ -bal 0 G (fun r => -O r) m by omega) (show 0 ≤ G ((m : Int) + 1) by omega)
      have e2 := Int.mul_nonneg p c
      rw [Int.neg_mul] at e1
      show bal 0 G (fun r => -O r) m * G ((m : Int) + 1) + p20 ((m : Int) + 1) * -O ((m : Int) + 1) ≤ 0
      rw [Int.mul_neg]
      omega
  have := key t.toNat (by omega)
  rwa [Int.toNat_of_nonneg t0] at this
theorem frac_min {b A : Int → Int} : ∀ T : Nat, (∀ s : Int, 1 ≤ s → s ≤ (T : Int) + 1 → 1 ≤ A s) → ∃ t : Int, 1 ≤ t ∧ t ≤ (T : Int) + 1 ∧ ∀ s : Int, 1 ≤ s → s ≤ (T : Int) + 1 → b t * A s ≤ b s * A t
  | 0, _ => ⟨1, by omega, by omega, fun s a c => by rw [show s = 1 by omega]; omega⟩
  | T + 1, hA => by
    obtain ⟨t, t0, t1, h⟩ := frac_min (b := b) (A := A) T (fun s a c => hA s a (by omega))
    have at' := hA t t0 (by omega)
    have an := hA ((T : Int) + 2) (by omega) (by omega)
    by_cases q : b t * A ((T : Int) + 2) ≤ b ((T : Int) + 2) * A t
    · refine ⟨t, t0, by omega, fun s a c => ?_⟩
      by_cases e : s = (T : Int) + 2
      · rw [e]; exact q
      · exact h s a (by omega)
    · refine ⟨(T : Int) + 2, by omega, by omega, fun s a c => ?_⟩
      by_cases e : s = (T : Int) + 2
      · rw [e]; omega
      · have := h s a (by omega)
        exact Int.le_of_lt (xlt_trans (a := b ((T : Int) + 2)) (D := A ((T : Int) + 2)) (b := b t) (E := A t) (c := b s) (F := A s) (by omega) (by omega) (by have := hA s a (by omega); omega) (by omega) this (Or.inl (by omega)))
theorem p20_add {a b : Int} (ha : 0 ≤ a) (hb : 0 ≤ b) : p20 a * p20 b = p20 (a + b) := by
  unfold p20
  rw [← Int.pow_add]
  congr 1
  omega
/-- there is a cover without any bond -/
theorem cand_ex {T B n : Int} {E : Int → Int → Int} {O G : Int → Int} (h1 : 1 ≤ T) (h4 : T ≤ 4) (hB : 0 ≤ B) (hn : n = B + T + 1) (hE : stdE T B E G) (hG : ∀ r : Int, 1 ≤ r → r ≤ T → 1 ≤ G r) (hO : ∀ r : Int, 1 ≤ r → r ≤ T → 0 ≤ O r) : ∃ g D V, cand T n E O g D V ∧ (∀ i : Int, 0 ≤ i → i < T → B ≤ g i) ∧ ∀ c : Int, 0 ≤ c → c < B → V c = 0 := by
  obtain ⟨t, t0, t1, ht⟩ := frac_min (b := bal 0 G (fun r => -O r)) (A := grw G 0) (T - 1).toNat (fun s a c => grw_pos hG (by omega) (by omega))
  rw [show (((T - 1).toNat : Nat) : Int) + 1 = T by omega] at t1 ht
  have at1 := grw_pos hG (t := t) (by omega) t1
  have bt := bal_neg hG hO (t := t) (by omega) t1
  have hpp : ∀ k : Int, 0 < p20 k := fun k => by unfold p20; exact Int.pow_pos (by omega)
  generalize hbd : bal 0 G (fun r => -O r) = b at *
  refine ⟨gAll B t, grw G 0 t * p20 (T + 1), fun c => if c < B then 0 else p20 (T - (c - B)) * (b (c - B) * grw G 0 t - grw G 0 (c - B) * b t), ⟨fun i i0 i1 => ?_, gAll_dB h1 h4 hE hG (by omega) t1, ⟨Int.mul_pos (by omega) (hpp _), fun c c0 c1 => ?_, fun r r0 r1 => ?_⟩, fun c c0 c1 z => ?_⟩, fun i i0 i1 => ?_, fun c c0 c1 => if_pos c1⟩
  · unfold gAll; split <;> omega
  · show 0 ≤ if c < B then 0 else _
    split
    · omega
    · refine Int.mul_nonneg (Int.le_of_lt (hpp _)) ?_
      by_cases e : c - B = 0
      · rw [e, grw_self]
        have : b 0 = 0 := by rw [← hbd]; rfl
        rw [this]; omega
      · have := ht (c - B) (by omega) (by omega)
        rw [Int.mul_comm (grw G 0 (c - B))]
        omega
  · subst hn
    rw [eq_std hB h1 hE r0 r1, zsum_zero (fun i i0 i1 => by show E i r * (if i < B then 0 else _) = 0; rw [if_pos i1, Int.mul_zero])]
    rw [if_neg (by omega), if_neg (by omega), show B + r - 1 - B = r - 1 by omega, show B + r - B = r by omega]
    have e1 := bal_succ 0 G (fun r => -O r) (k := r - 1) (by omega)
    have e2 := grw_succ G (a := 0) (b := r - 1) (by omega)
    rw [show r - 1 + 1 = r by omega, hbd] at e1
    rw [show r - 1 + 1 = r by omega] at e2
    have e3 : p20 (T - (r - 1)) = p20 (T - r) * 20 := by rw [show T - (r - 1) = T - r + 1 by omega, p20_succ (by omega)]
    have e4 : p20 (T - r) * p20 r * 20 = p20 (T + 1) := by rw [p20_add (by omega) (by omega), show T - r + r = T by omega, ← p20_succ (by omega)]
    rw [e3, e1, e2, ← e4]
    show 0 + (G r * (p20 (T - r) * 20 * (b (r - 1) * grw G 0 t - grw G 0 (r - 1) * b t)) - 20 * (p20 (T - r) * ((b (r - 1) * G r + p20 r * -O r) * grw G 0 t - grw G 0 (r - 1) * G r * b t))) = grw G 0 t * (p20 (T - r) * p20 r * 20) * O r
    generalize p20 (T - r) = x1
    generalize p20 r = x2
    generalize b (r - 1) = x3
    generalize grw G 0 (r - 1) = x4
    generalize grw G 0 t = x5
    generalize b t = x6
    generalize O r = x7
    generalize G r = x8
    grind
  · by_cases q : c < B
    · exact absurd (if_pos q) z
    · have z' : ¬ c - B = t := fun e => z (by show (if c < B then 0 else p20 (T - (c - B)) * (b (c - B) * grw G 0 t - grw G 0 (c - B) * b t)) = 0; rw [if_neg q, e, Int.mul_comm (grw G 0 t)]; rw [Int.sub_self, Int.mul_zero])
      by_cases w : c - B < t
      · exact ⟨c - B, by omega, by omega, by unfold gAll; rw [if_pos w]; omega⟩
      · exact ⟨c - B - 1, by omega, by omega, by unfold gAll; rw [if_neg (by omega)]; omega⟩
  · unfold gAll; split <;> omega
theorem dcand_ex {T B n : Int} {E : Int → Int → Int} {P G : Int → Int} (h1 : 1 ≤ T) (h4 : T ≤ 4) (hB : 0 ≤ B) (hn : n = B + T + 1) (hE : stdE T B E G) (hG : ∀ r : Int, 1 ≤ r → r ≤ T → 1 ≤ G r) (hP : ∀ c : Int, 0 ≤ c → c < n → 0 ≤ P c) (hz : ∀ s : Int, 1 ≤ s → s ≤ T → P (B + s) = 0) : dcand T n E P (gAll B 0) 1 (fun _ => 0) := by
  have e : ∀ c : Int, dsum T E (fun _ => 0) c = 0 := fun c => zsum_zero (fun j _ _ => by show (0 : Int) * _ = 0; omega)
  refine ⟨fun i i0 i1 => ?_, gAll_dB h1 h4 hE hG (by omega) (by omega), by omega, fun i i0 i1 => ?_, fun c c0 c1 => ?_⟩
  · unfold gAll; split <;> omega
  · rw [e]
    unfold gAll
    rw [if_neg (by omega), show B + i + 1 = B + (i + 1) by omega, hz (i + 1) (by omega) (by omega)]
    omega
  · rw [e]
    have := hP c c0 c1
    omega
/-- the keys of a cover, of multipliers -/
def cKey (n : Int) (P : Int → Int) (V : Int → Int) : Int → Int := fun i => if i = 0 then zsum (fun c => P c * V c) n else V (i - 1)
def dKey (T : Int) (O : Int → Int) (Y : Int → Int) : Int → Int := fun i => if i = 0 then -zsum (fun j => Y (j + 1) * O (j + 1)) T else Y i
theorem cKey_x {T n D D' : Int} {E : Int → Int → Int} {O P g V V' : Int → Int} {m : Int} (h1 : 1 ≤ T) (h4 : T ≤ 4) (h : cand T n E O g D V) (h' : cand T n E O g D' V') (hm : m ≤ n + 1) : ∀ i : Int, 0 ≤ i → i < m → cKey n P V' i * D = cKey n P V i * D' := by
  have k := cand_uniq h1 h4 h' h
  intro i i0 i1
  unfold cKey
  split
  · rw [← zsum_mulr, ← zsum_mulr]
    refine zsum_congr (fun c c0 c1 => ?_)
    show P c * V' c * D = P c * V c * D'
    rw [Int.mul_assoc, k c c0 c1, Int.mul_assoc]
  · exact k (i - 1) (by omega) (by omega)
theorem dKey_x {T n D D' : Int} {E : Int → Int → Int} {O P g Y Y' : Int → Int} (h1 : 1 ≤ T) (h4 : T ≤ 4) (h : dcand T n E P g D Y) (h' : dcand T n E P g D' Y') : ∀ i : Int, 0 ≤ i → i < T + 1 → dKey T O Y' i * D = dKey T O Y i * D' := by
  have k := dcand_uniq h1 h4 ⟨h'.1, h'.2.1, h'.2.2.1, h'.2.2.2.1⟩ h
  intro i i0 i1
  unfold dKey
  split
  · rw [Int.neg_mul, Int.neg_mul, ← zsum_mulr, ← zsum_mulr]
    congr 1
    refine zsum_congr (fun j j0 j1 => ?_)
    show Y' (j + 1) * O (j + 1) * D = Y (j + 1) * O (j + 1) * D'
    rw [Int.mul_right_comm, k (j + 1) (by omega) (by omega), Int.mul_right_comm]
  · exact k i (by omega) (by omega)
theorem dcand_same {T n D : Int} {E : Int → Int → Int} {P g g' Y : Int → Int} (h : dcand T n E P g D Y) (hs : sameB T g g') (hd : ¬ dB T E g' = 0) : dcand T n E P g' D Y := by
  refine ⟨fun i i0 i1 => ?_, hd, h.2.2.1, fun i i0 i1 => ?_, h.2.2.2.2⟩
  · obtain ⟨j, a, b, e⟩ := hs.2 i i0 i1
    rw [← e]; exact h.1 j a b
  · obtain ⟨j, a, b, e⟩ := hs.2 i i0 i1
    rw [← e]; exact h.2.2.2.1 j a b
theorem dcand_congr {T n D : Int} {E : Int → Int → Int} {P g g' Y : Int → Int} (h : ∀ i : Int, 0 ≤ i → i < T → g i = g' i) (hc : dcand T n E P g D Y) : dcand T n E P g' D Y :=
  ⟨fun i a b => by rw [← h i a b]; exact hc.1 i a b, by rw [← dB_congr h]; exact hc.2.1, hc.2.2.1, fun i a b => by rw [← h i a b]; exact hc.2.2.2.1 i a b, hc.2.2.2.2⟩
/-- the masks that were looked at -/
def qMsk (T n M : Int) : (Int → Int) → Prop := fun g => inB T n g ∧ ∃ m : Int, 0 ≤ m ∧ m < M ∧ isMsk T n m g
theorem qMsk_0 (T n : Int) (g : Int → Int) : ¬ qMsk T n 0 g := by rintro ⟨-, m, a, b, -⟩; omega
theorem qMsk_no {T n M : Int} {g : Int → Int} (h : qMsk T n (M + 1) g) (hc : ¬ cntB M n = T) : qMsk T n M g := by
  obtain ⟨h0, m, a, b, c⟩ := h
  refine ⟨h0, m, a, ?_, c⟩
  by_cases e : m = M
  · exact absurd (e ▸ c.1) hc
  · omega
theorem qMsk_step {T n M : Int} {g gC : Int → Int} (h : qMsk T n (M + 1) g) (hC : ∀ c9 : Int, 0 ≤ c9 → c9 < n → bitZ M c9 = 1 → gC (cntB M c9) = c9) : qMsk T n M g ∨ ∀ i : Int, 0 ≤ i → i < T → g i = gC i := by
  obtain ⟨h0, m, a, b, c⟩ := h
  by_cases e : m = M
  · subst e
    exact Or.inr (isMsk_eq c h0 hC)
  · exact Or.inl ⟨h0, m, a, by omega, c⟩
theorem opt_all {T n D : Int} {E : Int → Int → Int} {O : Int → Int} {m : Int} {key : (Int → Int) → Int → Int} {V : Int → Int} (h1 : 1 ≤ T) (h4 : T ≤ 4) (hn : 0 ≤ n) (h : opt (qMsk T n (2 ^ n.toNat)) (cand T n E O) m key D V) : opt (fun _ => True) (cand T n E O) m key D V := by
  have k : ∀ g D' V', cand T n E O g D' V' → ∃ g', qMsk T n (2 ^ n.toNat) g' ∧ cand T n E O g' D' V' := fun g D' V' c => by
    obtain ⟨g', a, b, s⟩ := dB_srt h1 h4 c.2.1
    have c' := cand_same c b a
    obtain ⟨m, m0, m1, m2⟩ := srt_msk h1 h4 hn c'.1 s
    exact ⟨g', ⟨c'.1, m, m0, m1, m2⟩, c'⟩
  rcases h with ⟨a, b⟩ | ⟨a, b, c⟩
  · exact Or.inl ⟨a, fun g D' V' _ q => by obtain ⟨g', x, y⟩ := k g D' V' q; exact b g' D' V' x y⟩
  · exact Or.inr ⟨a, b, fun g D' V' _ q => by obtain ⟨g', x, y⟩ := k g D' V' q; exact c g' D' V' x y⟩
theorem opt_allD {T n D : Int} {E : Int → Int → Int} {P : Int → Int} {m : Int} {key : (Int → Int) → Int → Int} {V : Int → Int} (h1 : 1 ≤ T) (h4 : T ≤ 4) (hn : 0 ≤ n) (h : opt (qMsk T n (2 ^ n.toNat)) (dcand T n E P) m key D V) : opt (fun _ => True) (dcand T n E P) m key D V := by
  have k : ∀ g D' V', dcand T n E P g D' V' → ∃ g', qMsk T n (2 ^ n.toNat) g' ∧ dcand T n E P g' D' V' := fun g D' V' c => by
    obtain ⟨g', a, b, s⟩ := dB_srt h1 h4 c.2.1
    have c' := dcand_same c b a
    obtain ⟨m, m0, m1, m2⟩ := srt_msk h1 h4 hn c'.1 s
    exact ⟨g', ⟨c'.1, m, m0, m1, m2⟩, c'⟩
  rcases h with ⟨a, b⟩ | ⟨a, b, c⟩
  · exact Or.inl ⟨a, fun g D' V' _ q => by obtain ⟨g', x, y⟩ := k g D' V' q; exact b g' D' V' x y⟩
  · exact Or.inr ⟨a, b, fun g D' V' _ q => by obtain ⟨g', x, y⟩ := k g D' V' q; exact c g' D' V' x y⟩
theorem opt_found {C : (Int → Int) → Int → (Int → Int) → Prop} {m D D' : Int} {key : (Int → Int) → Int → Int} {V V' g : Int → Int} (h : opt (fun _ => True) C m key D V) (he : C g D' V') : 0 < D ∧ (∃ g, C g D V) ∧ ∀ g D' V', C g D' V' → ¬ lexLt m D' (key V') D (key V) := by
  rcases h with ⟨a, b⟩ | ⟨a, b, c⟩
  · exact absurd he (b g D' V' trivial)
  · exact ⟨a, b, fun g D' V' q => c g D' V' trivial q⟩
