def bAt (f : Int → Int) (n p : Int) : Int := if 0 ≤ p ∧ p < n then f p else -1
theorem bAt_in {f : Int → Int} {n p : Int} (h : 0 ≤ p ∧ p < n) : bAt f n p = f p := if_pos h
theorem bAt_out {f : Int → Int} {n p : Int} (h : ¬ (0 ≤ p ∧ p < n)) : bAt f n p = -1 := if_neg h
theorem bAt_rng {f : Int → Int} (hb : ∀ i : Int, 0 ≤ f i ∧ f i < 256) (n p : Int) : -1 ≤ bAt f n p ∧ bAt f n p < 256 := by
  unfold bAt
  have := hb p
  split <;> omega
theorem run_step {P : Int → Bool} {f : Int → Int} {a g : Int} (h : ∀ i : Int, a ≤ i → i < g → P (f i) = true) (hg : P (f g) = true) : ∀ i : Int, a ≤ i → i < g + 1 → P (f i) = true := fun i i0 i1 => by
  by_cases e : i = g
  · rw [e]; exact hg
  · exact h i i0 (by omega)
def tokR (f : Int → Int) (n p k e : Int) : Prop := (¬ p < n ∧ k = 0 ∧ e = p) ∨ (p < n ∧ ltr (f p) = true ∧ k = 1 ∧ e = rn ltr f n p) ∨ (p < n ∧ dgt (f p) = true ∧ e = rn dgt f n p ∧ k = if e - p ≤ 4 then 2 else 3) ∨ (p < n ∧ ¬ ltr (f p) = true ∧ ¬ dgt (f p) = true ∧ k = 3 ∧ e = p + 1)
theorem tok_num {f : Int → Int} {n p k e : Int} (h : tokR f n p k e) : (k = 2 ∧ (p < n ∧ dgt (f p) = true ∧ rn dgt f n p - p ≤ 4) ∧ e = rn dgt f n p) ∨ (k ≠ 2 ∧ ¬ (p < n ∧ dgt (f p) = true ∧ rn dgt f n p - p ≤ 4)) := by
  rcases h with ⟨a, b, c⟩ | ⟨a, b, c, d⟩ | ⟨a, b, c, d⟩ | ⟨a, b, c, d, g⟩
  · exact Or.inr ⟨by omega, fun q => a q.1⟩
  · exact Or.inr ⟨by omega, fun q => by have x := dgt_iff.mp q.2.1; have y := ltr_iff.mp b; omega⟩
  · by_cases q : e - p ≤ 4
    · rw [if_pos q] at d; exact Or.inl ⟨d, ⟨a, b, by omega⟩, c⟩
    · rw [if_neg q] at d; exact Or.inr ⟨by omega, fun x => by omega⟩
  · exact Or.inr ⟨by omega, fun q => c q.2.1⟩
theorem tok_word {f : Int → Int} {n p k e : Int} (h : tokR f n p k e) (hp : p ≤ n) : (k = 1 ∧ e = rn ltr f n p) ∨ (k ≠ 1 ∧ wkd f p (rn ltr f n p) = -1) := by
  have z : (p = n ∨ ¬ ltr (f p) = true) → wkd f p (rn ltr f n p) = -1 := fun q => by rw [rn_eq (Int.le_refl p) hp (fun i i0 i1 => by omega) q, wkd_same]
  rcases h with ⟨a, b, c⟩ | ⟨a, b, c, d⟩ | ⟨a, b, c, d⟩ | ⟨a, b, c, d, g⟩
  · exact Or.inr ⟨by omega, z (Or.inl (by omega))⟩
  · exact Or.inl ⟨c, d⟩
  · refine Or.inr ⟨by by_cases q : e - p ≤ 4; rw [if_pos q] at d; omega; rw [if_neg q] at d; omega, z (Or.inr (fun q => by have x := ltr_iff.mp q; have y := dgt_iff.mp b; omega))⟩
  · exact Or.inr ⟨by omega, z (Or.inr b)⟩
theorem tok_end {f : Int → Int} {n p k e : Int} (h : tokR f n p k e) : (k = 0 ∧ ¬ p < n) ∨ (k ≠ 0 ∧ p < n) := by
  rcases h with ⟨a, b, c⟩ | ⟨a, b, c, d⟩ | ⟨a, b, c, d⟩ | ⟨a, b, c, d, g⟩
  · exact Or.inl ⟨b, a⟩
  · exact Or.inr ⟨by omega, a⟩
  · exact Or.inr ⟨by by_cases q : e - p ≤ 4; rw [if_pos q] at d; omega; rw [if_neg q] at d; omega, a⟩
  · exact Or.inr ⟨by omega, a⟩
theorem tok_semi {f : Int → Int} {n p k e : Int} (h : tokR f n p k e) (hp : p < n) (h59 : f p = 59) : e = p + 1 := by
  rcases h with ⟨a, b, c⟩ | ⟨a, b, c, d⟩ | ⟨a, b, c, d⟩ | ⟨a, b, c, d, g⟩
  · omega
  · have := ltr_iff.mp b; omega
  · have := dgt_iff.mp b; omega
  · exact g
theorem tok_rng {f : Int → Int} {n p k e : Int} (h : tokR f n p k e) (hp : p ≤ n) : p ≤ e ∧ e ≤ n ∧ (0 ≤ k ∧ k ≤ 3) := by
  have s1 := rn_spec ltr f hp
  have s2 := rn_spec dgt f hp
  rcases h with ⟨a, b, c⟩ | ⟨a, b, c, d⟩ | ⟨a, b, c, d⟩ | ⟨a, b, c, d, g⟩
  · omega
  · omega
  · by_cases q : e - p ≤ 4
    · rw [if_pos q] at d; omega
    · rw [if_neg q] at d; omega
  · omega
theorem wkd_at {f : Int → Int} {p e k : Int} (h0 : 0 ≤ k ∧ k ≤ 4) (hn : ∀ j : Nat, j < k.toNat → ¬ isW f p e j) (hk : isW f p e k.toNat) : wkd f p e = k := by
  unfold wkd
  rcases (show k = 0 ∨ k = 1 ∨ k = 2 ∨ k = 3 ∨ k = 4 by omega) with q | q | q | q | q <;> subst q
  · rw [if_pos (isW0.mp hk)]
  · rw [if_neg (fun h => hn 0 (by decide) (isW0.mpr h)), if_pos (isW1.mp hk)]
  · rw [if_neg (fun h => hn 0 (by decide) (isW0.mpr h)), if_neg (fun h => hn 1 (by decide) (isW1.mpr h)), if_pos (isW2.mp hk)]
  · rw [if_neg (fun h => hn 0 (by decide) (isW0.mpr h)), if_neg (fun h => hn 1 (by decide) (isW1.mpr h)), if_neg (fun h => hn 2 (by decide) (isW2.mpr h)), if_pos (isW3.mp hk)]
  · rw [if_neg (fun h => hn 0 (by decide) (isW0.mpr h)), if_neg (fun h => hn 1 (by decide) (isW1.mpr h)), if_neg (fun h => hn 2 (by decide) (isW2.mpr h)), if_neg (fun h => hn 3 (by decide) (isW3.mpr h)), if_pos (isW4.mp hk)]
theorem wkd_no {f : Int → Int} {p e : Int} (hn : ∀ j : Nat, j < 5 → ¬ isW f p e j) : wkd f p e = -1 := by
  unfold wkd
  rw [if_neg (fun h => hn 0 (by decide) (isW0.mpr h)), if_neg (fun h => hn 1 (by decide) (isW1.mpr h)), if_neg (fun h => hn 2 (by decide) (isW2.mpr h)), if_neg (fun h => hn 3 (by decide) (isW3.mpr h)), if_neg (fun h => hn 4 (by decide) (isW4.mpr h))]
theorem zNUM_all : ∀ k, k < 5 → 1 ≤ zNUMBERS k ∧ zNUMBERS k ≤ 4 := by decide
theorem zNUM_rng {k : Int} (h : 0 ≤ k ∧ k ≤ 4) : 1 ≤ zNUMBERS k.toNat ∧ zNUMBERS k.toNat ≤ 4 := zNUM_all k.toNat (by omega)
theorem zROL_all : ∀ k, k < 20 → -1 ≤ zROLES k ∧ zROLES k ≤ 8 := by decide
theorem zROL_rng {k : Int} (h : 0 ≤ k ∧ k < 20) : -1 ≤ zROLES k.toNat ∧ zROLES k.toNat ≤ 8 := zROL_all k.toNat (by omega)
abbrev po_X8_byteAt (z : zC) (th : Nat) (tb : Nat) (tn : Nat) (tz : Int) (tf : Int) (tk : Int) (ta : Int) (te : Int) (fB : Int → Int) (fN : Int → Int) (p9 : Int) : Option Value → va_W → Prop := fun v w => v = some (Value.int (iI (bAt fB tz p9))) ∧ w = wText z th tb tn tz tf tk ta te fB fN
abbrev rm_X8_byteAt : Room := { frames := 1, cells := 0, slots := 0, locals := 40 }
set_option maxHeartbeats 4000000 in
set_option maxRecDepth 100000 in
theorem cc_X8_byteAt (l : Launch) (z : zC) (th : Nat) (tb : Nat) (tn : Nat) (tz : Int) (tf : Int) (tk : Int) (ta : Int) (te : Int) (fB : Int → Int) (fN : Int → Int) (p9 : Int) (htz : 0 ≤ tz ∧ tz ≤ 300) (hby : ∀ i : Int, 0 ≤ fB i ∧ fB i < 256) (hp9 : -2147483648 ≤ p9 ∧ p9 < 2147483648) : zzMet l yX8_byteAt cX8_byteAt 2 (Option.some .int) rm_X8_byteAt z [.ref th, .int (iI p9)] (wText z th tb tn tz tf tk ta te fB fN) (po_X8_byteAt z th tb tn tz tf tk ta te fB fN p9) := by
  refine zzMet.of (own := RX8) (ls0 := [(0, .ref th), (1, .int (iI p9))]) (by decide) rfl (Nat.le_of_ble_eq_true rfl) rfl ?_
  intro p e s m below meth c A C hr hnm
  refine zz_iload_n C 1 dX8_byteAt_0 rfl rfl ?_
  refine zz_if_lt (tgt := 19) C dX8_byteAt_1 (by decide) (by unfold rI; omega) (fun c1 => ?_) (fun c1 => ?_)
  · skip
    refine zz_iconst C dX8_byteAt_19 ?_
    refine zz_goto (tgt := 33) C dX8_byteAt_20 (by decide) ?_
    exact zz_iret C hr dX8_byteAt_33 ⟨zz_vI (by unfold bAt; first | (exfalso; omega) | rw [if_pos (by omega)] | rw [if_neg (by omega)]), rfl⟩
  · skip
    refine zz_iload_n C 1 dX8_byteAt_4 rfl rfl ?_
    refine zz_aload_n C 0 dX8_byteAt_5 rfl rfl ?_
    refine zz_get C 0 (ci := 8) (k := 0) rfl rfl in_X8 (by decide) qw_38 rfl rfl dX8_byteAt_6 ?_
    refine zz_icmp_ge (tgt := 19) C dX8_byteAt_9 (by decide) (by unfold rI; omega) (by unfold rI; omega) (fun c9 => ?_) (fun c9 => ?_)
    · skip
      refine zz_iconst C dX8_byteAt_19 ?_
      refine zz_goto (tgt := 33) C dX8_byteAt_20 (by decide) ?_
      exact zz_iret C hr dX8_byteAt_33 ⟨zz_vI (by unfold bAt; first | (exfalso; omega) | rw [if_pos (by omega)] | rw [if_neg (by omega)]), rfl⟩
    · skip
      refine zz_iload_n C 1 dX8_byteAt_12 rfl rfl ?_
      refine zz_sipush C dX8_byteAt_13 (by decide +kernel) ?_
      refine zz_icmp_lt (tgt := 23) C dX8_byteAt_16 (by decide) (by unfold rI; omega) (by unfold rI; omega) (fun c16 => ?_) (fun c16 => ?_)
      · skip
        refine zz_aload_n C 0 dX8_byteAt_23 rfl rfl ?_
        refine zz_get C 0 (ci := 8) (k := 2) rfl rfl in_X8 (by decide) qw_42 rfl rfl dX8_byteAt_24 ?_
        refine zz_iload_n C 1 dX8_byteAt_27 rfl rfl ?_
        refine zz_bald C 1 rfl (by omega) (by omega) (by decide) dX8_byteAt_28 ?_
        refine zz_sipush C dX8_byteAt_29 (by decide +kernel) ?_
        refine zz_iandb C (hby p9) dX8_byteAt_32 ?_
        exact zz_iret C hr dX8_byteAt_33 ⟨zz_vI (by unfold bAt; first | (exfalso; omega) | rw [if_pos (by omega)] | rw [if_neg (by omega)]), rfl⟩
      · skip
        refine zz_iconst C dX8_byteAt_19 ?_
        refine zz_goto (tgt := 33) C dX8_byteAt_20 (by decide) ?_
        exact zz_iret C hr dX8_byteAt_33 ⟨zz_vI (by unfold bAt; first | (exfalso; omega) | rw [if_pos (by omega)] | rw [if_neg (by omega)]), rfl⟩
abbrev po_X8_isBlank (z : zC) (x9 : Int) : Option Value → va_W → Prop := fun v w => ∃ (q : Int), ((q = 1 ∧ (x9 = 32 ∨ x9 = 10)) ∨ (q = 0 ∧ ¬ (x9 = 32 ∨ x9 = 10))) ∧ v = some (Value.int (iI q)) ∧ w = ([] : va_W)
abbrev rm_X8_isBlank : Room := { frames := 1, cells := 0, slots := 0, locals := 40 }
set_option maxHeartbeats 4000000 in
set_option maxRecDepth 100000 in
theorem cc_X8_isBlank (l : Launch) (z : zC) (x9 : Int) (hx9 : -2147483648 ≤ x9 ∧ x9 < 2147483648) : zzMet l yX8_isBlank cX8_isBlank 1 (Option.some .boolean) rm_X8_isBlank z [.int (iI x9)] (([] : va_W)) (po_X8_isBlank z x9) := by
  refine zzMet.of (own := RX8) (ls0 := [(0, .int (iI x9))]) (by decide) rfl (Nat.le_of_ble_eq_true rfl) rfl ?_
  intro p e s m below meth c A C hr hnm
  refine zz_iload_n C 0 dX8_isBlank_0 rfl rfl ?_
  refine zz_bipush C dX8_isBlank_1 (by decide +kernel) ?_
  refine zz_icmp_eq (tgt := 12) C dX8_isBlank_3 (by decide) (by unfold rI; omega) (by unfold rI; omega) (fun c3 => ?_) (fun c3 => ?_)
  · skip
    refine zz_iconst C dX8_isBlank_12 ?_
    refine zz_goto (tgt := 17) C dX8_isBlank_13 (by decide) ?_
    exact zz_zret C hr (by decide +kernel) dX8_isBlank_17 ⟨1, Or.inl ⟨rfl, by omega⟩, rfl, rfl⟩
  · skip
    refine zz_iload_n C 0 dX8_isBlank_6 rfl rfl ?_
    refine zz_bipush C dX8_isBlank_7 (by decide +kernel) ?_
    refine zz_icmp_ne (tgt := 16) C dX8_isBlank_9 (by decide) (by unfold rI; omega) (by unfold rI; omega) (fun c9 => ?_) (fun c9 => ?_)
    · skip
      refine zz_iconst C dX8_isBlank_16 ?_
      exact zz_zret C hr (by decide +kernel) dX8_isBlank_17 ⟨0, Or.inr ⟨rfl, by omega⟩, rfl, rfl⟩
    · skip
      refine zz_iconst C dX8_isBlank_12 ?_
      refine zz_goto (tgt := 17) C dX8_isBlank_13 (by decide) ?_
      exact zz_zret C hr (by decide +kernel) dX8_isBlank_17 ⟨1, Or.inl ⟨rfl, by omega⟩, rfl, rfl⟩
abbrev po_X8_isLetter (z : zC) (x9 : Int) : Option Value → va_W → Prop := fun v w => ∃ (q : Int), ((q = 1 ∧ (97 ≤ x9 ∧ x9 ≤ 122)) ∨ (q = 0 ∧ ¬ (97 ≤ x9 ∧ x9 ≤ 122))) ∧ v = some (Value.int (iI q)) ∧ w = ([] : va_W)
abbrev rm_X8_isLetter : Room := { frames := 1, cells := 0, slots := 0, locals := 40 }
set_option maxHeartbeats 4000000 in
set_option maxRecDepth 100000 in
theorem cc_X8_isLetter (l : Launch) (z : zC) (x9 : Int) (hx9 : -2147483648 ≤ x9 ∧ x9 < 2147483648) : zzMet l yX8_isLetter cX8_isLetter 1 (Option.some .boolean) rm_X8_isLetter z [.int (iI x9)] (([] : va_W)) (po_X8_isLetter z x9) := by
  refine zzMet.of (own := RX8) (ls0 := [(0, .int (iI x9))]) (by decide) rfl (Nat.le_of_ble_eq_true rfl) rfl ?_
  intro p e s m below meth c A C hr hnm
  refine zz_iload_n C 0 dX8_isLetter_0 rfl rfl ?_
  refine zz_bipush C dX8_isLetter_1 (by decide +kernel) ?_
  refine zz_icmp_lt (tgt := 16) C dX8_isLetter_3 (by decide) (by unfold rI; omega) (by unfold rI; omega) (fun c3 => ?_) (fun c3 => ?_)
  · skip
    refine zz_iconst C dX8_isLetter_16 ?_
    exact zz_zret C hr (by decide +kernel) dX8_isLetter_17 ⟨0, Or.inr ⟨rfl, by omega⟩, rfl, rfl⟩
  · skip
    refine zz_iload_n C 0 dX8_isLetter_6 rfl rfl ?_
    refine zz_bipush C dX8_isLetter_7 (by decide +kernel) ?_
    refine zz_icmp_gt (tgt := 16) C dX8_isLetter_9 (by decide) (by unfold rI; omega) (by unfold rI; omega) (fun c9 => ?_) (fun c9 => ?_)
    · skip
      refine zz_iconst C dX8_isLetter_16 ?_
      exact zz_zret C hr (by decide +kernel) dX8_isLetter_17 ⟨0, Or.inr ⟨rfl, by omega⟩, rfl, rfl⟩
    · skip
      refine zz_iconst C dX8_isLetter_12 ?_
      refine zz_goto (tgt := 17) C dX8_isLetter_13 (by decide) ?_
      exact zz_zret C hr (by decide +kernel) dX8_isLetter_17 ⟨1, Or.inl ⟨rfl, by omega⟩, rfl, rfl⟩
abbrev po_X8_isDigit (z : zC) (x9 : Int) : Option Value → va_W → Prop := fun v w => ∃ (q : Int), ((q = 1 ∧ (48 ≤ x9 ∧ x9 ≤ 57)) ∨ (q = 0 ∧ ¬ (48 ≤ x9 ∧ x9 ≤ 57))) ∧ v = some (Value.int (iI q)) ∧ w = ([] : va_W)
abbrev rm_X8_isDigit : Room := { frames := 1, cells := 0, slots := 0, locals := 40 }
set_option maxHeartbeats 4000000 in
set_option maxRecDepth 100000 in
theorem cc_X8_isDigit (l : Launch) (z : zC) (x9 : Int) (hx9 : -2147483648 ≤ x9 ∧ x9 < 2147483648) : zzMet l yX8_isDigit cX8_isDigit 1 (Option.some .boolean) rm_X8_isDigit z [.int (iI x9)] (([] : va_W)) (po_X8_isDigit z x9) := by
  refine zzMet.of (own := RX8) (ls0 := [(0, .int (iI x9))]) (by decide) rfl (Nat.le_of_ble_eq_true rfl) rfl ?_
  intro p e s m below meth c A C hr hnm
  refine zz_iload_n C 0 dX8_isDigit_0 rfl rfl ?_
  refine zz_bipush C dX8_isDigit_1 (by decide +kernel) ?_
  refine zz_icmp_lt (tgt := 16) C dX8_isDigit_3 (by decide) (by unfold rI; omega) (by unfold rI; omega) (fun c3 => ?_) (fun c3 => ?_)
  · skip
    refine zz_iconst C dX8_isDigit_16 ?_
    exact zz_zret C hr (by decide +kernel) dX8_isDigit_17 ⟨0, Or.inr ⟨rfl, by omega⟩, rfl, rfl⟩
  · skip
    refine zz_iload_n C 0 dX8_isDigit_6 rfl rfl ?_
    refine zz_bipush C dX8_isDigit_7 (by decide +kernel) ?_
    refine zz_icmp_gt (tgt := 16) C dX8_isDigit_9 (by decide) (by unfold rI; omega) (by unfold rI; omega) (fun c9 => ?_) (fun c9 => ?_)
    · skip
      refine zz_iconst C dX8_isDigit_16 ?_
      exact zz_zret C hr (by decide +kernel) dX8_isDigit_17 ⟨0, Or.inr ⟨rfl, by omega⟩, rfl, rfl⟩
    · skip
      refine zz_iconst C dX8_isDigit_12 ?_
      refine zz_goto (tgt := 17) C dX8_isDigit_13 (by decide) ?_
      exact zz_zret C hr (by decide +kernel) dX8_isDigit_17 ⟨1, Or.inl ⟨rfl, by omega⟩, rfl, rfl⟩
abbrev po_X8_refuse (z : zC) (th : Nat) (tb : Nat) (tn : Nat) (tz : Int) (tf : Int) (tk : Int) (ta : Int) (te : Int) (fB : Int → Int) (fN : Int → Int) (k9 : Int) : Option Value → va_W → Prop := fun v w => v = some (Value.int (iI 0)) ∧ w = wText z th tb tn tz (k9 + 8 * ta) tk ta te fB fN
abbrev rm_X8_refuse : Room := { frames := 1, cells := 0, slots := 0, locals := 40 }
set_option maxHeartbeats 4000000 in
set_option maxRecDepth 100000 in
theorem cc_X8_refuse (l : Launch) (z : zC) (th : Nat) (tb : Nat) (tn : Nat) (tz : Int) (tf : Int) (tk : Int) (ta : Int) (te : Int) (fB : Int → Int) (fN : Int → Int) (k9 : Int)  : zzMet l yX8_refuse cX8_refuse 2 (Option.some .boolean) rm_X8_refuse z [.ref th, .int (iI k9)] (wText z th tb tn tz tf tk ta te fB fN) (po_X8_refuse z th tb tn tz tf tk ta te fB fN k9) := by
  refine zzMet.of (own := RX8) (ls0 := [(0, .ref th), (1, .int (iI k9))]) (by decide) rfl (Nat.le_of_ble_eq_true rfl) rfl ?_
  intro p e s m below meth c A C hr hnm
  refine zz_aload_n C 0 dX8_refuse_0 rfl rfl ?_
  refine zz_iload_n C 1 dX8_refuse_1 rfl rfl ?_
  refine zz_bipush C dX8_refuse_2 (by decide +kernel) ?_
  refine zz_aload_n C 0 dX8_refuse_4 rfl rfl ?_
  refine zz_get C 0 (ci := 8) (k := 5) rfl rfl in_X8 (by decide) qw_45 rfl rfl dX8_refuse_5 ?_
  refine zz_imul C dX8_refuse_8 ?_
  refine zz_iadd C dX8_refuse_9 ?_
  refine zz_put (ty := .int) (ws' := wText z th tb tn tz (k9 + (8 * ta)) tk ta te fB fN) C 0 (ci := 8) (k := 1) rfl rfl in_X8 tyX8 tyX8_ok nmX8 (by decide) qw_40 rfl rfl (by decide +kernel) rfl rfl (Nat.le_of_ble_eq_true rfl) rfl dX8_refuse_10 ?_
  refine zz_iconst C dX8_refuse_13 ?_
  exact zz_zret C hr (by decide +kernel) dX8_refuse_14 ⟨zz_vI rfl, rfl⟩
abbrev po_X8_readWord (z : zC) (th : Nat) (tb : Nat) (tn : Nat) (tz : Int) (tf : Int) (tk : Int) (ta : Int) (te : Int) (fB : Int → Int) (fN : Int → Int) : Option Value → va_W → Prop := fun v w => ∃ (gE : Int), (gE = rn ltr fB tz te) ∧ v = none ∧ w = wText z th tb tn tz tf 1 ta gE fB fN
abbrev rm_X8_readWord : Room := { frames := 2, cells := 0, slots := 0, locals := 61 }
set_option maxHeartbeats 4000000 in
set_option maxRecDepth 100000 in
theorem cc_X8_readWord (l : Launch) (z : zC) (th : Nat) (tb : Nat) (tn : Nat) (tz : Int) (tf : Int) (tk : Int) (ta : Int) (te : Int) (fB : Int → Int) (fN : Int → Int) (htz : 0 ≤ tz ∧ tz ≤ 300) (hby : ∀ i : Int, 0 ≤ fB i ∧ fB i < 256) (hte : 0 ≤ te ∧ te ≤ tz) : zzMet l yX8_readWord cX8_readWord 1 none rm_X8_readWord z [.ref th] (wText z th tb tn tz tf tk ta te fB fN) (po_X8_readWord z th tb tn tz tf tk ta te fB fN) := by
  refine zzMet.of (own := RX8) (ls0 := [(0, .ref th)]) (by decide) rfl (Nat.le_of_ble_eq_true rfl) rfl ?_
  intro p e s m below meth c A C hr hnm
  refine zz_aload_n C 0 dX8_readWord_0 rfl rfl ?_
  refine zz_iconst C dX8_readWord_1 ?_
  refine zz_put (ty := .int) (ws' := wText z th tb tn tz tf 1 ta te fB fN) C 0 (ci := 8) (k := 4) rfl rfl in_X8 tyX8 tyX8_ok nmX8 (by decide) qw_44 rfl rfl (by decide +kernel) rfl rfl (Nat.le_of_ble_eq_true rfl) rfl dX8_readWord_2 ?_
  have Lp5 : ∀ (fu9 : Nat) (ge : Int), (te ≤ ge ∧ ge ≤ tz) → (∀ i : Int, te ≤ i → i < ge → ltr (fB i) = true) → (tz - ge).toNat < fu9 → zzW p l e rm_X8_readWord s m ([.ref th] : List Value).toArray below meth c z A 1 (MQ below (zQ z A (po_X8_readWord z th tb tn tz tf tk ta te fB fN)) ([.ref th] : List Value).toArray s 0 0 A) 0 0 (wText z th tb tn tz tf 1 ta ge fB fN) [(0, .ref th)] [] 5 := by
    intro fu9
    induction fu9 with
    | zero => intro ge hg hrun h9; exact absurd h9 (Nat.not_lt_zero _)
    | succ fu9 ih5 =>
      intro ge hg hrun hm5
      refine zz_aload_n C 0 dX8_readWord_5 rfl rfl ?_
      refine zz_get C 0 (ci := 8) (k := 6) rfl rfl in_X8 (by decide) qw_46 rfl rfl dX8_readWord_6 ?_
      refine zz_aload_n C 0 dX8_readWord_9 rfl rfl ?_
      refine zz_get C 0 (ci := 8) (k := 0) rfl rfl in_X8 (by decide) qw_38 rfl rfl dX8_readWord_10 ?_
      refine zz_icmp_ge (tgt := 43) C dX8_readWord_13 (by decide) (by unfold rI; omega) (by unfold rI; omega) (fun c13 => ?_) (fun c13 => ?_)
      · skip
        have hen : ge = tz ∨ ¬ ltr (fB ge) = true := Or.inl (by omega)
        exact zz_vret C hr dX8_readWord_43 ⟨ge, (rn_eq hg.1 hg.2 hrun hen).symm, rfl, rfl⟩
      · skip
        refine zz_aload_n C 0 dX8_readWord_16 rfl rfl ?_
        refine zz_aload_n C 0 dX8_readWord_17 rfl rfl ?_
        refine zz_get C 0 (ci := 8) (k := 6) rfl rfl in_X8 (by decide) qw_46 rfl rfl dX8_readWord_18 ?_
        refine zz_callV (wr := ([] : va_W)) (st := []) C (cc_X8_byteAt l z th tb tn tz tf 1 ta ge fB fN ge (by omega) (by omega) (by omega)) yk_X8_byteAt qw_470 ⟨by decide, by decide⟩ [0, 1, 2] [] rfl rfl rfl rfl (by decide) 0 8 rfl rfl rfl rfl (Nat.le_of_ble_eq_true rfl) dX8_readWord_21 ⟨by decide, by decide⟩ ?_
        rintro _ _ ⟨rfl, rfl⟩
        refine zz_st (st' := [.int (iI (bAt fB tz ge))]) rfl (zz_ws (ws' := wText z th tb tn tz tf 1 ta ge fB fN) rfl ?_)
        have hb24 := bAt_in (f := fB) (n := tz) (p := ge) (by omega)
        have hy24 := hby ge
        refine zz_callS (wr := wText z th tb tn tz tf 1 ta ge fB fN) (st := []) C (cc_X8_isLetter l z (bAt fB tz ge) (by omega)) yk_X8_isLetter qw_477 ⟨by decide, by decide⟩ [] [0, 1, 2] rfl rfl rfl rfl (by decide) rfl rfl (Nat.le_of_ble_eq_true rfl) dX8_readWord_24 ⟨by decide, by decide⟩ ?_
        rintro _ _ ⟨q_24, hq_24, rfl, rfl⟩
        refine zz_st (st' := [.int (iI q_24)]) rfl (zz_ws (ws' := wText z th tb tn tz tf 1 ta ge fB fN) rfl ?_)
        refine zz_if_eq (tgt := 43) C dX8_readWord_27 (by decide) (by unfold rI; omega) (fun c27 => ?_) (fun c27 => ?_)
        · skip
          have hen : ge = tz ∨ ¬ ltr (fB ge) = true := Or.inr (fun h => by have := ltr_iff.mp h; omega)
          exact zz_vret C hr dX8_readWord_43 ⟨ge, (rn_eq hg.1 hg.2 hrun hen).symm, rfl, rfl⟩
        · skip
          refine zz_aload_n C 0 dX8_readWord_30 rfl rfl ?_
          refine zz_dup C dX8_readWord_31 rfl ?_
          refine zz_get C 0 (ci := 8) (k := 6) rfl rfl in_X8 (by decide) qw_46 rfl rfl dX8_readWord_32 ?_
          refine zz_iconst C dX8_readWord_35 ?_
          refine zz_iadd C dX8_readWord_36 ?_
          refine zz_put (ty := .int) (ws' := wText z th tb tn tz tf 1 ta (ge + 1) fB fN) C 0 (ci := 8) (k := 6) rfl rfl in_X8 tyX8 tyX8_ok nmX8 (by decide) qw_46 rfl rfl (by decide +kernel) rfl rfl (Nat.le_of_ble_eq_true rfl) rfl dX8_readWord_37 ?_
          refine zz_goto (tgt := 5) C dX8_readWord_40 (by decide) ?_
          exact ih5 (ge + 1) (by omega) (run_step hrun (ltr_iff.mpr (by omega))) (by omega)
  exact Lp5 _ te (by omega) (fun i h0 h1 => by omega) (Nat.lt_succ_self _)
abbrev po_X8_readNumber (z : zC) (th : Nat) (tb : Nat) (tn : Nat) (tz : Int) (tf : Int) (tk : Int) (ta : Int) (te : Int) (fB : Int → Int) (fN : Int → Int) : Option Value → va_W → Prop := fun v w => ∃ (gK : Int), ∃ (gE : Int), (gE = rn dgt fB tz te) ∧ (gK = if gE - ta ≤ 4 then 2 else 3) ∧ v = none ∧ w = wText z th tb tn tz tf gK ta gE fB fN
abbrev rm_X8_readNumber : Room := { frames := 2, cells := 0, slots := 0, locals := 61 }
set_option maxHeartbeats 4000000 in
set_option maxRecDepth 100000 in
theorem cc_X8_readNumber (l : Launch) (z : zC) (th : Nat) (tb : Nat) (tn : Nat) (tz : Int) (tf : Int) (tk : Int) (ta : Int) (te : Int) (fB : Int → Int) (fN : Int → Int) (htz : 0 ≤ tz ∧ tz ≤ 300) (hby : ∀ i : Int, 0 ≤ fB i ∧ fB i < 256) (hte : 0 ≤ ta ∧ ta ≤ te ∧ te ≤ tz) : zzMet l yX8_readNumber cX8_readNumber 1 none rm_X8_readNumber z [.ref th] (wText z th tb tn tz tf tk ta te fB fN) (po_X8_readNumber z th tb tn tz tf tk ta te fB fN) := by
  refine zzMet.of (own := RX8) (ls0 := [(0, .ref th)]) (by decide) rfl (Nat.le_of_ble_eq_true rfl) rfl ?_
  intro p e s m below meth c A C hr hnm
  have Lp0 : ∀ (fu9 : Nat) (ge : Int), (te ≤ ge ∧ ge ≤ tz) → (∀ i : Int, te ≤ i → i < ge → dgt (fB i) = true) → (tz - ge).toNat < fu9 → zzW p l e rm_X8_readNumber s m ([.ref th] : List Value).toArray below meth c z A 1 (MQ below (zQ z A (po_X8_readNumber z th tb tn tz tf tk ta te fB fN)) ([.ref th] : List Value).toArray s 0 0 A) 0 0 (wText z th tb tn tz tf tk ta ge fB fN) [(0, .ref th)] [] 0 := by
    intro fu9
    induction fu9 with
    | zero => intro ge hg hrun h9; exact absurd h9 (Nat.not_lt_zero _)
    | succ fu9 ih0 =>
      intro ge hg hrun hm0
      refine zz_aload_n C 0 dX8_readNumber_0 rfl rfl ?_
      refine zz_get C 0 (ci := 8) (k := 6) rfl rfl in_X8 (by decide) qw_46 rfl rfl dX8_readNumber_1 ?_
      refine zz_aload_n C 0 dX8_readNumber_4 rfl rfl ?_
      refine zz_get C 0 (ci := 8) (k := 0) rfl rfl in_X8 (by decide) qw_38 rfl rfl dX8_readNumber_5 ?_
      refine zz_icmp_ge (tgt := 38) C dX8_readNumber_8 (by decide) (by unfold rI; omega) (by unfold rI; omega) (fun c8 => ?_) (fun c8 => ?_)
      · skip
        have hen : ge = tz ∨ ¬ dgt (fB ge) = true := Or.inl (by omega)
        refine zz_aload_n C 0 dX8_readNumber_38 rfl rfl ?_
        refine zz_aload_n C 0 dX8_readNumber_39 rfl rfl ?_
        refine zz_get C 0 (ci := 8) (k := 6) rfl rfl in_X8 (by decide) qw_46 rfl rfl dX8_readNumber_40 ?_
        refine zz_aload_n C 0 dX8_readNumber_43 rfl rfl ?_
        refine zz_get C 0 (ci := 8) (k := 5) rfl rfl in_X8 (by decide) qw_45 rfl rfl dX8_readNumber_44 ?_
        refine zz_isub C dX8_readNumber_47 ?_
        refine zz_iconst C dX8_readNumber_48 ?_
        refine zz_icmp_gt (tgt := 56) C dX8_readNumber_49 (by decide) (by unfold rI; omega) (by unfold rI; omega) (fun c49 => ?_) (fun c49 => ?_)
        · skip
          refine zz_iconst C dX8_readNumber_56 ?_
          refine zz_put (ty := .int) (ws' := wText z th tb tn tz tf 3 ta ge fB fN) C 0 (ci := 8) (k := 4) rfl rfl in_X8 tyX8 tyX8_ok nmX8 (by decide) qw_44 rfl rfl (by decide +kernel) rfl rfl (Nat.le_of_ble_eq_true rfl) rfl dX8_readNumber_57 ?_
          exact zz_vret C hr dX8_readNumber_60 ⟨_, ge, (rn_eq hg.1 hg.2 hrun hen).symm, by first | rw [if_pos (by omega)] | rw [if_neg (by omega)], rfl, rfl⟩
        · skip
          refine zz_iconst C dX8_readNumber_52 ?_
          refine zz_goto (tgt := 57) C dX8_readNumber_53 (by decide) ?_
          refine zz_put (ty := .int) (ws' := wText z th tb tn tz tf 2 ta ge fB fN) C 0 (ci := 8) (k := 4) rfl rfl in_X8 tyX8 tyX8_ok nmX8 (by decide) qw_44 rfl rfl (by decide +kernel) rfl rfl (Nat.le_of_ble_eq_true rfl) rfl dX8_readNumber_57 ?_
          exact zz_vret C hr dX8_readNumber_60 ⟨_, ge, (rn_eq hg.1 hg.2 hrun hen).symm, by first | rw [if_pos (by omega)] | rw [if_neg (by omega)], rfl, rfl⟩
      · skip
        refine zz_aload_n C 0 dX8_readNumber_11 rfl rfl ?_
        refine zz_aload_n C 0 dX8_readNumber_12 rfl rfl ?_
        refine zz_get C 0 (ci := 8) (k := 6) rfl rfl in_X8 (by decide) qw_46 rfl rfl dX8_readNumber_13 ?_
        refine zz_callV (wr := ([] : va_W)) (st := []) C (cc_X8_byteAt l z th tb tn tz tf tk ta ge fB fN ge (by omega) (by omega) (by omega)) yk_X8_byteAt qw_470 ⟨by decide, by decide⟩ [0, 1, 2] [] rfl rfl rfl rfl (by decide) 0 8 rfl rfl rfl rfl (Nat.le_of_ble_eq_true rfl) dX8_readNumber_16 ⟨by decide, by decide⟩ ?_
        rintro _ _ ⟨rfl, rfl⟩
        refine zz_st (st' := [.int (iI (bAt fB tz ge))]) rfl (zz_ws (ws' := wText z th tb tn tz tf tk ta ge fB fN) rfl ?_)
        have hb24 := bAt_in (f := fB) (n := tz) (p := ge) (by omega)
        have hy24 := hby ge
        refine zz_callS (wr := wText z th tb tn tz tf tk ta ge fB fN) (st := []) C (cc_X8_isDigit l z (bAt fB tz ge) (by omega)) yk_X8_isDigit qw_484 ⟨by decide, by decide⟩ [] [0, 1, 2] rfl rfl rfl rfl (by decide) rfl rfl (Nat.le_of_ble_eq_true rfl) dX8_readNumber_19 ⟨by decide, by decide⟩ ?_
        rintro _ _ ⟨q_19, hq_19, rfl, rfl⟩
        refine zz_st (st' := [.int (iI q_19)]) rfl (zz_ws (ws' := wText z th tb tn tz tf tk ta ge fB fN) rfl ?_)
        refine zz_if_eq (tgt := 38) C dX8_readNumber_22 (by decide) (by unfold rI; omega) (fun c22 => ?_) (fun c22 => ?_)
        · skip
          have hen : ge = tz ∨ ¬ dgt (fB ge) = true := Or.inr (fun h => by have := dgt_iff.mp h; omega)
          refine zz_aload_n C 0 dX8_readNumber_38 rfl rfl ?_
          refine zz_aload_n C 0 dX8_readNumber_39 rfl rfl ?_
          refine zz_get C 0 (ci := 8) (k := 6) rfl rfl in_X8 (by decide) qw_46 rfl rfl dX8_readNumber_40 ?_
          refine zz_aload_n C 0 dX8_readNumber_43 rfl rfl ?_
          refine zz_get C 0 (ci := 8) (k := 5) rfl rfl in_X8 (by decide) qw_45 rfl rfl dX8_readNumber_44 ?_
          refine zz_isub C dX8_readNumber_47 ?_
          refine zz_iconst C dX8_readNumber_48 ?_
          refine zz_icmp_gt (tgt := 56) C dX8_readNumber_49 (by decide) (by unfold rI; omega) (by unfold rI; omega) (fun c49 => ?_) (fun c49 => ?_)
          · skip
            refine zz_iconst C dX8_readNumber_56 ?_
            refine zz_put (ty := .int) (ws' := wText z th tb tn tz tf 3 ta ge fB fN) C 0 (ci := 8) (k := 4) rfl rfl in_X8 tyX8 tyX8_ok nmX8 (by decide) qw_44 rfl rfl (by decide +kernel) rfl rfl (Nat.le_of_ble_eq_true rfl) rfl dX8_readNumber_57 ?_
            exact zz_vret C hr dX8_readNumber_60 ⟨_, ge, (rn_eq hg.1 hg.2 hrun hen).symm, by first | rw [if_pos (by omega)] | rw [if_neg (by omega)], rfl, rfl⟩
          · skip
            refine zz_iconst C dX8_readNumber_52 ?_
            refine zz_goto (tgt := 57) C dX8_readNumber_53 (by decide) ?_
            refine zz_put (ty := .int) (ws' := wText z th tb tn tz tf 2 ta ge fB fN) C 0 (ci := 8) (k := 4) rfl rfl in_X8 tyX8 tyX8_ok nmX8 (by decide) qw_44 rfl rfl (by decide +kernel) rfl rfl (Nat.le_of_ble_eq_true rfl) rfl dX8_readNumber_57 ?_
            exact zz_vret C hr dX8_readNumber_60 ⟨_, ge, (rn_eq hg.1 hg.2 hrun hen).symm, by first | rw [if_pos (by omega)] | rw [if_neg (by omega)], rfl, rfl⟩
        · skip
          refine zz_aload_n C 0 dX8_readNumber_25 rfl rfl ?_
          refine zz_dup C dX8_readNumber_26 rfl ?_
          refine zz_get C 0 (ci := 8) (k := 6) rfl rfl in_X8 (by decide) qw_46 rfl rfl dX8_readNumber_27 ?_
          refine zz_iconst C dX8_readNumber_30 ?_
          refine zz_iadd C dX8_readNumber_31 ?_
          refine zz_put (ty := .int) (ws' := wText z th tb tn tz tf tk ta (ge + 1) fB fN) C 0 (ci := 8) (k := 6) rfl rfl in_X8 tyX8 tyX8_ok nmX8 (by decide) qw_46 rfl rfl (by decide +kernel) rfl rfl (Nat.le_of_ble_eq_true rfl) rfl dX8_readNumber_32 ?_
          refine zz_goto (tgt := 0) C dX8_readNumber_35 (by decide) ?_
          exact ih0 (ge + 1) (by omega) (run_step hrun (dgt_iff.mpr (by omega))) (by omega)
  exact Lp0 _ te (by omega) (fun i h0 h1 => by omega) (Nat.lt_succ_self _)
abbrev po_X8_readToken (z : zC) (th : Nat) (tb : Nat) (tn : Nat) (tz : Int) (tf : Int) (tk : Int) (ta : Int) (te : Int) (fB : Int → Int) (fN : Int → Int) : Option Value → va_W → Prop := fun v w => ∃ (gA : Int), ∃ (gK : Int), ∃ (gE : Int), (gA = sk fB tz te) ∧ (tokR fB tz gA gK gE) ∧ (te ≤ gA ∧ gA ≤ tz) ∧ v = none ∧ w = wText z th tb tn tz tf gK gA gE fB fN
abbrev rm_X8_readToken : Room := { frames := 3, cells := 0, slots := 0, locals := 81 }
set_option maxHeartbeats 4000000 in
set_option maxRecDepth 100000 in
theorem cc_X8_readToken (l : Launch) (z : zC) (th : Nat) (tb : Nat) (tn : Nat) (tz : Int) (tf : Int) (tk : Int) (ta : Int) (te : Int) (fB : Int → Int) (fN : Int → Int) (htz : 0 ≤ tz ∧ tz ≤ 300) (hby : ∀ i : Int, 0 ≤ fB i ∧ fB i < 256) (hte : 0 ≤ te ∧ te ≤ tz) : zzMet l yX8_readToken cX8_readToken 1 none rm_X8_readToken z [.ref th] (wText z th tb tn tz tf tk ta te fB fN) (po_X8_readToken z th tb tn tz tf tk ta te fB fN) := by
  refine zzMet.of (own := RX8) (ls0 := [(0, .ref th)]) (by decide) rfl (Nat.le_of_ble_eq_true rfl) rfl ?_
  intro p e s m below meth c A C hr hnm
  refine zz_aload_n C 0 dX8_readToken_0 rfl rfl ?_
  refine zz_aload_n C 0 dX8_readToken_1 rfl rfl ?_
  refine zz_get C 0 (ci := 8) (k := 6) rfl rfl in_X8 (by decide) qw_46 rfl rfl dX8_readToken_2 ?_
  refine zz_put (ty := .int) (ws' := wText z th tb tn tz tf tk te te fB fN) C 0 (ci := 8) (k := 5) rfl rfl in_X8 tyX8 tyX8_ok nmX8 (by decide) qw_45 rfl rfl (by decide +kernel) rfl rfl (Nat.le_of_ble_eq_true rfl) rfl dX8_readToken_5 ?_
  have Lp8 : ∀ (fu9 : Nat) (ga : Int), (te ≤ ga ∧ ga ≤ tz) → (∀ i : Int, te ≤ i → i < ga → blk (fB i) = true) → (tz - ga).toNat < fu9 → zzW p l e rm_X8_readToken s m ([.ref th] : List Value).toArray below meth c z A 1 (MQ below (zQ z A (po_X8_readToken z th tb tn tz tf tk ta te fB fN)) ([.ref th] : List Value).toArray s 0 0 A) 0 0 (wText z th tb tn tz tf tk ga te fB fN) [(0, .ref th)] [] 8 := by
    intro fu9
    induction fu9 with
    | zero => intro ga hg hrun h9; exact absurd h9 (Nat.not_lt_zero _)
    | succ fu9 ih8 =>
      intro ga hg hrun hm8
      refine zz_aload_n C 0 dX8_readToken_8 rfl rfl ?_
      refine zz_get C 0 (ci := 8) (k := 5) rfl rfl in_X8 (by decide) qw_45 rfl rfl dX8_readToken_9 ?_
      refine zz_aload_n C 0 dX8_readToken_12 rfl rfl ?_
      refine zz_get C 0 (ci := 8) (k := 0) rfl rfl in_X8 (by decide) qw_38 rfl rfl dX8_readToken_13 ?_
      refine zz_icmp_ge (tgt := 46) C dX8_readToken_16 (by decide) (by unfold rI; omega) (by unfold rI; omega) (fun c16 => ?_) (fun c16 => ?_)
      · skip
        have hen : ga = tz ∨ ¬ blk (fB ga) = true := Or.inl (by omega)
        have hsk : ga = sk fB tz te := (rn_eq hg.1 hg.2 hrun hen).symm
        refine zz_aload_n C 0 dX8_readToken_46 rfl rfl ?_
        refine zz_aload_n C 0 dX8_readToken_47 rfl rfl ?_
        refine zz_get C 0 (ci := 8) (k := 5) rfl rfl in_X8 (by decide) qw_45 rfl rfl dX8_readToken_48 ?_
        refine zz_put (ty := .int) (ws' := wText z th tb tn tz tf tk ga ga fB fN) C 0 (ci := 8) (k := 6) rfl rfl in_X8 tyX8 tyX8_ok nmX8 (by decide) qw_46 rfl rfl (by decide +kernel) rfl rfl (Nat.le_of_ble_eq_true rfl) rfl dX8_readToken_51 ?_
        refine zz_aload_n C 0 dX8_readToken_54 rfl rfl ?_
        refine zz_get C 0 (ci := 8) (k := 5) rfl rfl in_X8 (by decide) qw_45 rfl rfl dX8_readToken_55 ?_
        refine zz_aload_n C 0 dX8_readToken_58 rfl rfl ?_
        refine zz_get C 0 (ci := 8) (k := 0) rfl rfl in_X8 (by decide) qw_38 rfl rfl dX8_readToken_59 ?_
        refine zz_icmp_lt (tgt := 73) C dX8_readToken_62 (by decide) (by unfold rI; omega) (by unfold rI; omega) (fun c62 => ?_) (fun c62 => ?_)
        · skip
          refine zz_aload_n C 0 dX8_readToken_73 rfl rfl ?_
          refine zz_aload_n C 0 dX8_readToken_74 rfl rfl ?_
          refine zz_get C 0 (ci := 8) (k := 5) rfl rfl in_X8 (by decide) qw_45 rfl rfl dX8_readToken_75 ?_
          refine zz_callV (wr := ([] : va_W)) (st := []) C (cc_X8_byteAt l z th tb tn tz tf tk ga ga fB fN ga (by omega) (by omega) (by omega)) yk_X8_byteAt qw_470 ⟨by decide, by decide⟩ [0, 1, 2] [] rfl rfl rfl rfl (by decide) 0 8 rfl rfl rfl rfl (Nat.le_of_ble_eq_true rfl) dX8_readToken_78 ⟨by decide, by decide⟩ ?_
          rintro _ _ ⟨rfl, rfl⟩
          refine zz_st (st' := [.int (iI (bAt fB tz ga))]) rfl (zz_ws (ws' := wText z th tb tn tz tf tk ga ga fB fN) rfl ?_)
          have hb81 := bAt_in (f := fB) (n := tz) (p := ga) (by omega)
          have hy81 := hby ga
          refine zz_callS (wr := wText z th tb tn tz tf tk ga ga fB fN) (st := []) C (cc_X8_isLetter l z (bAt fB tz ga) (by omega)) yk_X8_isLetter qw_477 ⟨by decide, by decide⟩ [] [0, 1, 2] rfl rfl rfl rfl (by decide) rfl rfl (Nat.le_of_ble_eq_true rfl) dX8_readToken_81 ⟨by decide, by decide⟩ ?_
          rintro _ _ ⟨q_81, hq_81, rfl, rfl⟩
          refine zz_st (st' := [.int (iI q_81)]) rfl (zz_ws (ws' := wText z th tb tn tz tf tk ga ga fB fN) rfl ?_)
          refine zz_if_eq (tgt := 94) C dX8_readToken_84 (by decide) (by unfold rI; omega) (fun c84 => ?_) (fun c84 => ?_)
          · skip
            refine zz_aload_n C 0 dX8_readToken_94 rfl rfl ?_
            refine zz_aload_n C 0 dX8_readToken_95 rfl rfl ?_
            refine zz_get C 0 (ci := 8) (k := 5) rfl rfl in_X8 (by decide) qw_45 rfl rfl dX8_readToken_96 ?_
            refine zz_callV (wr := ([] : va_W)) (st := []) C (cc_X8_byteAt l z th tb tn tz tf tk ga ga fB fN ga (by omega) (by omega) (by omega)) yk_X8_byteAt qw_470 ⟨by decide, by decide⟩ [0, 1, 2] [] rfl rfl rfl rfl (by decide) 0 8 rfl rfl rfl rfl (Nat.le_of_ble_eq_true rfl) dX8_readToken_99 ⟨by decide, by decide⟩ ?_
            rintro _ _ ⟨rfl, rfl⟩
            refine zz_st (st' := [.int (iI (bAt fB tz ga))]) rfl (zz_ws (ws' := wText z th tb tn tz tf tk ga ga fB fN) rfl ?_)
            refine zz_callS (wr := wText z th tb tn tz tf tk ga ga fB fN) (st := []) C (cc_X8_isDigit l z (bAt fB tz ga) (by omega)) yk_X8_isDigit qw_484 ⟨by decide, by decide⟩ [] [0, 1, 2] rfl rfl rfl rfl (by decide) rfl rfl (Nat.le_of_ble_eq_true rfl) dX8_readToken_102 ⟨by decide, by decide⟩ ?_
            rintro _ _ ⟨q_102, hq_102, rfl, rfl⟩
            refine zz_st (st' := [.int (iI q_102)]) rfl (zz_ws (ws' := wText z th tb tn tz tf tk ga ga fB fN) rfl ?_)
            refine zz_if_eq (tgt := 115) C dX8_readToken_105 (by decide) (by unfold rI; omega) (fun c105 => ?_) (fun c105 => ?_)
            · skip
              refine zz_aload_n C 0 dX8_readToken_115 rfl rfl ?_
              refine zz_iconst C dX8_readToken_116 ?_
              refine zz_put (ty := .int) (ws' := wText z th tb tn tz tf 3 ga ga fB fN) C 0 (ci := 8) (k := 4) rfl rfl in_X8 tyX8 tyX8_ok nmX8 (by decide) qw_44 rfl rfl (by decide +kernel) rfl rfl (Nat.le_of_ble_eq_true rfl) rfl dX8_readToken_117 ?_
              refine zz_aload_n C 0 dX8_readToken_120 rfl rfl ?_
              refine zz_aload_n C 0 dX8_readToken_121 rfl rfl ?_
              refine zz_get C 0 (ci := 8) (k := 5) rfl rfl in_X8 (by decide) qw_45 rfl rfl dX8_readToken_122 ?_
              refine zz_iconst C dX8_readToken_125 ?_
              refine zz_iadd C dX8_readToken_126 ?_
              refine zz_put (ty := .int) (ws' := wText z th tb tn tz tf 3 ga (ga + 1) fB fN) C 0 (ci := 8) (k := 6) rfl rfl in_X8 tyX8 tyX8_ok nmX8 (by decide) qw_46 rfl rfl (by decide +kernel) rfl rfl (Nat.le_of_ble_eq_true rfl) rfl dX8_readToken_127 ?_
              exact zz_vret C hr dX8_readToken_130 ⟨ga, _, _, hsk, by first | exact htk | exact Or.inr (Or.inr (Or.inr ⟨by omega, fun h => by have := ltr_iff.mp h; omega, fun h => by have := dgt_iff.mp h; omega, rfl, rfl⟩)), hg, rfl, rfl⟩
            · skip
              refine zz_aload_n C 0 dX8_readToken_108 rfl rfl ?_
              refine zz_callV (wr := ([] : va_W)) (st := []) C (cc_X8_readNumber l z th tb tn tz tf tk ga ga fB fN (by omega) (by omega) (by omega)) yk_X8_readNumber qw_487 ⟨by decide, by decide⟩ [0, 1, 2] [] rfl rfl rfl rfl (by decide) 0 8 rfl rfl rfl rfl (Nat.le_of_ble_eq_true rfl) dX8_readToken_109 ⟨by decide, by decide⟩ ?_
              rintro _ _ ⟨gK_109, gE_109, hE_109, hK_109, rfl, rfl⟩
              refine zz_st (st' := []) rfl (zz_ws (ws' := wText z th tb tn tz tf gK_109 ga gE_109 fB fN) rfl ?_)
              have htk : tokR fB tz ga gK_109 gE_109 := Or.inr (Or.inr (Or.inl ⟨by omega, dgt_iff.mpr (by omega), hE_109, hK_109⟩))
              refine zz_goto (tgt := 130) C dX8_readToken_112 (by decide) ?_
              exact zz_vret C hr dX8_readToken_130 ⟨ga, _, _, hsk, by first | exact htk | exact Or.inr (Or.inr (Or.inr ⟨by omega, fun h => by have := ltr_iff.mp h; omega, fun h => by have := dgt_iff.mp h; omega, rfl, rfl⟩)), hg, rfl, rfl⟩
          · skip
            refine zz_aload_n C 0 dX8_readToken_87 rfl rfl ?_
            refine zz_callV (wr := ([] : va_W)) (st := []) C (cc_X8_readWord l z th tb tn tz tf tk ga ga fB fN (by omega) (by omega) (by omega)) yk_X8_readWord qw_480 ⟨by decide, by decide⟩ [0, 1, 2] [] rfl rfl rfl rfl (by decide) 0 8 rfl rfl rfl rfl (Nat.le_of_ble_eq_true rfl) dX8_readToken_88 ⟨by decide, by decide⟩ ?_
            rintro _ _ ⟨gE_88, hE_88, rfl, rfl⟩
            refine zz_st (st' := []) rfl (zz_ws (ws' := wText z th tb tn tz tf 1 ga gE_88 fB fN) rfl ?_)
            have htk : tokR fB tz ga 1 gE_88 := Or.inr (Or.inl ⟨by omega, ltr_iff.mpr (by omega), rfl, hE_88⟩)
            refine zz_goto (tgt := 130) C dX8_readToken_91 (by decide) ?_
            exact zz_vret C hr dX8_readToken_130 ⟨ga, _, _, hsk, by first | exact htk | exact Or.inr (Or.inr (Or.inr ⟨by omega, fun h => by have := ltr_iff.mp h; omega, fun h => by have := dgt_iff.mp h; omega, rfl, rfl⟩)), hg, rfl, rfl⟩
        · skip
          have htk : tokR fB tz ga 0 ga := Or.inl ⟨by omega, rfl, rfl⟩
          refine zz_aload_n C 0 dX8_readToken_65 rfl rfl ?_
          refine zz_iconst C dX8_readToken_66 ?_
          refine zz_put (ty := .int) (ws' := wText z th tb tn tz tf 0 ga ga fB fN) C 0 (ci := 8) (k := 4) rfl rfl in_X8 tyX8 tyX8_ok nmX8 (by decide) qw_44 rfl rfl (by decide +kernel) rfl rfl (Nat.le_of_ble_eq_true rfl) rfl dX8_readToken_67 ?_
          refine zz_goto (tgt := 130) C dX8_readToken_70 (by decide) ?_
          exact zz_vret C hr dX8_readToken_130 ⟨ga, _, _, hsk, by first | exact htk | exact Or.inr (Or.inr (Or.inr ⟨by omega, fun h => by have := ltr_iff.mp h; omega, fun h => by have := dgt_iff.mp h; omega, rfl, rfl⟩)), hg, rfl, rfl⟩
      · skip
        refine zz_aload_n C 0 dX8_readToken_19 rfl rfl ?_
        refine zz_aload_n C 0 dX8_readToken_20 rfl rfl ?_
        refine zz_get C 0 (ci := 8) (k := 5) rfl rfl in_X8 (by decide) qw_45 rfl rfl dX8_readToken_21 ?_
        refine zz_callV (wr := ([] : va_W)) (st := []) C (cc_X8_byteAt l z th tb tn tz tf tk ga te fB fN ga (by omega) (by omega) (by omega)) yk_X8_byteAt qw_470 ⟨by decide, by decide⟩ [0, 1, 2] [] rfl rfl rfl rfl (by decide) 0 8 rfl rfl rfl rfl (Nat.le_of_ble_eq_true rfl) dX8_readToken_24 ⟨by decide, by decide⟩ ?_
        rintro _ _ ⟨rfl, rfl⟩
        refine zz_st (st' := [.int (iI (bAt fB tz ga))]) rfl (zz_ws (ws' := wText z th tb tn tz tf tk ga te fB fN) rfl ?_)
        have hb24 := bAt_in (f := fB) (n := tz) (p := ga) (by omega)
        have hy24 := hby ga
        refine zz_callS (wr := wText z th tb tn tz tf tk ga te fB fN) (st := []) C (cc_X8_isBlank l z (bAt fB tz ga) (by omega)) yk_X8_isBlank qw_474 ⟨by decide, by decide⟩ [] [0, 1, 2] rfl rfl rfl rfl (by decide) rfl rfl (Nat.le_of_ble_eq_true rfl) dX8_readToken_27 ⟨by decide, by decide⟩ ?_
        rintro _ _ ⟨q_27, hq_27, rfl, rfl⟩
        refine zz_st (st' := [.int (iI q_27)]) rfl (zz_ws (ws' := wText z th tb tn tz tf tk ga te fB fN) rfl ?_)
        refine zz_if_eq (tgt := 46) C dX8_readToken_30 (by decide) (by unfold rI; omega) (fun c30 => ?_) (fun c30 => ?_)
        · skip
          have hen : ga = tz ∨ ¬ blk (fB ga) = true := Or.inr (fun h => by have := blk_iff.mp h; omega)
          have hsk : ga = sk fB tz te := (rn_eq hg.1 hg.2 hrun hen).symm
          refine zz_aload_n C 0 dX8_readToken_46 rfl rfl ?_
          refine zz_aload_n C 0 dX8_readToken_47 rfl rfl ?_
          refine zz_get C 0 (ci := 8) (k := 5) rfl rfl in_X8 (by decide) qw_45 rfl rfl dX8_readToken_48 ?_
          refine zz_put (ty := .int) (ws' := wText z th tb tn tz tf tk ga ga fB fN) C 0 (ci := 8) (k := 6) rfl rfl in_X8 tyX8 tyX8_ok nmX8 (by decide) qw_46 rfl rfl (by decide +kernel) rfl rfl (Nat.le_of_ble_eq_true rfl) rfl dX8_readToken_51 ?_
          refine zz_aload_n C 0 dX8_readToken_54 rfl rfl ?_
          refine zz_get C 0 (ci := 8) (k := 5) rfl rfl in_X8 (by decide) qw_45 rfl rfl dX8_readToken_55 ?_
          refine zz_aload_n C 0 dX8_readToken_58 rfl rfl ?_
          refine zz_get C 0 (ci := 8) (k := 0) rfl rfl in_X8 (by decide) qw_38 rfl rfl dX8_readToken_59 ?_
          refine zz_icmp_lt (tgt := 73) C dX8_readToken_62 (by decide) (by unfold rI; omega) (by unfold rI; omega) (fun c62 => ?_) (fun c62 => ?_)
          · skip
            refine zz_aload_n C 0 dX8_readToken_73 rfl rfl ?_
            refine zz_aload_n C 0 dX8_readToken_74 rfl rfl ?_
            refine zz_get C 0 (ci := 8) (k := 5) rfl rfl in_X8 (by decide) qw_45 rfl rfl dX8_readToken_75 ?_
            refine zz_callV (wr := ([] : va_W)) (st := []) C (cc_X8_byteAt l z th tb tn tz tf tk ga ga fB fN ga (by omega) (by omega) (by omega)) yk_X8_byteAt qw_470 ⟨by decide, by decide⟩ [0, 1, 2] [] rfl rfl rfl rfl (by decide) 0 8 rfl rfl rfl rfl (Nat.le_of_ble_eq_true rfl) dX8_readToken_78 ⟨by decide, by decide⟩ ?_
            rintro _ _ ⟨rfl, rfl⟩
            refine zz_st (st' := [.int (iI (bAt fB tz ga))]) rfl (zz_ws (ws' := wText z th tb tn tz tf tk ga ga fB fN) rfl ?_)
            have hb81 := bAt_in (f := fB) (n := tz) (p := ga) (by omega)
            have hy81 := hby ga
            refine zz_callS (wr := wText z th tb tn tz tf tk ga ga fB fN) (st := []) C (cc_X8_isLetter l z (bAt fB tz ga) (by omega)) yk_X8_isLetter qw_477 ⟨by decide, by decide⟩ [] [0, 1, 2] rfl rfl rfl rfl (by decide) rfl rfl (Nat.le_of_ble_eq_true rfl) dX8_readToken_81 ⟨by decide, by decide⟩ ?_
            rintro _ _ ⟨q_81, hq_81, rfl, rfl⟩
            refine zz_st (st' := [.int (iI q_81)]) rfl (zz_ws (ws' := wText z th tb tn tz tf tk ga ga fB fN) rfl ?_)
            refine zz_if_eq (tgt := 94) C dX8_readToken_84 (by decide) (by unfold rI; omega) (fun c84 => ?_) (fun c84 => ?_)
            · skip
              refine zz_aload_n C 0 dX8_readToken_94 rfl rfl ?_
              refine zz_aload_n C 0 dX8_readToken_95 rfl rfl ?_
              refine zz_get C 0 (ci := 8) (k := 5) rfl rfl in_X8 (by decide) qw_45 rfl rfl dX8_readToken_96 ?_
              refine zz_callV (wr := ([] : va_W)) (st := []) C (cc_X8_byteAt l z th tb tn tz tf tk ga ga fB fN ga (by omega) (by omega) (by omega)) yk_X8_byteAt qw_470 ⟨by decide, by decide⟩ [0, 1, 2] [] rfl rfl rfl rfl (by decide) 0 8 rfl rfl rfl rfl (Nat.le_of_ble_eq_true rfl) dX8_readToken_99 ⟨by decide, by decide⟩ ?_
              rintro _ _ ⟨rfl, rfl⟩
              refine zz_st (st' := [.int (iI (bAt fB tz ga))]) rfl (zz_ws (ws' := wText z th tb tn tz tf tk ga ga fB fN) rfl ?_)
              refine zz_callS (wr := wText z th tb tn tz tf tk ga ga fB fN) (st := []) C (cc_X8_isDigit l z (bAt fB tz ga) (by omega)) yk_X8_isDigit qw_484 ⟨by decide, by decide⟩ [] [0, 1, 2] rfl rfl rfl rfl (by decide) rfl rfl (Nat.le_of_ble_eq_true rfl) dX8_readToken_102 ⟨by decide, by decide⟩ ?_
              rintro _ _ ⟨q_102, hq_102, rfl, rfl⟩
              refine zz_st (st' := [.int (iI q_102)]) rfl (zz_ws (ws' := wText z th tb tn tz tf tk ga ga fB fN) rfl ?_)
              refine zz_if_eq (tgt := 115) C dX8_readToken_105 (by decide) (by unfold rI; omega) (fun c105 => ?_) (fun c105 => ?_)
              · skip
                refine zz_aload_n C 0 dX8_readToken_115 rfl rfl ?_
                refine zz_iconst C dX8_readToken_116 ?_
                refine zz_put (ty := .int) (ws' := wText z th tb tn tz tf 3 ga ga fB fN) C 0 (ci := 8) (k := 4) rfl rfl in_X8 tyX8 tyX8_ok nmX8 (by decide) qw_44 rfl rfl (by decide +kernel) rfl rfl (Nat.le_of_ble_eq_true rfl) rfl dX8_readToken_117 ?_
                refine zz_aload_n C 0 dX8_readToken_120 rfl rfl ?_
                refine zz_aload_n C 0 dX8_readToken_121 rfl rfl ?_
                refine zz_get C 0 (ci := 8) (k := 5) rfl rfl in_X8 (by decide) qw_45 rfl rfl dX8_readToken_122 ?_
                refine zz_iconst C dX8_readToken_125 ?_
                refine zz_iadd C dX8_readToken_126 ?_
                refine zz_put (ty := .int) (ws' := wText z th tb tn tz tf 3 ga (ga + 1) fB fN) C 0 (ci := 8) (k := 6) rfl rfl in_X8 tyX8 tyX8_ok nmX8 (by decide) qw_46 rfl rfl (by decide +kernel) rfl rfl (Nat.le_of_ble_eq_true rfl) rfl dX8_readToken_127 ?_
                exact zz_vret C hr dX8_readToken_130 ⟨ga, _, _, hsk, by first | exact htk | exact Or.inr (Or.inr (Or.inr ⟨by omega, fun h => by have := ltr_iff.mp h; omega, fun h => by have := dgt_iff.mp h; omega, rfl, rfl⟩)), hg, rfl, rfl⟩
              · skip
                refine zz_aload_n C 0 dX8_readToken_108 rfl rfl ?_
                refine zz_callV (wr := ([] : va_W)) (st := []) C (cc_X8_readNumber l z th tb tn tz tf tk ga ga fB fN (by omega) (by omega) (by omega)) yk_X8_readNumber qw_487 ⟨by decide, by decide⟩ [0, 1, 2] [] rfl rfl rfl rfl (by decide) 0 8 rfl rfl rfl rfl (Nat.le_of_ble_eq_true rfl) dX8_readToken_109 ⟨by decide, by decide⟩ ?_
                rintro _ _ ⟨gK_109, gE_109, hE_109, hK_109, rfl, rfl⟩
                refine zz_st (st' := []) rfl (zz_ws (ws' := wText z th tb tn tz tf gK_109 ga gE_109 fB fN) rfl ?_)
                have htk : tokR fB tz ga gK_109 gE_109 := Or.inr (Or.inr (Or.inl ⟨by omega, dgt_iff.mpr (by omega), hE_109, hK_109⟩))
                refine zz_goto (tgt := 130) C dX8_readToken_112 (by decide) ?_
                exact zz_vret C hr dX8_readToken_130 ⟨ga, _, _, hsk, by first | exact htk | exact Or.inr (Or.inr (Or.inr ⟨by omega, fun h => by have := ltr_iff.mp h; omega, fun h => by have := dgt_iff.mp h; omega, rfl, rfl⟩)), hg, rfl, rfl⟩
            · skip
              refine zz_aload_n C 0 dX8_readToken_87 rfl rfl ?_
              refine zz_callV (wr := ([] : va_W)) (st := []) C (cc_X8_readWord l z th tb tn tz tf tk ga ga fB fN (by omega) (by omega) (by omega)) yk_X8_readWord qw_480 ⟨by decide, by decide⟩ [0, 1, 2] [] rfl rfl rfl rfl (by decide) 0 8 rfl rfl rfl rfl (Nat.le_of_ble_eq_true rfl) dX8_readToken_88 ⟨by decide, by decide⟩ ?_
              rintro _ _ ⟨gE_88, hE_88, rfl, rfl⟩
              refine zz_st (st' := []) rfl (zz_ws (ws' := wText z th tb tn tz tf 1 ga gE_88 fB fN) rfl ?_)
              have htk : tokR fB tz ga 1 gE_88 := Or.inr (Or.inl ⟨by omega, ltr_iff.mpr (by omega), rfl, hE_88⟩)
              refine zz_goto (tgt := 130) C dX8_readToken_91 (by decide) ?_
              exact zz_vret C hr dX8_readToken_130 ⟨ga, _, _, hsk, by first | exact htk | exact Or.inr (Or.inr (Or.inr ⟨by omega, fun h => by have := ltr_iff.mp h; omega, fun h => by have := dgt_iff.mp h; omega, rfl, rfl⟩)), hg, rfl, rfl⟩
          · skip
            have htk : tokR fB tz ga 0 ga := Or.inl ⟨by omega, rfl, rfl⟩
            refine zz_aload_n C 0 dX8_readToken_65 rfl rfl ?_
            refine zz_iconst C dX8_readToken_66 ?_
            refine zz_put (ty := .int) (ws' := wText z th tb tn tz tf 0 ga ga fB fN) C 0 (ci := 8) (k := 4) rfl rfl in_X8 tyX8 tyX8_ok nmX8 (by decide) qw_44 rfl rfl (by decide +kernel) rfl rfl (Nat.le_of_ble_eq_true rfl) rfl dX8_readToken_67 ?_
            refine zz_goto (tgt := 130) C dX8_readToken_70 (by decide) ?_
            exact zz_vret C hr dX8_readToken_130 ⟨ga, _, _, hsk, by first | exact htk | exact Or.inr (Or.inr (Or.inr ⟨by omega, fun h => by have := ltr_iff.mp h; omega, fun h => by have := dgt_iff.mp h; omega, rfl, rfl⟩)), hg, rfl, rfl⟩
        · skip
          refine zz_aload_n C 0 dX8_readToken_33 rfl rfl ?_
          refine zz_dup C dX8_readToken_34 rfl ?_
          refine zz_get C 0 (ci := 8) (k := 5) rfl rfl in_X8 (by decide) qw_45 rfl rfl dX8_readToken_35 ?_
          refine zz_iconst C dX8_readToken_38 ?_
          refine zz_iadd C dX8_readToken_39 ?_
          refine zz_put (ty := .int) (ws' := wText z th tb tn tz tf tk (ga + 1) te fB fN) C 0 (ci := 8) (k := 5) rfl rfl in_X8 tyX8 tyX8_ok nmX8 (by decide) qw_45 rfl rfl (by decide +kernel) rfl rfl (Nat.le_of_ble_eq_true rfl) rfl dX8_readToken_40 ?_
          refine zz_goto (tgt := 8) C dX8_readToken_43 (by decide) ?_
          exact ih8 (ga + 1) (by omega) (run_step hrun (blk_iff.mpr (by omega))) (by omega)
  exact Lp8 _ te (by omega) (fun i h0 h1 => by omega) (Nat.lt_succ_self _)
abbrev po_X8_numberOfToken (z : zC) (th : Nat) (tb : Nat) (tn : Nat) (tz : Int) (tf : Int) (tk : Int) (ta : Int) (te : Int) (fB : Int → Int) (fN : Int → Int) : Option Value → va_W → Prop := fun v w => v = some (Value.int (iI (num fB ta te))) ∧ w = wText z th tb tn tz tf tk ta te fB fN
abbrev rm_X8_numberOfToken : Room := { frames := 2, cells := 0, slots := 0, locals := 61 }
set_option maxHeartbeats 4000000 in
set_option maxRecDepth 100000 in
theorem cc_X8_numberOfToken (l : Launch) (z : zC) (th : Nat) (tb : Nat) (tn : Nat) (tz : Int) (tf : Int) (tk : Int) (ta : Int) (te : Int) (fB : Int → Int) (fN : Int → Int) (htz : 0 ≤ tz ∧ tz ≤ 300) (hby : ∀ i : Int, 0 ≤ fB i ∧ fB i < 256) (hta : 0 ≤ ta ∧ ta ≤ te ∧ te ≤ tz) : zzMet l yX8_numberOfToken cX8_numberOfToken 3 (Option.some .int) rm_X8_numberOfToken z [.ref th] (wText z th tb tn tz tf tk ta te fB fN) (po_X8_numberOfToken z th tb tn tz tf tk ta te fB fN) := by
  refine zzMet.of (own := RX8) (ls0 := [(0, .ref th)]) (by decide) rfl (Nat.le_of_ble_eq_true rfl) rfl ?_
  intro p e s m below meth c A C hr hnm
  refine zz_iconst C dX8_numberOfToken_0 ?_
  refine zz_istore_n (ls' := [(1, .int (iI 0)), (0, .ref th)]) C dX8_numberOfToken_1 rfl (by decide) rfl ?_
  refine zz_aload_n C 1 dX8_numberOfToken_2 rfl rfl ?_
  refine zz_get C 0 (ci := 8) (k := 5) rfl rfl in_X8 (by decide) qw_45 rfl rfl dX8_numberOfToken_3 ?_
  refine zz_istore_n (ls' := [(2, .int (iI ta)), (1, .int (iI 0)), (0, .ref th)]) C dX8_numberOfToken_6 rfl (by decide) rfl ?_
  have Lp7 : ∀ (fu9 : Nat) (v : Int) (k : Int), (ta ≤ k ∧ k ≤ te) → (v = num fB ta k) → (te - k).toNat < fu9 → zzW p l e rm_X8_numberOfToken s m ([.ref th] : List Value).toArray below meth c z A 3 (MQ below (zQ z A (po_X8_numberOfToken z th tb tn tz tf tk ta te fB fN)) ([.ref th] : List Value).toArray s 0 0 A) 0 0 (wText z th tb tn tz tf tk ta te fB fN) [(0, .ref th), (1, .int (iI v)), (2, .int (iI k))] [] 7 := by
    intro fu9
    induction fu9 with
    | zero => intro v k hk hv h9; exact absurd h9 (Nat.not_lt_zero _)
    | succ fu9 ih7 =>
      intro v k hk hv hm7
      refine zz_iload_n C 2 dX8_numberOfToken_7 rfl rfl ?_
      refine zz_aload_n C 0 dX8_numberOfToken_8 rfl rfl ?_
      refine zz_get C 0 (ci := 8) (k := 6) rfl rfl in_X8 (by decide) qw_46 rfl rfl dX8_numberOfToken_9 ?_
      refine zz_icmp_ge (tgt := 35) C dX8_numberOfToken_12 (by decide) (by unfold rI; omega) (by unfold rI; omega) (fun c12 => ?_) (fun c12 => ?_)
      · skip
        refine zz_iload_n C 1 dX8_numberOfToken_35 rfl rfl ?_
        exact zz_iret C hr dX8_numberOfToken_36 ⟨zz_vI (by rw [hv, show k = te by omega]), rfl⟩
      · skip
        refine zz_iload_n C 1 dX8_numberOfToken_15 rfl rfl ?_
        refine zz_bipush C dX8_numberOfToken_16 (by decide +kernel) ?_
        refine zz_imul C dX8_numberOfToken_18 ?_
        refine zz_aload_n C 0 dX8_numberOfToken_19 rfl rfl ?_
        refine zz_iload_n C 2 dX8_numberOfToken_20 rfl rfl ?_
        refine zz_callV (wr := ([] : va_W)) (st := [.int (iI (v * 10))]) C (cc_X8_byteAt l z th tb tn tz tf tk ta te fB fN k (by omega) (by omega) (by omega)) yk_X8_byteAt qw_470 ⟨by decide, by decide⟩ [0, 1, 2] [] rfl rfl rfl rfl (by decide) 0 8 rfl rfl rfl rfl (Nat.le_of_ble_eq_true rfl) dX8_numberOfToken_21 ⟨by decide, by decide⟩ ?_
        rintro _ _ ⟨rfl, rfl⟩
        refine zz_st (st' := [.int (iI (bAt fB tz k)), .int (iI (v * 10))]) rfl (zz_ws (ws' := wText z th tb tn tz tf tk ta te fB fN) rfl ?_)
        refine zz_bipush C dX8_numberOfToken_24 (by decide +kernel) ?_
        refine zz_isub C dX8_numberOfToken_26 ?_
        refine zz_iadd C dX8_numberOfToken_27 ?_
        refine zz_istore_n (ls' := [(1, .int (iI ((v * 10) + ((bAt fB tz k) - 48)))), (0, .ref th), (2, .int (iI k))]) C dX8_numberOfToken_28 rfl (by decide) rfl ?_
        refine zz_iinc (ls' := [(2, .int (iI (k + 1))), (1, .int (iI ((v * 10) + ((bAt fB tz k) - 48)))), (0, .ref th)]) C 2 dX8_numberOfToken_29 rfl (by decide) rfl ?_
        refine zz_goto (tgt := 7) C dX8_numberOfToken_32 (by decide) ?_
        refine zz_loc (ls' := [(0, .ref th), (1, .int (iI ((v * 10) + ((bAt fB tz k) - 48)))), (2, .int (iI (k + 1)))]) [2, 1, 0] rfl ?_
        exact ih7 ((v * 10) + ((bAt fB tz k) - 48)) (k + 1) (by omega) (by rw [num_succ _ hk.1, hv, bAt_in (by omega)]; omega) (by omega)
  refine zz_loc (ls' := [(0, .ref th), (1, .int (iI 0)), (2, .int (iI ta))]) [2, 1, 0] rfl ?_
  exact Lp7 _ 0 ta (by omega) (num_0 fB ta).symm (Nat.lt_succ_self _)
abbrev po_X8_tokenIs (z : zC) (th : Nat) (tb : Nat) (tn : Nat) (tz : Int) (tf : Int) (tk : Int) (ta : Int) (te : Int) (fB : Int → Int) (fN : Int → Int) (wi : Nat) : Option Value → va_W → Prop := fun v w => ∃ (q : Int), ((q = 1 ∧ (isW fB ta te wi)) ∨ (q = 0 ∧ ¬ (isW fB ta te wi))) ∧ v = some (Value.int (iI q)) ∧ w = wText z th tb tn tz tf tk ta te fB fN
abbrev rm_X8_tokenIs : Room := { frames := 5, cells := 0, slots := 0, locals := 125 }
set_option maxHeartbeats 4000000 in
set_option maxRecDepth 100000 in
theorem cc_X8_tokenIs (l : Launch) (z : zC) (th : Nat) (tb : Nat) (tn : Nat) (tz : Int) (tf : Int) (tk : Int) (ta : Int) (te : Int) (fB : Int → Int) (fN : Int → Int) (wi : Nat) (htz : 0 ≤ tz ∧ tz ≤ 300) (hby : ∀ i : Int, 0 ≤ fB i ∧ fB i < 256) (hta : 0 ≤ ta ∧ ta ≤ te ∧ te ≤ tz) (hwi : wi < 5) : zzMet l yX8_tokenIs cX8_tokenIs 3 (Option.some .boolean) rm_X8_tokenIs z [.ref th, .ref (z.2.2 (10 + wi))] (wText z th tb tn tz tf tk ta te fB fN) (po_X8_tokenIs z th tb tn tz tf tk ta te fB fN wi) := by
  refine zzMet.of (own := RX8) (ls0 := [(0, .ref th), (1, .ref (z.2.2 (10 + wi)))]) (by decide) rfl (Nat.le_of_ble_eq_true rfl) rfl ?_
  intro p e s m below meth c A C hr hnm
  have hkl := kLen_rng hwi
  refine zz_aload_n C 0 dX8_tokenIs_0 rfl rfl ?_
  refine zz_get C 0 (ci := 8) (k := 6) rfl rfl in_X8 (by decide) qw_46 rfl rfl dX8_tokenIs_1 ?_
  refine zz_aload_n C 0 dX8_tokenIs_4 rfl rfl ?_
  refine zz_get C 0 (ci := 8) (k := 5) rfl rfl in_X8 (by decide) qw_45 rfl rfl dX8_tokenIs_5 ?_
  refine zz_isub C dX8_tokenIs_8 ?_
  refine zz_aload_n C 1 dX8_tokenIs_9 rfl rfl ?_
  refine zz_callK (wr := wText z th tb tn tz tf tk ta te fB fN) (st := [.int (iI (te - ta))]) (wi := wi) C (by omega) (cc_J0_length_8abf5 l z wi (by omega)) yk_J0_length_8abf5 qw_511 ⟨by decide, by decide⟩ [] [0, 1, 2] rfl rfl rfl rfl (by decide) rfl rfl (Nat.le_of_ble_eq_true rfl) dX8_tokenIs_10 ⟨by decide, by decide⟩ ?_
  rintro _ _ ⟨rfl, rfl⟩
  refine zz_st (st' := [.int (iI (kLen wi)), .int (iI (te - ta))]) rfl (zz_ws (ws' := wText z th tb tn tz tf tk ta te fB fN) rfl ?_)
  refine zz_icmp_eq (tgt := 18) C dX8_tokenIs_13 (by decide) (by unfold rI; omega) (by unfold rI; omega) (fun c13 => ?_) (fun c13 => ?_)
  · skip
    refine zz_iconst C dX8_tokenIs_18 ?_
    refine zz_istore_n (ls' := [(2, .int (iI 0)), (0, .ref th), (1, .ref (z.2.2 (10 + wi)))]) C dX8_tokenIs_19 rfl (by decide) rfl ?_
    have Lp20 : ∀ (fu9 : Nat) (k : Int), (0 ≤ k ∧ k ≤ kLen wi) → (∀ i : Int, 0 ≤ i → i < k → fB (ta + i) = kCh wi i) → (kLen wi - k).toNat < fu9 → zzW p l e rm_X8_tokenIs s m ([.ref th, .ref (z.2.2 (10 + wi))] : List Value).toArray below meth c z A 3 (MQ below (zQ z A (po_X8_tokenIs z th tb tn tz tf tk ta te fB fN wi)) ([.ref th, .ref (z.2.2 (10 + wi))] : List Value).toArray s 0 0 A) 0 0 (wText z th tb tn tz tf tk ta te fB fN) [(0, .ref th), (1, .ref (z.2.2 (10 + wi))), (2, .int (iI k))] [] 20 := by
      intro fu9
      induction fu9 with
      | zero => intro k hk hw h9; exact absurd h9 (Nat.not_lt_zero _)
      | succ fu9 ih20 =>
        intro k hk hw hm20
        refine zz_iload_n C 2 dX8_tokenIs_20 rfl rfl ?_
        refine zz_aload_n C 1 dX8_tokenIs_21 rfl rfl ?_
        refine zz_callK (wr := wText z th tb tn tz tf tk ta te fB fN) (st := [.int (iI k)]) (wi := wi) C (by omega) (cc_J0_length_8abf5 l z wi (by omega)) yk_J0_length_8abf5 qw_511 ⟨by decide, by decide⟩ [] [0, 1, 2] rfl rfl rfl rfl (by decide) rfl rfl (Nat.le_of_ble_eq_true rfl) dX8_tokenIs_22 ⟨by decide, by decide⟩ ?_
        rintro _ _ ⟨rfl, rfl⟩
        refine zz_st (st' := [.int (iI (kLen wi)), .int (iI k)]) rfl (zz_ws (ws' := wText z th tb tn tz tf tk ta te fB fN) rfl ?_)
        refine zz_icmp_ge (tgt := 54) C dX8_tokenIs_25 (by decide) (by unfold rI; omega) (by unfold rI; omega) (fun c25 => ?_) (fun c25 => ?_)
        · skip
          refine zz_iconst C dX8_tokenIs_54 ?_
          exact zz_zret C hr (by decide +kernel) dX8_tokenIs_55 ⟨1, Or.inl ⟨rfl, ⟨c13, fun i h0 h1 => hw i h0 (by omega)⟩⟩, rfl, rfl⟩
        · skip
          refine zz_aload_n C 0 dX8_tokenIs_28 rfl rfl ?_
          refine zz_aload_n C 0 dX8_tokenIs_29 rfl rfl ?_
          refine zz_get C 0 (ci := 8) (k := 5) rfl rfl in_X8 (by decide) qw_45 rfl rfl dX8_tokenIs_30 ?_
          refine zz_iload_n C 2 dX8_tokenIs_33 rfl rfl ?_
          refine zz_iadd C dX8_tokenIs_34 ?_
          refine zz_callV (wr := ([] : va_W)) (st := []) C (cc_X8_byteAt l z th tb tn tz tf tk ta te fB fN (ta + k) (by omega) (by omega) (by omega)) yk_X8_byteAt qw_470 ⟨by decide, by decide⟩ [0, 1, 2] [] rfl rfl rfl rfl (by decide) 0 8 rfl rfl rfl rfl (Nat.le_of_ble_eq_true rfl) dX8_tokenIs_35 ⟨by decide, by decide⟩ ?_
          rintro _ _ ⟨rfl, rfl⟩
          refine zz_st (st' := [.int (iI (bAt fB tz (ta + k)))]) rfl (zz_ws (ws' := wText z th tb tn tz tf tk ta te fB fN) rfl ?_)
          have hb35 := bAt_in (f := fB) (n := tz) (p := ta + k) (by omega)
          have hy35 := hby (ta + k)
          have hkc := kCh_rng hwi (k := k) (by omega) (by omega)
          refine zz_aload_n C 1 dX8_tokenIs_38 rfl rfl ?_
          refine zz_iload_n C 2 dX8_tokenIs_39 rfl rfl ?_
          refine zz_callK (wr := wText z th tb tn tz tf tk ta te fB fN) (st := [.int (iI (bAt fB tz (ta + k)))]) (wi := wi) C (by omega) (cc_J0_charAt_5068e l z wi k (by omega) (by omega)) yk_J0_charAt_5068e qw_521 ⟨by decide, by decide⟩ [] [0, 1, 2] rfl rfl rfl rfl (by decide) rfl rfl (Nat.le_of_ble_eq_true rfl) dX8_tokenIs_40 ⟨by decide, by decide⟩ ?_
          rintro _ _ ⟨rfl, rfl⟩
          refine zz_st (st' := [.int (iI (kCh wi k)), .int (iI (bAt fB tz (ta + k)))]) rfl (zz_ws (ws' := wText z th tb tn tz tf tk ta te fB fN) rfl ?_)
          refine zz_icmp_eq (tgt := 48) C dX8_tokenIs_43 (by decide) (by unfold rI; omega) (by unfold rI; omega) (fun c43 => ?_) (fun c43 => ?_)
          · skip
            refine zz_iinc (ls' := [(2, .int (iI (k + 1))), (0, .ref th), (1, .ref (z.2.2 (10 + wi)))]) C 2 dX8_tokenIs_48 rfl (by decide) rfl ?_
            refine zz_goto (tgt := 20) C dX8_tokenIs_51 (by decide) ?_
            refine zz_loc (ls' := [(0, .ref th), (1, .ref (z.2.2 (10 + wi))), (2, .int (iI (k + 1)))]) [1, 2, 0] rfl ?_
            exact ih20 (k + 1) (by omega) (fun i h0 h1 => by by_cases e9 : i = k; rw [e9, ← hb35]; exact c43; exact hw i h0 (by omega)) (by omega)
          · skip
            refine zz_iconst C dX8_tokenIs_46 ?_
            exact zz_zret C hr (by decide +kernel) dX8_tokenIs_47 ⟨0, Or.inr ⟨rfl, fun h => c43 (by rw [hb35]; exact h.2 k (by omega) (by omega))⟩, rfl, rfl⟩
    refine zz_loc (ls' := [(0, .ref th), (1, .ref (z.2.2 (10 + wi))), (2, .int (iI 0))]) [1, 2, 0] rfl ?_
    exact Lp20 _ 0 (by omega) (fun i h0 h1 => by omega) (Nat.lt_succ_self _)
  · skip
    refine zz_iconst C dX8_tokenIs_16 ?_
    exact zz_zret C hr (by decide +kernel) dX8_tokenIs_17 ⟨0, Or.inr ⟨rfl, fun h => c13 h.1⟩, rfl, rfl⟩
abbrev po_X8_wordOf (z : zC) (st9 : Int) : Option Value → va_W → Prop := fun v w => v = some (Value.ref (z.2.2 (10 + st9.toNat))) ∧ w = ([] : va_W)
abbrev rm_X8_wordOf : Room := { frames := 1, cells := 0, slots := 0, locals := 40 }
set_option maxHeartbeats 4000000 in
set_option maxRecDepth 100000 in
theorem cc_X8_wordOf (l : Launch) (z : zC) (st9 : Int) (hst9 : 0 ≤ st9 ∧ st9 ≤ 4) : zzMet l yX8_wordOf cX8_wordOf 1 (Option.some (.object "java/lang/String")) rm_X8_wordOf z [.int (iI st9)] (([] : va_W)) (po_X8_wordOf z st9) := by
  refine zzMet.of (own := RX8) (ls0 := [(0, .int (iI st9))]) (by decide) rfl (Nat.le_of_ble_eq_true rfl) rfl ?_
  intro p e s m below meth c A C hr hnm
  refine zz_iload_n C 0 dX8_wordOf_0 rfl rfl ?_
  rcases (show st9 = 0 ∨ st9 = 1 ∨ st9 = 2 ∨ st9 = 3 ∨ (st9 < 0 ∨ 3 < st9) by omega) with c1 | c1 | c1 | c1 | c1
  · skip
    refine zz_tabIn (tgt := 32) C 0 dX8_wordOf_1 c1 (by unfold rI; omega) (by decide) (by decide) rfl (by decide) ?_
    refine zz_ldcS C C.2.2.2.1.2.2.2.2.2.2.1.1 dX8_wordOf_32 ?_
    exact zz_aret C hr dX8_wordOf_34 ⟨by rw [c1]; rfl, rfl⟩
  · skip
    refine zz_tabIn (tgt := 35) C 1 dX8_wordOf_1 c1 (by unfold rI; omega) (by decide) (by decide) rfl (by decide) ?_
    refine zz_ldcS C C.2.2.2.1.2.2.2.2.2.2.1.2.1 dX8_wordOf_35 ?_
    exact zz_aret C hr dX8_wordOf_37 ⟨by rw [c1]; rfl, rfl⟩
  · skip
    refine zz_tabIn (tgt := 38) C 2 dX8_wordOf_1 c1 (by unfold rI; omega) (by decide) (by decide) rfl (by decide) ?_
    refine zz_ldcS C C.2.2.2.1.2.2.2.2.2.2.1.2.2.1 dX8_wordOf_38 ?_
    exact zz_aret C hr dX8_wordOf_40 ⟨by rw [c1]; rfl, rfl⟩
  · skip
    refine zz_tabIn (tgt := 41) C 3 dX8_wordOf_1 c1 (by unfold rI; omega) (by decide) (by decide) rfl (by decide) ?_
    refine zz_ldcS C C.2.2.2.1.2.2.2.2.2.2.1.2.2.2.1 dX8_wordOf_41 ?_
    exact zz_aret C hr dX8_wordOf_43 ⟨by rw [c1]; rfl, rfl⟩
  · skip
    refine zz_tabOut (tgt := 44) C dX8_wordOf_1 (by unfold rI; omega) c1 (by decide) ?_
    refine zz_ldcS C C.2.2.2.1.2.2.2.2.2.2.1.2.2.2.2.1 dX8_wordOf_44 ?_
    exact zz_aret C hr dX8_wordOf_46 ⟨by rw [show st9 = 4 by omega]; rfl, rfl⟩
abbrev po_X8_statementOfToken (z : zC) (th : Nat) (tb : Nat) (tn : Nat) (tz : Int) (tf : Int) (tk : Int) (ta : Int) (te : Int) (fB : Int → Int) (fN : Int → Int) : Option Value → va_W → Prop := fun v w => v = some (Value.int (iI (wkd fB ta (rn ltr fB tz ta)))) ∧ w = wText z th tb tn tz tf tk ta te fB fN
abbrev rm_X8_statementOfToken : Room := { frames := 6, cells := 0, slots := 0, locals := 147 }
set_option maxHeartbeats 4000000 in
set_option maxRecDepth 100000 in
theorem cc_X8_statementOfToken (l : Launch) (z : zC) (th : Nat) (tb : Nat) (tn : Nat) (tz : Int) (tf : Int) (tk : Int) (ta : Int) (te : Int) (fB : Int → Int) (fN : Int → Int) (htz : 0 ≤ tz ∧ tz ≤ 300) (hby : ∀ i : Int, 0 ≤ fB i ∧ fB i < 256) (hta : 0 ≤ ta ∧ ta ≤ tz) (hR : tokR fB tz ta tk te) : zzMet l yX8_statementOfToken cX8_statementOfToken 2 (Option.some .int) rm_X8_statementOfToken z [.ref th] (wText z th tb tn tz tf tk ta te fB fN) (po_X8_statementOfToken z th tb tn tz tf tk ta te fB fN) := by
  refine zzMet.of (own := RX8) (ls0 := [(0, .ref th)]) (by decide) rfl (Nat.le_of_ble_eq_true rfl) rfl ?_
  intro p e s m below meth c A C hr hnm
  have hrr := tok_rng hR hta.2
  have hww := tok_word hR hta.2
  refine zz_aload_n C 0 dX8_statementOfToken_0 rfl rfl ?_
  refine zz_get C 0 (ci := 8) (k := 4) rfl rfl in_X8 (by decide) qw_44 rfl rfl dX8_statementOfToken_1 ?_
  refine zz_iconst C dX8_statementOfToken_4 ?_
  refine zz_icmp_eq (tgt := 10) C dX8_statementOfToken_5 (by decide) (by unfold rI; omega) (by unfold rI; omega) (fun c5 => ?_) (fun c5 => ?_)
  · skip
    refine zz_iconst C dX8_statementOfToken_10 ?_
    refine zz_istore_n (ls' := [(1, .int (iI 0)), (0, .ref th)]) C dX8_statementOfToken_11 rfl (by decide) rfl ?_
    have Lp12 : ∀ (fu9 : Nat) (k : Int), (0 ≤ k ∧ k ≤ 5) → (∀ j : Nat, j < k.toNat → ¬ isW fB ta te j) → (5 - k).toNat < fu9 → zzW p l e rm_X8_statementOfToken s m ([.ref th] : List Value).toArray below meth c z A 2 (MQ below (zQ z A (po_X8_statementOfToken z th tb tn tz tf tk ta te fB fN)) ([.ref th] : List Value).toArray s 0 0 A) 0 0 (wText z th tb tn tz tf tk ta te fB fN) [(0, .ref th), (1, .int (iI k))] [] 12 := by
      intro fu9
      induction fu9 with
      | zero => intro k hk hn h9; exact absurd h9 (Nat.not_lt_zero _)
      | succ fu9 ih12 =>
        intro k hk hn hm12
        have het := (hww.resolve_right (fun h => h.1 c5)).2
        refine zz_iload_n C 1 dX8_statementOfToken_12 rfl rfl ?_
        refine zz_iconst C dX8_statementOfToken_13 ?_
        refine zz_icmp_ge (tgt := 36) C dX8_statementOfToken_14 (by decide) (by unfold rI; omega) (by unfold rI; omega) (fun c14 => ?_) (fun c14 => ?_)
        · skip
          refine zz_iconst C dX8_statementOfToken_36 ?_
          exact zz_iret C hr dX8_statementOfToken_37 ⟨zz_vI (by rw [← het]; exact (wkd_no (fun j hj => hn j (by omega))).symm), rfl⟩
        · skip
          refine zz_aload_n C 0 dX8_statementOfToken_17 rfl rfl ?_
          refine zz_iload_n C 1 dX8_statementOfToken_18 rfl rfl ?_
          refine zz_callS (wr := wText z th tb tn tz tf tk ta te fB fN) (st := [.ref th]) C (cc_X8_wordOf l z k (by omega)) yk_X8_wordOf qw_499 ⟨by decide, by decide⟩ [] [0, 1, 2] rfl rfl rfl rfl (by decide) rfl rfl (Nat.le_of_ble_eq_true rfl) dX8_statementOfToken_19 ⟨by decide, by decide⟩ ?_
          rintro _ _ ⟨rfl, rfl⟩
          refine zz_st (st' := [.ref (z.2.2 (10 + k.toNat)), .ref th]) rfl (zz_ws (ws' := wText z th tb tn tz tf tk ta te fB fN) rfl ?_)
          refine zz_callV (wr := ([] : va_W)) (st := []) C (cc_X8_tokenIs l z th tb tn tz tf tk ta te fB fN k.toNat (by omega) (by omega) (by omega) (by omega)) yk_X8_tokenIs qw_507 ⟨by decide, by decide⟩ [0, 1, 2] [] rfl rfl rfl rfl (by decide) 0 8 rfl rfl rfl rfl (Nat.le_of_ble_eq_true rfl) dX8_statementOfToken_22 ⟨by decide, by decide⟩ ?_
          rintro _ _ ⟨q_22, hq_22, rfl, rfl⟩
          refine zz_st (st' := [.int (iI q_22)]) rfl (zz_ws (ws' := wText z th tb tn tz tf tk ta te fB fN) rfl ?_)
          refine zz_if_eq (tgt := 30) C dX8_statementOfToken_25 (by decide) (by unfold rI; omega) (fun c25 => ?_) (fun c25 => ?_)
          · skip
            refine zz_iinc (ls' := [(1, .int (iI (k + 1))), (0, .ref th)]) C 1 dX8_statementOfToken_30 rfl (by decide) rfl ?_
            refine zz_goto (tgt := 12) C dX8_statementOfToken_33 (by decide) ?_
            refine zz_loc (ls' := [(0, .ref th), (1, .int (iI (k + 1)))]) [1, 0] rfl ?_
            exact ih12 (k + 1) (by omega) (fun j hj => by by_cases e9 : j = k.toNat; rw [e9]; exact (hq_22.resolve_left (fun h => by omega)).2; exact hn j (by omega)) (by omega)
          · skip
            refine zz_iload_n C 1 dX8_statementOfToken_28 rfl rfl ?_
            exact zz_iret C hr dX8_statementOfToken_29 ⟨zz_vI (by rw [← het]; exact (wkd_at (by omega) hn (hq_22.resolve_right (fun h => by omega)).2).symm), rfl⟩
    refine zz_loc (ls' := [(0, .ref th), (1, .int (iI 0))]) [1, 0] rfl ?_
    exact Lp12 _ 0 (by omega) (fun j hj => by omega) (Nat.lt_succ_self _)
  · skip
    refine zz_iconst C dX8_statementOfToken_8 ?_
    exact zz_iret C hr dX8_statementOfToken_9 ⟨zz_vI ((hww.resolve_left (fun h => c5 h.1)).2.symm), rfl⟩
