def lCount (pd pb tz lm w : Int) : Int := if w = 0 then pd else if w = 1 then pb else if w = 2 then tz else if w = 3 then lm else -1
def lDate (pd : Int) (fP fR : Int → Int) (d w : Int) : Int := if 1 ≤ d ∧ d ≤ pd then (if w = 0 then plAt pd fP d else if w = 1 then plAt pd fR d else -1) else -1
/-- there is always a first date below 0, or none -/
theorem fstNeg_ex (B : Int → Int) : ∀ n : Nat, ∃ f : Int, fstNeg B (n : Int) f
  | 0 => ⟨0, fstNeg_0 B⟩
  | n + 1 => by
    obtain ⟨f, h⟩ := fstNeg_ex B n
    have e : ((n + 1 : Nat) : Int) - 1 = (n : Int) := by omega
    rw [← e] at h
    by_cases h1 : 0 ≤ B ((n + 1 : Nat) : Int)
    · exact ⟨f, fstNeg_ok h rfl h1⟩
    · by_cases h2 : f = 0
      · exact ⟨_, fstNeg_new h rfl (by omega) h2 (by omega)⟩
      · exact ⟨f, fstNeg_keep h rfl h2⟩
theorem fstNeg_ex2 (B : Int → Int) {n : Int} (h : 0 ≤ n) : ∃ f : Int, fstNeg B n f := by
  obtain ⟨f, hf⟩ := fstNeg_ex B n.toNat
  rw [Int.toNat_of_nonneg h] at hf
  exact ⟨f, hf⟩
theorem noBal {pd pb : Int} {fP fR fT : Int → Int} {st : Int} (hd : 1 ≤ pd ∧ pd ≤ 4) (_ : 0 ≤ pb ∧ pb ≤ 5) (_ : ∀ i : Int, 0 ≤ fP i ∧ fP i ≤ 200) (_ : ∀ i : Int, 0 ≤ fR i ∧ fR i ≤ 6) (_ : ∀ i : Int, 0 ≤ fT i ∧ fT i ≤ 200) (_ : 0 ≤ st ∧ st ≤ 9999) (un : Int) {t : Int} (ht : ¬ (0 ≤ t ∧ t ≤ pd)) : isBal (plBal pd pb fP fR fT st) pd t un (-1) := by
  obtain ⟨f, hf⟩ := fstNeg_ex2 (plBal pd pb fP fR fT st) (n := pd) (by omega)
  exact ⟨f, hf, Or.inr ⟨fun h => ht h.1, rfl⟩⟩
theorem noLak {pd pb : Int} {fP fR fT : Int → Int} {st : Int} (hd : 1 ≤ pd ∧ pd ≤ 4) (_ : 0 ≤ pb ∧ pb ≤ 5) (_ : ∀ i : Int, 0 ≤ fP i ∧ fP i ≤ 200) (_ : ∀ i : Int, 0 ≤ fR i ∧ fR i ≤ 6) (_ : ∀ i : Int, 0 ≤ fT i ∧ fT i ≤ 200) (_ : 0 ≤ st ∧ st ≤ 9999) (un : Int) {t : Int} {cr : Int → Int} (ht : ¬ (0 ≤ t ∧ t ≤ pd)) : isLak (plBal pd pb fP fR fT st) cr pd t un (-1) := by
  obtain ⟨f, hf⟩ := fstNeg_ex2 (plBal pd pb fP fR fT st) (n := pd) (by omega)
  exact ⟨f, hf, Or.inr ⟨fun h => ht h.1, rfl⟩⟩

abbrev po_X9_forgetAnswers (z : zC) (lh : Nat) (lt : Nat) (lb : Nat) (lc : Nat) (lr : Nat) (lp : Nat) (ld : Nat) (lm : Int) (lf : Int) (lk : Int) (lq : Int) : Option Value → va_W → Prop := fun v w => v = none ∧ w = wLM z lh lt lb lc lr lp ld lm lf 0 0
abbrev rm_X9_forgetAnswers : Room := { frames := 1, cells := 0, slots := 0, locals := 40 }
set_option maxHeartbeats 4000000 in
set_option maxRecDepth 100000 in
theorem cc_X9_forgetAnswers (l : Launch) (z : zC) (lh : Nat) (lt : Nat) (lb : Nat) (lc : Nat) (lr : Nat) (lp : Nat) (ld : Nat) (lm : Int) (lf : Int) (lk : Int) (lq : Int)  : zzMet l yX9_forgetAnswers cX9_forgetAnswers 1 none rm_X9_forgetAnswers z [.ref lh] (wLM z lh lt lb lc lr lp ld lm lf lk lq) (po_X9_forgetAnswers z lh lt lb lc lr lp ld lm lf lk lq) := by
  refine zzMet.of (own := RX9) (ls0 := [(0, .ref lh)]) (by decide) rfl (Nat.le_of_ble_eq_true rfl) rfl ?_
  intro p e s m below meth c A C hr hnm
  refine zz_aload_n C 0 dX9_forgetAnswers_0 rfl rfl ?_
  refine zz_iconst C dX9_forgetAnswers_1 ?_
  refine zz_put (ty := .boolean) (ws' := wLM z lh lt lb lc lr lp ld lm lf 0 lq) C 0 (ci := 9) (k := 8) rfl rfl in_X9 tyX9 tyX9_ok nmX9 (by decide) qw_324 rfl rfl (by decide +kernel) (by decide +kernel) (by decide +kernel) (Nat.le_of_ble_eq_true rfl) rfl dX9_forgetAnswers_2 ?_
  refine zz_aload_n C 0 dX9_forgetAnswers_5 rfl rfl ?_
  refine zz_iconst C dX9_forgetAnswers_6 ?_
  refine zz_put (ty := .boolean) (ws' := wLM z lh lt lb lc lr lp ld lm lf 0 0) C 0 (ci := 9) (k := 9) rfl rfl in_X9 tyX9 tyX9_ok nmX9 (by decide) qw_325 rfl rfl (by decide +kernel) (by decide +kernel) (by decide +kernel) (Nat.le_of_ble_eq_true rfl) rfl dX9_forgetAnswers_7 ?_
  exact zz_vret C hr dX9_forgetAnswers_10 ⟨rfl, rfl⟩
abbrev po_X9_dates (z : zC) (lh : Nat) (lt : Nat) (lb : Nat) (lc : Nat) (lr : Nat) (ld : Nat) (lm : Int) (lf : Int) (lk : Int) (lq : Int) (ph : Nat) (pa : Nat) (pr : Nat) (pt : Nat) (pd : Int) (pb : Int) (fP : Int → Int) (fR : Int → Int) (fT : Int → Int) (t9 : Int) : Option Value → va_W → Prop := fun v w => ∃ (q : Int), ∃ (gd : Int), ∃ (gb : Int), ∃ (gP : Int → Int), ∃ (gR : Int → Int), ∃ (gk : Int), ∃ (gq : Int), ((q = 1 ∧ (1 ≤ t9 ∧ t9 ≤ 4) ∧ gd = t9 ∧ gb = 0 ∧ (∀ i : Int, gP i = if 0 ≤ i ∧ i < 5 then 0 else fP i) ∧ (∀ i : Int, gR i = if 0 ≤ i ∧ i < 5 then 0 else fR i) ∧ gk = 0 ∧ gq = 0) ∨ (q = 0 ∧ ¬ (1 ≤ t9 ∧ t9 ≤ 4) ∧ gd = pd ∧ gb = pb ∧ gP = fP ∧ gR = fR ∧ gk = lk ∧ gq = lq)) ∧ v = some (Value.int (iI q)) ∧ w = (wLM z lh lt lb lc lr ph ld lm lf gk gq) ++ (wPlan z ph pa pr pt gd gb gP gR fT)
abbrev rm_X9_dates : Room := { frames := 3, cells := 0, slots := 0, locals := 83 }
set_option maxHeartbeats 4000000 in
set_option maxRecDepth 100000 in
theorem cc_X9_dates (l : Launch) (z : zC) (lh : Nat) (lt : Nat) (lb : Nat) (lc : Nat) (lr : Nat) (ld : Nat) (lm : Int) (lf : Int) (lk : Int) (lq : Int) (ph : Nat) (pa : Nat) (pr : Nat) (pt : Nat) (pd : Int) (pb : Int) (fP : Int → Int) (fR : Int → Int) (fT : Int → Int) (t9 : Int) (hpd : 1 ≤ pd ∧ pd ≤ 4) (hpb : 0 ≤ pb ∧ pb ≤ 5) (ht9 : -2147483648 ≤ t9 ∧ t9 < 2147483648) : zzMet l yX9_dates cX9_dates 2 (Option.some .boolean) rm_X9_dates z [.ref lh, .int (iI t9)] ((wLM z lh lt lb lc lr ph ld lm lf lk lq) ++ (wPlan z ph pa pr pt pd pb fP fR fT)) (po_X9_dates z lh lt lb lc lr ld lm lf lk lq ph pa pr pt pd pb fP fR fT t9) := by
  refine zzMet.of (own := RX9) (ls0 := [(0, .ref lh), (1, .int (iI t9))]) (by decide) rfl (Nat.le_of_ble_eq_true rfl) rfl ?_
  intro p e s m below meth c A C hr hnm
  refine zz_aload_n C 0 dX9_dates_0 rfl rfl ?_
  refine zz_get C 0 (ci := 9) (k := 4) rfl rfl in_X9 (by decide) qw_320 rfl rfl dX9_dates_1 ?_
  refine zz_iconst C dX9_dates_4 ?_
  refine zz_iload_n C 1 dX9_dates_5 rfl rfl ?_
  refine zz_callV (wr := wLM z lh lt lb lc lr ph ld lm lf lk lq) (st := []) C (cc_X6_fits_0 l z ph pa pr pt pd pb fP fR fT t9 (by omega) (by omega) (by omega)) yk_X6_fits qw_351 ⟨by decide, by decide⟩ [1, 2, 3, 4] [0] rfl rfl rfl rfl (by decide) 0 6 rfl rfl rfl rfl (Nat.le_of_ble_eq_true rfl) dX9_dates_6 ⟨by decide, by decide⟩ ?_
  rintro _ _ ⟨q_6, hq_6, rfl, rfl⟩
  refine zz_st (st' := [.int (iI q_6)]) rfl (zz_ws (ws' := (wLM z lh lt lb lc lr ph ld lm lf lk lq) ++ (wPlan z ph pa pr pt pd pb fP fR fT)) rfl ?_)
  refine zz_if_ne (tgt := 14) C dX9_dates_9 (by decide) (by unfold rI; omega) (fun c9 => ?_) (fun c9 => ?_)
  · skip
    refine zz_aload_n C 0 dX9_dates_14 rfl rfl ?_
    refine zz_get C 0 (ci := 9) (k := 4) rfl rfl in_X9 (by decide) qw_320 rfl rfl dX9_dates_15 ?_
    refine zz_iload_n C 1 dX9_dates_18 rfl rfl ?_
    refine zz_callV (wr := wLM z lh lt lb lc lr ph ld lm lf lk lq) (st := []) C (cc_X6_begin l z ph pa pr pt pd pb fP fR fT t9 (by omega)) yk_X6_begin qw_363 ⟨by decide, by decide⟩ [1, 2, 3, 4] [0] rfl rfl rfl rfl (by decide) 0 6 rfl rfl rfl rfl (Nat.le_of_ble_eq_true rfl) dX9_dates_19 ⟨by decide, by decide⟩ ?_
    rintro _ _ ⟨gP_19, gR_19, hgP_19, hgR_19, rfl, rfl⟩
    refine zz_st (st' := []) rfl (zz_ws (ws' := (wLM z lh lt lb lc lr ph ld lm lf lk lq) ++ (wPlan z ph pa pr pt t9 0 gP_19 gR_19 fT)) rfl ?_)
    refine zz_aload_n C 0 dX9_dates_22 rfl rfl ?_
    refine zz_callV (wr := wPlan z ph pa pr pt t9 0 gP_19 gR_19 fT) (st := []) C (cc_X9_forgetAnswers l z lh lt lb lc lr ph ld lm lf lk lq ) yk_X9_forgetAnswers qw_367 ⟨by decide, by decide⟩ [0] [1, 2, 3, 4] rfl rfl rfl rfl (by decide) 0 9 rfl rfl rfl rfl (Nat.le_of_ble_eq_true rfl) dX9_dates_23 ⟨by decide, by decide⟩ ?_
    rintro _ _ ⟨rfl, rfl⟩
    refine zz_st (st' := []) rfl (zz_ws (ws' := (wPlan z ph pa pr pt t9 0 gP_19 gR_19 fT) ++ (wLM z lh lt lb lc lr ph ld lm lf 0 0)) rfl ?_)
    refine zz_iconst C dX9_dates_26 ?_
    refine zz_sub (ws' := (wLM z lh lt lb lc lr ph ld lm lf 0 0) ++ (wPlan z ph pa pr pt t9 0 gP_19 gR_19 fT)) [4, 0, 1, 2, 3] rfl rfl ?_
    exact zz_zret C hr (by decide +kernel) dX9_dates_27 ⟨1, _, _, _, _, _, _, Or.inl ⟨rfl, by omega, rfl, rfl, hgP_19, hgR_19, rfl, rfl⟩, rfl, rfl⟩
  · skip
    refine zz_iconst C dX9_dates_12 ?_
    exact zz_zret C hr (by decide +kernel) dX9_dates_13 ⟨0, _, _, _, _, _, _, Or.inr ⟨rfl, by omega, rfl, rfl, rfl, rfl, rfl, rfl⟩, rfl, rfl⟩
abbrev po_X9_pay (z : zC) (lh : Nat) (lt : Nat) (lb : Nat) (lc : Nat) (lr : Nat) (ld : Nat) (lm : Int) (lf : Int) (lk : Int) (lq : Int) (ph : Nat) (pa : Nat) (pr : Nat) (pt : Nat) (pd : Int) (pb : Int) (fP : Int → Int) (fR : Int → Int) (fT : Int → Int) (d9 : Int) (v9 : Int) : Option Value → va_W → Prop := fun v w => ∃ (q : Int), ∃ (g9 : Int → Int), ∃ (gk : Int), ∃ (gq : Int), ((q = 1 ∧ ((1 ≤ d9 ∧ d9 ≤ pd) ∧ (0 ≤ v9 ∧ v9 ≤ 200)) ∧ g9 = zup fP d9 v9 ∧ gk = 0 ∧ gq = 0) ∨ (q = 0 ∧ ¬ ((1 ≤ d9 ∧ d9 ≤ pd) ∧ (0 ≤ v9 ∧ v9 ≤ 200)) ∧ g9 = fP ∧ gk = lk ∧ gq = lq)) ∧ v = some (Value.int (iI q)) ∧ w = (wLM z lh lt lb lc lr ph ld lm lf gk gq) ++ (wPlan z ph pa pr pt pd pb g9 fR fT)
abbrev rm_X9_pay : Room := { frames := 3, cells := 0, slots := 0, locals := 83 }
set_option maxHeartbeats 4000000 in
set_option maxRecDepth 100000 in
theorem cc_X9_pay (l : Launch) (z : zC) (lh : Nat) (lt : Nat) (lb : Nat) (lc : Nat) (lr : Nat) (ld : Nat) (lm : Int) (lf : Int) (lk : Int) (lq : Int) (ph : Nat) (pa : Nat) (pr : Nat) (pt : Nat) (pd : Int) (pb : Int) (fP : Int → Int) (fR : Int → Int) (fT : Int → Int) (d9 : Int) (v9 : Int) (hpd : 1 ≤ pd ∧ pd ≤ 4) (hpb : 0 ≤ pb ∧ pb ≤ 5) (hd9 : -2147483648 ≤ d9 ∧ d9 < 2147483648) (hv9 : -2147483648 ≤ v9 ∧ v9 < 2147483648) : zzMet l yX9_pay cX9_pay 3 (Option.some .boolean) rm_X9_pay z [.ref lh, .int (iI d9), .int (iI v9)] ((wLM z lh lt lb lc lr ph ld lm lf lk lq) ++ (wPlan z ph pa pr pt pd pb fP fR fT)) (po_X9_pay z lh lt lb lc lr ld lm lf lk lq ph pa pr pt pd pb fP fR fT d9 v9) := by
  refine zzMet.of (own := RX9) (ls0 := [(0, .ref lh), (1, .int (iI d9)), (2, .int (iI v9))]) (by decide) rfl (Nat.le_of_ble_eq_true rfl) rfl ?_
  intro p e s m below meth c A C hr hnm
  refine zz_aload_n C 0 dX9_pay_0 rfl rfl ?_
  refine zz_get C 0 (ci := 9) (k := 4) rfl rfl in_X9 (by decide) qw_320 rfl rfl dX9_pay_1 ?_
  refine zz_iconst C dX9_pay_4 ?_
  refine zz_iload_n C 1 dX9_pay_5 rfl rfl ?_
  refine zz_callV (wr := wLM z lh lt lb lc lr ph ld lm lf lk lq) (st := []) C (cc_X6_fits_1 l z ph pa pr pt pd pb fP fR fT d9 (by omega) (by omega) (by omega)) yk_X6_fits qw_351 ⟨by decide, by decide⟩ [1, 2, 3, 4] [0] rfl rfl rfl rfl (by decide) 0 6 rfl rfl rfl rfl (Nat.le_of_ble_eq_true rfl) dX9_pay_6 ⟨by decide, by decide⟩ ?_
  rintro _ _ ⟨q_6, hq_6, rfl, rfl⟩
  refine zz_st (st' := [.int (iI q_6)]) rfl (zz_ws (ws' := (wLM z lh lt lb lc lr ph ld lm lf lk lq) ++ (wPlan z ph pa pr pt pd pb fP fR fT)) rfl ?_)
  refine zz_if_eq (tgt := 24) C dX9_pay_9 (by decide) (by unfold rI; omega) (fun c9 => ?_) (fun c9 => ?_)
  · skip
    refine zz_iconst C dX9_pay_24 ?_
    exact zz_zret C hr (by decide +kernel) dX9_pay_25 ⟨0, _, _, _, Or.inr ⟨rfl, by omega, rfl, rfl, rfl⟩, rfl, rfl⟩
  · skip
    refine zz_aload_n C 0 dX9_pay_12 rfl rfl ?_
    refine zz_get C 0 (ci := 9) (k := 4) rfl rfl in_X9 (by decide) qw_320 rfl rfl dX9_pay_13 ?_
    refine zz_iconst C dX9_pay_16 ?_
    refine zz_iload_n C 2 dX9_pay_17 rfl rfl ?_
    refine zz_callV (wr := wLM z lh lt lb lc lr ph ld lm lf lk lq) (st := []) C (cc_X6_fits_2 l z ph pa pr pt pd pb fP fR fT v9 (by omega) (by omega) (by omega)) yk_X6_fits qw_351 ⟨by decide, by decide⟩ [1, 2, 3, 4] [0] rfl rfl rfl rfl (by decide) 0 6 rfl rfl rfl rfl (Nat.le_of_ble_eq_true rfl) dX9_pay_18 ⟨by decide, by decide⟩ ?_
    rintro _ _ ⟨q_18, hq_18, rfl, rfl⟩
    refine zz_st (st' := [.int (iI q_18)]) rfl (zz_ws (ws' := (wLM z lh lt lb lc lr ph ld lm lf lk lq) ++ (wPlan z ph pa pr pt pd pb fP fR fT)) rfl ?_)
    refine zz_if_ne (tgt := 26) C dX9_pay_21 (by decide) (by unfold rI; omega) (fun c21 => ?_) (fun c21 => ?_)
    · skip
      refine zz_aload_n C 0 dX9_pay_26 rfl rfl ?_
      refine zz_get C 0 (ci := 9) (k := 4) rfl rfl in_X9 (by decide) qw_320 rfl rfl dX9_pay_27 ?_
      refine zz_iload_n C 1 dX9_pay_30 rfl rfl ?_
      refine zz_iload_n C 2 dX9_pay_31 rfl rfl ?_
      refine zz_callV (wr := wLM z lh lt lb lc lr ph ld lm lf lk lq) (st := []) C (cc_X6_setPaid l z ph pa pr pt pd pb fP fR fT d9 v9 (by omega) (by omega) (by omega)) yk_X6_setPaid qw_375 ⟨by decide, by decide⟩ [1, 2, 3, 4] [0] rfl rfl rfl rfl (by decide) 0 6 rfl rfl rfl rfl (Nat.le_of_ble_eq_true rfl) dX9_pay_32 ⟨by decide, by decide⟩ ?_
      rintro _ _ ⟨rfl, rfl⟩
      refine zz_st (st' := []) rfl (zz_ws (ws' := (wLM z lh lt lb lc lr ph ld lm lf lk lq) ++ (wPlan z ph pa pr pt pd pb (zup fP d9 v9) fR fT)) rfl ?_)
      refine zz_aload_n C 0 dX9_pay_35 rfl rfl ?_
      refine zz_callV (wr := wPlan z ph pa pr pt pd pb (zup fP d9 v9) fR fT) (st := []) C (cc_X9_forgetAnswers l z lh lt lb lc lr ph ld lm lf lk lq ) yk_X9_forgetAnswers qw_367 ⟨by decide, by decide⟩ [0] [1, 2, 3, 4] rfl rfl rfl rfl (by decide) 0 9 rfl rfl rfl rfl (Nat.le_of_ble_eq_true rfl) dX9_pay_36 ⟨by decide, by decide⟩ ?_
      rintro _ _ ⟨rfl, rfl⟩
      refine zz_st (st' := []) rfl (zz_ws (ws' := (wPlan z ph pa pr pt pd pb (zup fP d9 v9) fR fT) ++ (wLM z lh lt lb lc lr ph ld lm lf 0 0)) rfl ?_)
      refine zz_iconst C dX9_pay_39 ?_
      refine zz_sub (ws' := (wLM z lh lt lb lc lr ph ld lm lf 0 0) ++ (wPlan z ph pa pr pt pd pb (zup fP d9 v9) fR fT)) [4, 0, 1, 2, 3] rfl rfl ?_
      exact zz_zret C hr (by decide +kernel) dX9_pay_40 ⟨1, _, _, _, Or.inl ⟨rfl, by omega, rfl, rfl, rfl⟩, rfl, rfl⟩
    · skip
      refine zz_iconst C dX9_pay_24 ?_
      exact zz_zret C hr (by decide +kernel) dX9_pay_25 ⟨0, _, _, _, Or.inr ⟨rfl, by omega, rfl, rfl, rfl⟩, rfl, rfl⟩
abbrev po_X9_rate (z : zC) (lh : Nat) (lt : Nat) (lb : Nat) (lc : Nat) (lr : Nat) (ld : Nat) (lm : Int) (lf : Int) (lk : Int) (lq : Int) (ph : Nat) (pa : Nat) (pr : Nat) (pt : Nat) (pd : Int) (pb : Int) (fP : Int → Int) (fR : Int → Int) (fT : Int → Int) (d9 : Int) (v9 : Int) : Option Value → va_W → Prop := fun v w => ∃ (q : Int), ∃ (g9 : Int → Int), ∃ (gk : Int), ∃ (gq : Int), ((q = 1 ∧ ((1 ≤ d9 ∧ d9 ≤ pd) ∧ (0 ≤ v9 ∧ v9 ≤ 6)) ∧ g9 = zup fR d9 v9 ∧ gk = 0 ∧ gq = 0) ∨ (q = 0 ∧ ¬ ((1 ≤ d9 ∧ d9 ≤ pd) ∧ (0 ≤ v9 ∧ v9 ≤ 6)) ∧ g9 = fR ∧ gk = lk ∧ gq = lq)) ∧ v = some (Value.int (iI q)) ∧ w = (wLM z lh lt lb lc lr ph ld lm lf gk gq) ++ (wPlan z ph pa pr pt pd pb fP g9 fT)
abbrev rm_X9_rate : Room := { frames := 3, cells := 0, slots := 0, locals := 83 }
set_option maxHeartbeats 4000000 in
set_option maxRecDepth 100000 in
theorem cc_X9_rate (l : Launch) (z : zC) (lh : Nat) (lt : Nat) (lb : Nat) (lc : Nat) (lr : Nat) (ld : Nat) (lm : Int) (lf : Int) (lk : Int) (lq : Int) (ph : Nat) (pa : Nat) (pr : Nat) (pt : Nat) (pd : Int) (pb : Int) (fP : Int → Int) (fR : Int → Int) (fT : Int → Int) (d9 : Int) (v9 : Int) (hpd : 1 ≤ pd ∧ pd ≤ 4) (hpb : 0 ≤ pb ∧ pb ≤ 5) (hd9 : -2147483648 ≤ d9 ∧ d9 < 2147483648) (hv9 : -2147483648 ≤ v9 ∧ v9 < 2147483648) : zzMet l yX9_rate cX9_rate 3 (Option.some .boolean) rm_X9_rate z [.ref lh, .int (iI d9), .int (iI v9)] ((wLM z lh lt lb lc lr ph ld lm lf lk lq) ++ (wPlan z ph pa pr pt pd pb fP fR fT)) (po_X9_rate z lh lt lb lc lr ld lm lf lk lq ph pa pr pt pd pb fP fR fT d9 v9) := by
  refine zzMet.of (own := RX9) (ls0 := [(0, .ref lh), (1, .int (iI d9)), (2, .int (iI v9))]) (by decide) rfl (Nat.le_of_ble_eq_true rfl) rfl ?_
  intro p e s m below meth c A C hr hnm
  refine zz_aload_n C 0 dX9_rate_0 rfl rfl ?_
  refine zz_get C 0 (ci := 9) (k := 4) rfl rfl in_X9 (by decide) qw_320 rfl rfl dX9_rate_1 ?_
  refine zz_iconst C dX9_rate_4 ?_
  refine zz_iload_n C 1 dX9_rate_5 rfl rfl ?_
  refine zz_callV (wr := wLM z lh lt lb lc lr ph ld lm lf lk lq) (st := []) C (cc_X6_fits_1 l z ph pa pr pt pd pb fP fR fT d9 (by omega) (by omega) (by omega)) yk_X6_fits qw_351 ⟨by decide, by decide⟩ [1, 2, 3, 4] [0] rfl rfl rfl rfl (by decide) 0 6 rfl rfl rfl rfl (Nat.le_of_ble_eq_true rfl) dX9_rate_6 ⟨by decide, by decide⟩ ?_
  rintro _ _ ⟨q_6, hq_6, rfl, rfl⟩
  refine zz_st (st' := [.int (iI q_6)]) rfl (zz_ws (ws' := (wLM z lh lt lb lc lr ph ld lm lf lk lq) ++ (wPlan z ph pa pr pt pd pb fP fR fT)) rfl ?_)
  refine zz_if_eq (tgt := 24) C dX9_rate_9 (by decide) (by unfold rI; omega) (fun c9 => ?_) (fun c9 => ?_)
  · skip
    refine zz_iconst C dX9_rate_24 ?_
    exact zz_zret C hr (by decide +kernel) dX9_rate_25 ⟨0, _, _, _, Or.inr ⟨rfl, by omega, rfl, rfl, rfl⟩, rfl, rfl⟩
  · skip
    refine zz_aload_n C 0 dX9_rate_12 rfl rfl ?_
    refine zz_get C 0 (ci := 9) (k := 4) rfl rfl in_X9 (by decide) qw_320 rfl rfl dX9_rate_13 ?_
    refine zz_iconst C dX9_rate_16 ?_
    refine zz_iload_n C 2 dX9_rate_17 rfl rfl ?_
    refine zz_callV (wr := wLM z lh lt lb lc lr ph ld lm lf lk lq) (st := []) C (cc_X6_fits_3 l z ph pa pr pt pd pb fP fR fT v9 (by omega) (by omega) (by omega)) yk_X6_fits qw_351 ⟨by decide, by decide⟩ [1, 2, 3, 4] [0] rfl rfl rfl rfl (by decide) 0 6 rfl rfl rfl rfl (Nat.le_of_ble_eq_true rfl) dX9_rate_18 ⟨by decide, by decide⟩ ?_
    rintro _ _ ⟨q_18, hq_18, rfl, rfl⟩
    refine zz_st (st' := [.int (iI q_18)]) rfl (zz_ws (ws' := (wLM z lh lt lb lc lr ph ld lm lf lk lq) ++ (wPlan z ph pa pr pt pd pb fP fR fT)) rfl ?_)
    refine zz_if_ne (tgt := 26) C dX9_rate_21 (by decide) (by unfold rI; omega) (fun c21 => ?_) (fun c21 => ?_)
    · skip
      refine zz_aload_n C 0 dX9_rate_26 rfl rfl ?_
      refine zz_get C 0 (ci := 9) (k := 4) rfl rfl in_X9 (by decide) qw_320 rfl rfl dX9_rate_27 ?_
      refine zz_iload_n C 1 dX9_rate_30 rfl rfl ?_
      refine zz_iload_n C 2 dX9_rate_31 rfl rfl ?_
      refine zz_callV (wr := wLM z lh lt lb lc lr ph ld lm lf lk lq) (st := []) C (cc_X6_setRate l z ph pa pr pt pd pb fP fR fT d9 v9 (by omega) (by omega) (by omega)) yk_X6_setRate qw_387 ⟨by decide, by decide⟩ [1, 2, 3, 4] [0] rfl rfl rfl rfl (by decide) 0 6 rfl rfl rfl rfl (Nat.le_of_ble_eq_true rfl) dX9_rate_32 ⟨by decide, by decide⟩ ?_
      rintro _ _ ⟨rfl, rfl⟩
      refine zz_st (st' := []) rfl (zz_ws (ws' := (wLM z lh lt lb lc lr ph ld lm lf lk lq) ++ (wPlan z ph pa pr pt pd pb fP (zup fR d9 v9) fT)) rfl ?_)
      refine zz_aload_n C 0 dX9_rate_35 rfl rfl ?_
      refine zz_callV (wr := wPlan z ph pa pr pt pd pb fP (zup fR d9 v9) fT) (st := []) C (cc_X9_forgetAnswers l z lh lt lb lc lr ph ld lm lf lk lq ) yk_X9_forgetAnswers qw_367 ⟨by decide, by decide⟩ [0] [1, 2, 3, 4] rfl rfl rfl rfl (by decide) 0 9 rfl rfl rfl rfl (Nat.le_of_ble_eq_true rfl) dX9_rate_36 ⟨by decide, by decide⟩ ?_
      rintro _ _ ⟨rfl, rfl⟩
      refine zz_st (st' := []) rfl (zz_ws (ws' := (wPlan z ph pa pr pt pd pb fP (zup fR d9 v9) fT) ++ (wLM z lh lt lb lc lr ph ld lm lf 0 0)) rfl ?_)
      refine zz_iconst C dX9_rate_39 ?_
      refine zz_sub (ws' := (wLM z lh lt lb lc lr ph ld lm lf 0 0) ++ (wPlan z ph pa pr pt pd pb fP (zup fR d9 v9) fT)) [4, 0, 1, 2, 3] rfl rfl ?_
      exact zz_zret C hr (by decide +kernel) dX9_rate_40 ⟨1, _, _, _, Or.inl ⟨rfl, by omega, rfl, rfl, rfl⟩, rfl, rfl⟩
    · skip
      refine zz_iconst C dX9_rate_24 ?_
      exact zz_zret C hr (by decide +kernel) dX9_rate_25 ⟨0, _, _, _, Or.inr ⟨rfl, by omega, rfl, rfl, rfl⟩, rfl, rfl⟩
abbrev po_X9_most (z : zC) (lh : Nat) (lt : Nat) (lb : Nat) (lc : Nat) (lr : Nat) (ld : Nat) (lm : Int) (lf : Int) (lk : Int) (lq : Int) (ph : Nat) (pa : Nat) (pr : Nat) (pt : Nat) (pd : Int) (pb : Int) (fP : Int → Int) (fR : Int → Int) (fT : Int → Int) (b9 : Int) (v9 : Int) : Option Value → va_W → Prop := fun v w => ∃ (q : Int), ∃ (g9 : Int → Int), ∃ (gk : Int), ∃ (gq : Int), ((q = 1 ∧ ((0 ≤ b9 ∧ b9 < pb) ∧ (0 ≤ v9 ∧ v9 ≤ 12)) ∧ g9 = zup fT (b9 * 7 + 4) v9 ∧ gk = 0 ∧ gq = 0) ∨ (q = 0 ∧ ¬ ((0 ≤ b9 ∧ b9 < pb) ∧ (0 ≤ v9 ∧ v9 ≤ 12)) ∧ g9 = fT ∧ gk = lk ∧ gq = lq)) ∧ v = some (Value.int (iI q)) ∧ w = (wLM z lh lt lb lc lr ph ld lm lf gk gq) ++ (wPlan z ph pa pr pt pd pb fP fR g9)
abbrev rm_X9_most : Room := { frames := 3, cells := 0, slots := 0, locals := 85 }
set_option maxHeartbeats 4000000 in
set_option maxRecDepth 100000 in
theorem cc_X9_most (l : Launch) (z : zC) (lh : Nat) (lt : Nat) (lb : Nat) (lc : Nat) (lr : Nat) (ld : Nat) (lm : Int) (lf : Int) (lk : Int) (lq : Int) (ph : Nat) (pa : Nat) (pr : Nat) (pt : Nat) (pd : Int) (pb : Int) (fP : Int → Int) (fR : Int → Int) (fT : Int → Int) (b9 : Int) (v9 : Int) (hpd : 1 ≤ pd ∧ pd ≤ 4) (hpb : 0 ≤ pb ∧ pb ≤ 5) (hb9 : -2147483648 ≤ b9 ∧ b9 < 2147483648) (hv9 : -2147483648 ≤ v9 ∧ v9 < 2147483648) : zzMet l yX9_most cX9_most 3 (Option.some .boolean) rm_X9_most z [.ref lh, .int (iI b9), .int (iI v9)] ((wLM z lh lt lb lc lr ph ld lm lf lk lq) ++ (wPlan z ph pa pr pt pd pb fP fR fT)) (po_X9_most z lh lt lb lc lr ld lm lf lk lq ph pa pr pt pd pb fP fR fT b9 v9) := by
  refine zzMet.of (own := RX9) (ls0 := [(0, .ref lh), (1, .int (iI b9)), (2, .int (iI v9))]) (by decide) rfl (Nat.le_of_ble_eq_true rfl) rfl ?_
  intro p e s m below meth c A C hr hnm
  refine zz_aload_n C 0 dX9_most_0 rfl rfl ?_
  refine zz_get C 0 (ci := 9) (k := 4) rfl rfl in_X9 (by decide) qw_320 rfl rfl dX9_most_1 ?_
  refine zz_iconst C dX9_most_4 ?_
  refine zz_iload_n C 1 dX9_most_5 rfl rfl ?_
  refine zz_callV (wr := wLM z lh lt lb lc lr ph ld lm lf lk lq) (st := []) C (cc_X6_fits_4 l z ph pa pr pt pd pb fP fR fT b9 (by omega) (by omega) (by omega)) yk_X6_fits qw_351 ⟨by decide, by decide⟩ [1, 2, 3, 4] [0] rfl rfl rfl rfl (by decide) 0 6 rfl rfl rfl rfl (Nat.le_of_ble_eq_true rfl) dX9_most_6 ⟨by decide, by decide⟩ ?_
  rintro _ _ ⟨q_6, hq_6, rfl, rfl⟩
  refine zz_st (st' := [.int (iI q_6)]) rfl (zz_ws (ws' := (wLM z lh lt lb lc lr ph ld lm lf lk lq) ++ (wPlan z ph pa pr pt pd pb fP fR fT)) rfl ?_)
  refine zz_if_eq (tgt := 25) C dX9_most_9 (by decide) (by unfold rI; omega) (fun c9 => ?_) (fun c9 => ?_)
  · skip
    refine zz_iconst C dX9_most_25 ?_
    exact zz_zret C hr (by decide +kernel) dX9_most_26 ⟨0, _, _, _, Or.inr ⟨rfl, by omega, rfl, rfl, rfl⟩, rfl, rfl⟩
  · skip
    refine zz_aload_n C 0 dX9_most_12 rfl rfl ?_
    refine zz_get C 0 (ci := 9) (k := 4) rfl rfl in_X9 (by decide) qw_320 rfl rfl dX9_most_13 ?_
    refine zz_bipush C dX9_most_16 (by decide +kernel) ?_
    refine zz_iload_n C 2 dX9_most_18 rfl rfl ?_
    refine zz_callV (wr := wLM z lh lt lb lc lr ph ld lm lf lk lq) (st := []) C (cc_X6_fits_8 l z ph pa pr pt pd pb fP fR fT v9 (by omega) (by omega) (by omega)) yk_X6_fits qw_351 ⟨by decide, by decide⟩ [1, 2, 3, 4] [0] rfl rfl rfl rfl (by decide) 0 6 rfl rfl rfl rfl (Nat.le_of_ble_eq_true rfl) dX9_most_19 ⟨by decide, by decide⟩ ?_
    rintro _ _ ⟨q_19, hq_19, rfl, rfl⟩
    refine zz_st (st' := [.int (iI q_19)]) rfl (zz_ws (ws' := (wLM z lh lt lb lc lr ph ld lm lf lk lq) ++ (wPlan z ph pa pr pt pd pb fP fR fT)) rfl ?_)
    refine zz_if_ne (tgt := 27) C dX9_most_22 (by decide) (by unfold rI; omega) (fun c22 => ?_) (fun c22 => ?_)
    · skip
      refine zz_aload_n C 0 dX9_most_27 rfl rfl ?_
      refine zz_get C 0 (ci := 9) (k := 4) rfl rfl in_X9 (by decide) qw_320 rfl rfl dX9_most_28 ?_
      refine zz_iload_n C 1 dX9_most_31 rfl rfl ?_
      refine zz_iconst C dX9_most_32 ?_
      refine zz_iload_n C 2 dX9_most_33 rfl rfl ?_
      refine zz_callV (wr := wLM z lh lt lb lc lr ph ld lm lf lk lq) (st := []) C (cc_X6_setTerm l z ph pa pr pt pd pb fP fR fT b9 4 v9 (by omega) (by omega) (by omega)) yk_X6_setTerm qw_416 ⟨by decide, by decide⟩ [1, 2, 3, 4] [0] rfl rfl rfl rfl (by decide) 0 6 rfl rfl rfl rfl (Nat.le_of_ble_eq_true rfl) dX9_most_34 ⟨by decide, by decide⟩ ?_
      rintro _ _ ⟨rfl, rfl⟩
      refine zz_st (st' := []) rfl (zz_ws (ws' := (wLM z lh lt lb lc lr ph ld lm lf lk lq) ++ (wPlan z ph pa pr pt pd pb fP fR (zup fT (b9 * 7 + 4) v9))) rfl ?_)
      refine zz_aload_n C 0 dX9_most_37 rfl rfl ?_
      refine zz_callV (wr := wPlan z ph pa pr pt pd pb fP fR (zup fT (b9 * 7 + 4) v9)) (st := []) C (cc_X9_forgetAnswers l z lh lt lb lc lr ph ld lm lf lk lq ) yk_X9_forgetAnswers qw_367 ⟨by decide, by decide⟩ [0] [1, 2, 3, 4] rfl rfl rfl rfl (by decide) 0 9 rfl rfl rfl rfl (Nat.le_of_ble_eq_true rfl) dX9_most_38 ⟨by decide, by decide⟩ ?_
      rintro _ _ ⟨rfl, rfl⟩
      refine zz_st (st' := []) rfl (zz_ws (ws' := (wPlan z ph pa pr pt pd pb fP fR (zup fT (b9 * 7 + 4) v9)) ++ (wLM z lh lt lb lc lr ph ld lm lf 0 0)) rfl ?_)
      refine zz_iconst C dX9_most_41 ?_
      refine zz_sub (ws' := (wLM z lh lt lb lc lr ph ld lm lf 0 0) ++ (wPlan z ph pa pr pt pd pb fP fR (zup fT (b9 * 7 + 4) v9))) [4, 0, 1, 2, 3] rfl rfl ?_
      exact zz_zret C hr (by decide +kernel) dX9_most_42 ⟨1, _, _, _, Or.inl ⟨rfl, by omega, rfl, rfl, rfl⟩, rfl, rfl⟩
    · skip
      refine zz_iconst C dX9_most_25 ?_
      exact zz_zret C hr (by decide +kernel) dX9_most_26 ⟨0, _, _, _, Or.inr ⟨rfl, by omega, rfl, rfl, rfl⟩, rfl, rfl⟩
abbrev po_X9_hold (z : zC) (lh : Nat) (lt : Nat) (lb : Nat) (lc : Nat) (lr : Nat) (ld : Nat) (lm : Int) (lf : Int) (lk : Int) (lq : Int) (ph : Nat) (pa : Nat) (pr : Nat) (pt : Nat) (pd : Int) (pb : Int) (fP : Int → Int) (fR : Int → Int) (fT : Int → Int) (b9 : Int) (v9 : Int) : Option Value → va_W → Prop := fun v w => ∃ (q : Int), ∃ (g9 : Int → Int), ((q = 1 ∧ ((0 ≤ b9 ∧ b9 < pb) ∧ (0 ≤ v9 ∧ v9 ≤ 99)) ∧ g9 = zup fT (b9 * 7 + 6) v9) ∨ (q = 0 ∧ ¬ ((0 ≤ b9 ∧ b9 < pb) ∧ (0 ≤ v9 ∧ v9 ≤ 99)) ∧ g9 = fT)) ∧ v = some (Value.int (iI q)) ∧ w = (wLM z lh lt lb lc lr ph ld lm lf lk lq) ++ (wPlan z ph pa pr pt pd pb fP fR g9)
abbrev rm_X9_hold : Room := { frames := 3, cells := 0, slots := 0, locals := 85 }
set_option maxHeartbeats 4000000 in
set_option maxRecDepth 100000 in
theorem cc_X9_hold (l : Launch) (z : zC) (lh : Nat) (lt : Nat) (lb : Nat) (lc : Nat) (lr : Nat) (ld : Nat) (lm : Int) (lf : Int) (lk : Int) (lq : Int) (ph : Nat) (pa : Nat) (pr : Nat) (pt : Nat) (pd : Int) (pb : Int) (fP : Int → Int) (fR : Int → Int) (fT : Int → Int) (b9 : Int) (v9 : Int) (hpd : 1 ≤ pd ∧ pd ≤ 4) (hpb : 0 ≤ pb ∧ pb ≤ 5) (hb9 : -2147483648 ≤ b9 ∧ b9 < 2147483648) (hv9 : -2147483648 ≤ v9 ∧ v9 < 2147483648) : zzMet l yX9_hold cX9_hold 3 (Option.some .boolean) rm_X9_hold z [.ref lh, .int (iI b9), .int (iI v9)] ((wLM z lh lt lb lc lr ph ld lm lf lk lq) ++ (wPlan z ph pa pr pt pd pb fP fR fT)) (po_X9_hold z lh lt lb lc lr ld lm lf lk lq ph pa pr pt pd pb fP fR fT b9 v9) := by
  refine zzMet.of (own := RX9) (ls0 := [(0, .ref lh), (1, .int (iI b9)), (2, .int (iI v9))]) (by decide) rfl (Nat.le_of_ble_eq_true rfl) rfl ?_
  intro p e s m below meth c A C hr hnm
  refine zz_aload_n C 0 dX9_hold_0 rfl rfl ?_
  refine zz_get C 0 (ci := 9) (k := 4) rfl rfl in_X9 (by decide) qw_320 rfl rfl dX9_hold_1 ?_
  refine zz_iconst C dX9_hold_4 ?_
  refine zz_iload_n C 1 dX9_hold_5 rfl rfl ?_
  refine zz_callV (wr := wLM z lh lt lb lc lr ph ld lm lf lk lq) (st := []) C (cc_X6_fits_4 l z ph pa pr pt pd pb fP fR fT b9 (by omega) (by omega) (by omega)) yk_X6_fits qw_351 ⟨by decide, by decide⟩ [1, 2, 3, 4] [0] rfl rfl rfl rfl (by decide) 0 6 rfl rfl rfl rfl (Nat.le_of_ble_eq_true rfl) dX9_hold_6 ⟨by decide, by decide⟩ ?_
  rintro _ _ ⟨q_6, hq_6, rfl, rfl⟩
  refine zz_st (st' := [.int (iI q_6)]) rfl (zz_ws (ws' := (wLM z lh lt lb lc lr ph ld lm lf lk lq) ++ (wPlan z ph pa pr pt pd pb fP fR fT)) rfl ?_)
  refine zz_if_eq (tgt := 25) C dX9_hold_9 (by decide) (by unfold rI; omega) (fun c9 => ?_) (fun c9 => ?_)
  · skip
    refine zz_iconst C dX9_hold_25 ?_
    exact zz_zret C hr (by decide +kernel) dX9_hold_26 ⟨0, _, Or.inr ⟨rfl, by omega, rfl⟩, rfl, rfl⟩
  · skip
    refine zz_aload_n C 0 dX9_hold_12 rfl rfl ?_
    refine zz_get C 0 (ci := 9) (k := 4) rfl rfl in_X9 (by decide) qw_320 rfl rfl dX9_hold_13 ?_
    refine zz_bipush C dX9_hold_16 (by decide +kernel) ?_
    refine zz_iload_n C 2 dX9_hold_18 rfl rfl ?_
    refine zz_callV (wr := wLM z lh lt lb lc lr ph ld lm lf lk lq) (st := []) C (cc_X6_fits_9 l z ph pa pr pt pd pb fP fR fT v9 (by omega) (by omega) (by omega)) yk_X6_fits qw_351 ⟨by decide, by decide⟩ [1, 2, 3, 4] [0] rfl rfl rfl rfl (by decide) 0 6 rfl rfl rfl rfl (Nat.le_of_ble_eq_true rfl) dX9_hold_19 ⟨by decide, by decide⟩ ?_
    rintro _ _ ⟨q_19, hq_19, rfl, rfl⟩
    refine zz_st (st' := [.int (iI q_19)]) rfl (zz_ws (ws' := (wLM z lh lt lb lc lr ph ld lm lf lk lq) ++ (wPlan z ph pa pr pt pd pb fP fR fT)) rfl ?_)
    refine zz_if_ne (tgt := 27) C dX9_hold_22 (by decide) (by unfold rI; omega) (fun c22 => ?_) (fun c22 => ?_)
    · skip
      refine zz_aload_n C 0 dX9_hold_27 rfl rfl ?_
      refine zz_get C 0 (ci := 9) (k := 4) rfl rfl in_X9 (by decide) qw_320 rfl rfl dX9_hold_28 ?_
      refine zz_iload_n C 1 dX9_hold_31 rfl rfl ?_
      refine zz_bipush C dX9_hold_32 (by decide +kernel) ?_
      refine zz_iload_n C 2 dX9_hold_34 rfl rfl ?_
      refine zz_callV (wr := wLM z lh lt lb lc lr ph ld lm lf lk lq) (st := []) C (cc_X6_setTerm l z ph pa pr pt pd pb fP fR fT b9 6 v9 (by omega) (by omega) (by omega)) yk_X6_setTerm qw_416 ⟨by decide, by decide⟩ [1, 2, 3, 4] [0] rfl rfl rfl rfl (by decide) 0 6 rfl rfl rfl rfl (Nat.le_of_ble_eq_true rfl) dX9_hold_35 ⟨by decide, by decide⟩ ?_
      rintro _ _ ⟨rfl, rfl⟩
      refine zz_st (st' := []) rfl (zz_ws (ws' := (wLM z lh lt lb lc lr ph ld lm lf lk lq) ++ (wPlan z ph pa pr pt pd pb fP fR (zup fT (b9 * 7 + 6) v9))) rfl ?_)
      refine zz_iconst C dX9_hold_38 ?_
      exact zz_zret C hr (by decide +kernel) dX9_hold_39 ⟨1, _, Or.inl ⟨rfl, by omega, rfl⟩, rfl, rfl⟩
    · skip
      refine zz_iconst C dX9_hold_25 ?_
      exact zz_zret C hr (by decide +kernel) dX9_hold_26 ⟨0, _, Or.inr ⟨rfl, by omega, rfl⟩, rfl, rfl⟩
abbrev po_X9_call (z : zC) (lh : Nat) (lt : Nat) (lb : Nat) (lc : Nat) (lr : Nat) (ld : Nat) (lm : Int) (lf : Int) (lk : Int) (lq : Int) (ph : Nat) (pa : Nat) (pr : Nat) (pt : Nat) (pd : Int) (pb : Int) (fP : Int → Int) (fR : Int → Int) (fT : Int → Int) (b9 : Int) (v9 : Int) : Option Value → va_W → Prop := fun v w => ∃ (q : Int), ∃ (g9 : Int → Int), ∃ (gk : Int), ∃ (gq : Int), ((q = 1 ∧ ((0 ≤ b9 ∧ b9 < pb) ∧ 0 ≤ v9 ∧ v9 < plTerm pb fT b9 2 ∧ v9 ≠ plTerm pb fT b9 5) ∧ g9 = zup fT (b9 * 7 + 5) v9 ∧ gk = 0 ∧ gq = 0) ∨ (q = 0 ∧ ¬ ((0 ≤ b9 ∧ b9 < pb) ∧ 0 ≤ v9 ∧ v9 < plTerm pb fT b9 2 ∧ v9 ≠ plTerm pb fT b9 5) ∧ g9 = fT ∧ gk = lk ∧ gq = lq)) ∧ v = some (Value.int (iI q)) ∧ w = (wLM z lh lt lb lc lr ph ld lm lf gk gq) ++ (wPlan z ph pa pr pt pd pb fP fR g9)
abbrev rm_X9_call : Room := { frames := 3, cells := 0, slots := 0, locals := 85 }
set_option maxHeartbeats 4000000 in
set_option maxRecDepth 100000 in
theorem cc_X9_call (l : Launch) (z : zC) (lh : Nat) (lt : Nat) (lb : Nat) (lc : Nat) (lr : Nat) (ld : Nat) (lm : Int) (lf : Int) (lk : Int) (lq : Int) (ph : Nat) (pa : Nat) (pr : Nat) (pt : Nat) (pd : Int) (pb : Int) (fP : Int → Int) (fR : Int → Int) (fT : Int → Int) (b9 : Int) (v9 : Int) (hpd : 1 ≤ pd ∧ pd ≤ 4) (hpb : 0 ≤ pb ∧ pb ≤ 5) (hfT : ∀ i : Int, 0 ≤ fT i ∧ fT i ≤ 200) (hb9 : -2147483648 ≤ b9 ∧ b9 < 2147483648) (hv9 : -2147483648 ≤ v9 ∧ v9 < 2147483648) : zzMet l yX9_call cX9_call 3 (Option.some .boolean) rm_X9_call z [.ref lh, .int (iI b9), .int (iI v9)] ((wLM z lh lt lb lc lr ph ld lm lf lk lq) ++ (wPlan z ph pa pr pt pd pb fP fR fT)) (po_X9_call z lh lt lb lc lr ld lm lf lk lq ph pa pr pt pd pb fP fR fT b9 v9) := by
  refine zzMet.of (own := RX9) (ls0 := [(0, .ref lh), (1, .int (iI b9)), (2, .int (iI v9))]) (by decide) rfl (Nat.le_of_ble_eq_true rfl) rfl ?_
  intro p e s m below meth c A C hr hnm
  have t2 := plTerm_rng pb hfT b9 2
  have t5 := plTerm_rng pb hfT b9 5
  refine zz_aload_n C 0 dX9_call_0 rfl rfl ?_
  refine zz_get C 0 (ci := 9) (k := 4) rfl rfl in_X9 (by decide) qw_320 rfl rfl dX9_call_1 ?_
  refine zz_iconst C dX9_call_4 ?_
  refine zz_iload_n C 1 dX9_call_5 rfl rfl ?_
  refine zz_callV (wr := wLM z lh lt lb lc lr ph ld lm lf lk lq) (st := []) C (cc_X6_fits_4 l z ph pa pr pt pd pb fP fR fT b9 (by omega) (by omega) (by omega)) yk_X6_fits qw_351 ⟨by decide, by decide⟩ [1, 2, 3, 4] [0] rfl rfl rfl rfl (by decide) 0 6 rfl rfl rfl rfl (Nat.le_of_ble_eq_true rfl) dX9_call_6 ⟨by decide, by decide⟩ ?_
  rintro _ _ ⟨q_6, hq_6, rfl, rfl⟩
  refine zz_st (st' := [.int (iI q_6)]) rfl (zz_ws (ws' := (wLM z lh lt lb lc lr ph ld lm lf lk lq) ++ (wPlan z ph pa pr pt pd pb fP fR fT)) rfl ?_)
  refine zz_if_eq (tgt := 42) C dX9_call_9 (by decide) (by unfold rI; omega) (fun c9 => ?_) (fun c9 => ?_)
  · skip
    refine zz_iconst C dX9_call_42 ?_
    exact zz_zret C hr (by decide +kernel) dX9_call_43 ⟨0, _, _, _, Or.inr ⟨rfl, by omega, rfl, rfl, rfl⟩, rfl, rfl⟩
  · skip
    refine zz_iload_n C 2 dX9_call_12 rfl rfl ?_
    refine zz_if_lt (tgt := 42) C dX9_call_13 (by decide) (by unfold rI; omega) (fun c13 => ?_) (fun c13 => ?_)
    · skip
      refine zz_iconst C dX9_call_42 ?_
      exact zz_zret C hr (by decide +kernel) dX9_call_43 ⟨0, _, _, _, Or.inr ⟨rfl, by omega, rfl, rfl, rfl⟩, rfl, rfl⟩
    · skip
      refine zz_iload_n C 2 dX9_call_16 rfl rfl ?_
      refine zz_aload_n C 0 dX9_call_17 rfl rfl ?_
      refine zz_get C 0 (ci := 9) (k := 4) rfl rfl in_X9 (by decide) qw_320 rfl rfl dX9_call_18 ?_
      refine zz_iload_n C 1 dX9_call_21 rfl rfl ?_
      refine zz_iconst C dX9_call_22 ?_
      refine zz_callV (wr := wLM z lh lt lb lc lr ph ld lm lf lk lq) (st := [.int (iI v9)]) C (cc_X6_term l z ph pa pr pt pd pb fP fR fT b9 2 (by omega) (by omega) (by omega)) yk_X6_term qw_421 ⟨by decide, by decide⟩ [1, 2, 3, 4] [0] rfl rfl rfl rfl (by decide) 0 6 rfl rfl rfl rfl (Nat.le_of_ble_eq_true rfl) dX9_call_23 ⟨by decide, by decide⟩ ?_
      rintro _ _ ⟨rfl, rfl⟩
      refine zz_st (st' := [.int (iI (plTerm pb fT b9 2)), .int (iI v9)]) rfl (zz_ws (ws' := (wLM z lh lt lb lc lr ph ld lm lf lk lq) ++ (wPlan z ph pa pr pt pd pb fP fR fT)) rfl ?_)
      refine zz_icmp_ge (tgt := 42) C dX9_call_26 (by decide) (by unfold rI; omega) (by unfold rI; omega) (fun c26 => ?_) (fun c26 => ?_)
      · skip
        refine zz_iconst C dX9_call_42 ?_
        exact zz_zret C hr (by decide +kernel) dX9_call_43 ⟨0, _, _, _, Or.inr ⟨rfl, by omega, rfl, rfl, rfl⟩, rfl, rfl⟩
      · skip
        refine zz_iload_n C 2 dX9_call_29 rfl rfl ?_
        refine zz_aload_n C 0 dX9_call_30 rfl rfl ?_
        refine zz_get C 0 (ci := 9) (k := 4) rfl rfl in_X9 (by decide) qw_320 rfl rfl dX9_call_31 ?_
        refine zz_iload_n C 1 dX9_call_34 rfl rfl ?_
        refine zz_iconst C dX9_call_35 ?_
        refine zz_callV (wr := wLM z lh lt lb lc lr ph ld lm lf lk lq) (st := [.int (iI v9)]) C (cc_X6_term l z ph pa pr pt pd pb fP fR fT b9 5 (by omega) (by omega) (by omega)) yk_X6_term qw_421 ⟨by decide, by decide⟩ [1, 2, 3, 4] [0] rfl rfl rfl rfl (by decide) 0 6 rfl rfl rfl rfl (Nat.le_of_ble_eq_true rfl) dX9_call_36 ⟨by decide, by decide⟩ ?_
        rintro _ _ ⟨rfl, rfl⟩
        refine zz_st (st' := [.int (iI (plTerm pb fT b9 5)), .int (iI v9)]) rfl (zz_ws (ws' := (wLM z lh lt lb lc lr ph ld lm lf lk lq) ++ (wPlan z ph pa pr pt pd pb fP fR fT)) rfl ?_)
        refine zz_icmp_ne (tgt := 44) C dX9_call_39 (by decide) (by unfold rI; omega) (by unfold rI; omega) (fun c39 => ?_) (fun c39 => ?_)
        · skip
          refine zz_aload_n C 0 dX9_call_44 rfl rfl ?_
          refine zz_get C 0 (ci := 9) (k := 4) rfl rfl in_X9 (by decide) qw_320 rfl rfl dX9_call_45 ?_
          refine zz_iload_n C 1 dX9_call_48 rfl rfl ?_
          refine zz_iconst C dX9_call_49 ?_
          refine zz_iload_n C 2 dX9_call_50 rfl rfl ?_
          refine zz_callV (wr := wLM z lh lt lb lc lr ph ld lm lf lk lq) (st := []) C (cc_X6_setTerm l z ph pa pr pt pd pb fP fR fT b9 5 v9 (by omega) (by omega) (by omega)) yk_X6_setTerm qw_416 ⟨by decide, by decide⟩ [1, 2, 3, 4] [0] rfl rfl rfl rfl (by decide) 0 6 rfl rfl rfl rfl (Nat.le_of_ble_eq_true rfl) dX9_call_51 ⟨by decide, by decide⟩ ?_
          rintro _ _ ⟨rfl, rfl⟩
          refine zz_st (st' := []) rfl (zz_ws (ws' := (wLM z lh lt lb lc lr ph ld lm lf lk lq) ++ (wPlan z ph pa pr pt pd pb fP fR (zup fT (b9 * 7 + 5) v9))) rfl ?_)
          refine zz_aload_n C 0 dX9_call_54 rfl rfl ?_
          refine zz_callV (wr := wPlan z ph pa pr pt pd pb fP fR (zup fT (b9 * 7 + 5) v9)) (st := []) C (cc_X9_forgetAnswers l z lh lt lb lc lr ph ld lm lf lk lq ) yk_X9_forgetAnswers qw_367 ⟨by decide, by decide⟩ [0] [1, 2, 3, 4] rfl rfl rfl rfl (by decide) 0 9 rfl rfl rfl rfl (Nat.le_of_ble_eq_true rfl) dX9_call_55 ⟨by decide, by decide⟩ ?_
          rintro _ _ ⟨rfl, rfl⟩
          refine zz_st (st' := []) rfl (zz_ws (ws' := (wPlan z ph pa pr pt pd pb fP fR (zup fT (b9 * 7 + 5) v9)) ++ (wLM z lh lt lb lc lr ph ld lm lf 0 0)) rfl ?_)
          refine zz_iconst C dX9_call_58 ?_
          refine zz_sub (ws' := (wLM z lh lt lb lc lr ph ld lm lf 0 0) ++ (wPlan z ph pa pr pt pd pb fP fR (zup fT (b9 * 7 + 5) v9))) [4, 0, 1, 2, 3] rfl rfl ?_
          exact zz_zret C hr (by decide +kernel) dX9_call_59 ⟨1, _, _, _, Or.inl ⟨rfl, by omega, rfl, rfl, rfl⟩, rfl, rfl⟩
        · skip
          refine zz_iconst C dX9_call_42 ?_
          exact zz_zret C hr (by decide +kernel) dX9_call_43 ⟨0, _, _, _, Or.inr ⟨rfl, by omega, rfl, rfl, rfl⟩, rfl, rfl⟩
abbrev po_X9_bond (z : zC) (lh : Nat) (lt : Nat) (lb : Nat) (lc : Nat) (lr : Nat) (ld : Nat) (lm : Int) (lf : Int) (lk : Int) (lq : Int) (ph : Nat) (pa : Nat) (pr : Nat) (pt : Nat) (pd : Int) (pb : Int) (fP : Int → Int) (fR : Int → Int) (fT : Int → Int) (v1 : Int) (v2 : Int) (v3 : Int) (v4 : Int) : Option Value → va_W → Prop := fun v w => ∃ (q : Int), ∃ (gb : Int), ∃ (gT : Int → Int), ∃ (gk : Int), ∃ (gq : Int), ((¬ ((0 ≤ v1 ∧ v1 ≤ 20) ∧ (1 ≤ v2 ∧ v2 ≤ 40) ∧ (1 ≤ v3 ∧ v3 ≤ pd) ∧ (1 ≤ v4 ∧ v4 ≤ 200)) ∧ q = -1 ∧ gb = pb ∧ gT = fT ∧ gk = lk ∧ gq = lq) ∨ (((0 ≤ v1 ∧ v1 ≤ 20) ∧ (1 ≤ v2 ∧ v2 ≤ 40) ∧ (1 ≤ v3 ∧ v3 ≤ pd) ∧ (1 ≤ v4 ∧ v4 ≤ 200)) ∧ pb = 5 ∧ q = -2 ∧ gb = pb ∧ gT = fT ∧ gk = lk ∧ gq = lq) ∨ (((0 ≤ v1 ∧ v1 ≤ 20) ∧ (1 ≤ v2 ∧ v2 ≤ 40) ∧ (1 ≤ v3 ∧ v3 ≤ pd) ∧ (1 ≤ v4 ∧ v4 ≤ 200)) ∧ pb < 5 ∧ q = pb ∧ gb = pb + 1 ∧ gT = zup (zup (zup (zup (zup (zup (zup fT (pb * 7 + 0) v1) (pb * 7 + 1) v2) (pb * 7 + 2) v3) (pb * 7 + 3) v4) (pb * 7 + 4) 10) (pb * 7 + 5) 0) (pb * 7 + 6) 0 ∧ gk = 0 ∧ gq = 0)) ∧ v = some (Value.int (iI q)) ∧ w = (wLM z lh lt lb lc lr ph ld lm lf gk gq) ++ (wPlan z ph pa pr pt pd gb fP fR gT)
abbrev rm_X9_bond : Room := { frames := 4, cells := 0, slots := 0, locals := 109 }
set_option maxHeartbeats 4000000 in
set_option maxRecDepth 100000 in
theorem cc_X9_bond (l : Launch) (z : zC) (lh : Nat) (lt : Nat) (lb : Nat) (lc : Nat) (lr : Nat) (ld : Nat) (lm : Int) (lf : Int) (lk : Int) (lq : Int) (ph : Nat) (pa : Nat) (pr : Nat) (pt : Nat) (pd : Int) (pb : Int) (fP : Int → Int) (fR : Int → Int) (fT : Int → Int) (v1 : Int) (v2 : Int) (v3 : Int) (v4 : Int) (hpd : 1 ≤ pd ∧ pd ≤ 4) (hpb : 0 ≤ pb ∧ pb ≤ 5) (hv1 : -2147483648 ≤ v1 ∧ v1 < 2147483648) (hv2 : -2147483648 ≤ v2 ∧ v2 < 2147483648) (hv3 : -2147483648 ≤ v3 ∧ v3 < 2147483648) (hv4 : -2147483648 ≤ v4 ∧ v4 < 2147483648) : zzMet l yX9_bond cX9_bond 5 (Option.some .int) rm_X9_bond z [.ref lh, .int (iI v1), .int (iI v2), .int (iI v3), .int (iI v4)] ((wLM z lh lt lb lc lr ph ld lm lf lk lq) ++ (wPlan z ph pa pr pt pd pb fP fR fT)) (po_X9_bond z lh lt lb lc lr ld lm lf lk lq ph pa pr pt pd pb fP fR fT v1 v2 v3 v4) := by
  refine zzMet.of (own := RX9) (ls0 := [(0, .ref lh), (1, .int (iI v1)), (2, .int (iI v2)), (3, .int (iI v3)), (4, .int (iI v4))]) (by decide) rfl (Nat.le_of_ble_eq_true rfl) rfl ?_
  intro p e s m below meth c A C hr hnm
  refine zz_aload_n C 0 dX9_bond_0 rfl rfl ?_
  refine zz_get C 0 (ci := 9) (k := 4) rfl rfl in_X9 (by decide) qw_320 rfl rfl dX9_bond_1 ?_
  refine zz_iconst C dX9_bond_4 ?_
  refine zz_iload_n C 1 dX9_bond_5 rfl rfl ?_
  refine zz_callV (wr := wLM z lh lt lb lc lr ph ld lm lf lk lq) (st := []) C (cc_X6_fits_5 l z ph pa pr pt pd pb fP fR fT v1 (by omega) (by omega) (by omega)) yk_X6_fits qw_351 ⟨by decide, by decide⟩ [1, 2, 3, 4] [0] rfl rfl rfl rfl (by decide) 0 6 rfl rfl rfl rfl (Nat.le_of_ble_eq_true rfl) dX9_bond_6 ⟨by decide, by decide⟩ ?_
  rintro _ _ ⟨q_6, hq_6, rfl, rfl⟩
  refine zz_st (st' := [.int (iI q_6)]) rfl (zz_ws (ws' := (wLM z lh lt lb lc lr ph ld lm lf lk lq) ++ (wPlan z ph pa pr pt pd pb fP fR fT)) rfl ?_)
  refine zz_if_eq (tgt := 51) C dX9_bond_9 (by decide) (by unfold rI; omega) (fun c9 => ?_) (fun c9 => ?_)
  · skip
    refine zz_iconst C dX9_bond_51 ?_
    exact zz_iret C hr dX9_bond_52 ⟨-1, _, _, _, _, Or.inl ⟨by omega, rfl, rfl, rfl, rfl, rfl⟩, rfl, rfl⟩
  · skip
    refine zz_aload_n C 0 dX9_bond_12 rfl rfl ?_
    refine zz_get C 0 (ci := 9) (k := 4) rfl rfl in_X9 (by decide) qw_320 rfl rfl dX9_bond_13 ?_
    refine zz_bipush C dX9_bond_16 (by decide +kernel) ?_
    refine zz_iload_n C 2 dX9_bond_18 rfl rfl ?_
    refine zz_callV (wr := wLM z lh lt lb lc lr ph ld lm lf lk lq) (st := []) C (cc_X6_fits_6 l z ph pa pr pt pd pb fP fR fT v2 (by omega) (by omega) (by omega)) yk_X6_fits qw_351 ⟨by decide, by decide⟩ [1, 2, 3, 4] [0] rfl rfl rfl rfl (by decide) 0 6 rfl rfl rfl rfl (Nat.le_of_ble_eq_true rfl) dX9_bond_19 ⟨by decide, by decide⟩ ?_
    rintro _ _ ⟨q_19, hq_19, rfl, rfl⟩
    refine zz_st (st' := [.int (iI q_19)]) rfl (zz_ws (ws' := (wLM z lh lt lb lc lr ph ld lm lf lk lq) ++ (wPlan z ph pa pr pt pd pb fP fR fT)) rfl ?_)
    refine zz_if_eq (tgt := 51) C dX9_bond_22 (by decide) (by unfold rI; omega) (fun c22 => ?_) (fun c22 => ?_)
    · skip
      refine zz_iconst C dX9_bond_51 ?_
      exact zz_iret C hr dX9_bond_52 ⟨-1, _, _, _, _, Or.inl ⟨by omega, rfl, rfl, rfl, rfl, rfl⟩, rfl, rfl⟩
    · skip
      refine zz_aload_n C 0 dX9_bond_25 rfl rfl ?_
      refine zz_get C 0 (ci := 9) (k := 4) rfl rfl in_X9 (by decide) qw_320 rfl rfl dX9_bond_26 ?_
      refine zz_iconst C dX9_bond_29 ?_
      refine zz_iload_n C 3 dX9_bond_30 rfl rfl ?_
      refine zz_callV (wr := wLM z lh lt lb lc lr ph ld lm lf lk lq) (st := []) C (cc_X6_fits_1 l z ph pa pr pt pd pb fP fR fT v3 (by omega) (by omega) (by omega)) yk_X6_fits qw_351 ⟨by decide, by decide⟩ [1, 2, 3, 4] [0] rfl rfl rfl rfl (by decide) 0 6 rfl rfl rfl rfl (Nat.le_of_ble_eq_true rfl) dX9_bond_31 ⟨by decide, by decide⟩ ?_
      rintro _ _ ⟨q_31, hq_31, rfl, rfl⟩
      refine zz_st (st' := [.int (iI q_31)]) rfl (zz_ws (ws' := (wLM z lh lt lb lc lr ph ld lm lf lk lq) ++ (wPlan z ph pa pr pt pd pb fP fR fT)) rfl ?_)
      refine zz_if_eq (tgt := 51) C dX9_bond_34 (by decide) (by unfold rI; omega) (fun c34 => ?_) (fun c34 => ?_)
      · skip
        refine zz_iconst C dX9_bond_51 ?_
        exact zz_iret C hr dX9_bond_52 ⟨-1, _, _, _, _, Or.inl ⟨by omega, rfl, rfl, rfl, rfl, rfl⟩, rfl, rfl⟩
      · skip
        refine zz_aload_n C 0 dX9_bond_37 rfl rfl ?_
        refine zz_get C 0 (ci := 9) (k := 4) rfl rfl in_X9 (by decide) qw_320 rfl rfl dX9_bond_38 ?_
        refine zz_bipush C dX9_bond_41 (by decide +kernel) ?_
        refine zz_iload C 4 dX9_bond_43 rfl ?_
        refine zz_callV (wr := wLM z lh lt lb lc lr ph ld lm lf lk lq) (st := []) C (cc_X6_fits_7 l z ph pa pr pt pd pb fP fR fT v4 (by omega) (by omega) (by omega)) yk_X6_fits qw_351 ⟨by decide, by decide⟩ [1, 2, 3, 4] [0] rfl rfl rfl rfl (by decide) 0 6 rfl rfl rfl rfl (Nat.le_of_ble_eq_true rfl) dX9_bond_45 ⟨by decide, by decide⟩ ?_
        rintro _ _ ⟨q_45, hq_45, rfl, rfl⟩
        refine zz_st (st' := [.int (iI q_45)]) rfl (zz_ws (ws' := (wLM z lh lt lb lc lr ph ld lm lf lk lq) ++ (wPlan z ph pa pr pt pd pb fP fR fT)) rfl ?_)
        refine zz_if_ne (tgt := 53) C dX9_bond_48 (by decide) (by unfold rI; omega) (fun c48 => ?_) (fun c48 => ?_)
        · skip
          refine zz_aload_n C 0 dX9_bond_53 rfl rfl ?_
          refine zz_get C 0 (ci := 9) (k := 4) rfl rfl in_X9 (by decide) qw_320 rfl rfl dX9_bond_54 ?_
          refine zz_callV (wr := wLM z lh lt lb lc lr ph ld lm lf lk lq) (st := []) C (cc_X6_isFull l z ph pa pr pt pd pb fP fR fT (by omega)) yk_X6_isFull qw_395 ⟨by decide, by decide⟩ [1, 2, 3, 4] [0] rfl rfl rfl rfl (by decide) 0 6 rfl rfl rfl rfl (Nat.le_of_ble_eq_true rfl) dX9_bond_57 ⟨by decide, by decide⟩ ?_
          rintro _ _ ⟨q_57, hq_57, rfl, rfl⟩
          refine zz_st (st' := [.int (iI q_57)]) rfl (zz_ws (ws' := (wLM z lh lt lb lc lr ph ld lm lf lk lq) ++ (wPlan z ph pa pr pt pd pb fP fR fT)) rfl ?_)
          refine zz_if_eq (tgt := 66) C dX9_bond_60 (by decide) (by unfold rI; omega) (fun c60 => ?_) (fun c60 => ?_)
          · skip
            refine zz_aload_n C 0 dX9_bond_66 rfl rfl ?_
            refine zz_get C 0 (ci := 9) (k := 4) rfl rfl in_X9 (by decide) qw_320 rfl rfl dX9_bond_67 ?_
            refine zz_iload_n C 1 dX9_bond_70 rfl rfl ?_
            refine zz_iload_n C 2 dX9_bond_71 rfl rfl ?_
            refine zz_iload_n C 3 dX9_bond_72 rfl rfl ?_
            refine zz_iload C 4 dX9_bond_73 rfl ?_
            refine zz_callV (wr := wLM z lh lt lb lc lr ph ld lm lf lk lq) (st := []) C (cc_X6_addBond l z ph pa pr pt pd pb fP fR fT v1 v2 v3 v4 (by omega)) yk_X6_addBond qw_399 ⟨by decide, by decide⟩ [1, 2, 3, 4] [0] rfl rfl rfl rfl (by decide) 0 6 rfl rfl rfl rfl (Nat.le_of_ble_eq_true rfl) dX9_bond_75 ⟨by decide, by decide⟩ ?_
            rintro _ _ ⟨rfl, rfl⟩
            refine zz_st (st' := []) rfl (zz_ws (ws' := (wLM z lh lt lb lc lr ph ld lm lf lk lq) ++ (wPlan z ph pa pr pt pd (pb + 1) fP fR (zup (zup (zup (zup (zup (zup (zup fT (pb * 7 + 0) v1) (pb * 7 + 1) v2) (pb * 7 + 2) v3) (pb * 7 + 3) v4) (pb * 7 + 4) 10) (pb * 7 + 5) 0) (pb * 7 + 6) 0))) rfl ?_)
            refine zz_aload_n C 0 dX9_bond_78 rfl rfl ?_
            refine zz_callV (wr := wPlan z ph pa pr pt pd (pb + 1) fP fR (zup (zup (zup (zup (zup (zup (zup fT (pb * 7 + 0) v1) (pb * 7 + 1) v2) (pb * 7 + 2) v3) (pb * 7 + 3) v4) (pb * 7 + 4) 10) (pb * 7 + 5) 0) (pb * 7 + 6) 0)) (st := []) C (cc_X9_forgetAnswers l z lh lt lb lc lr ph ld lm lf lk lq ) yk_X9_forgetAnswers qw_367 ⟨by decide, by decide⟩ [0] [1, 2, 3, 4] rfl rfl rfl rfl (by decide) 0 9 rfl rfl rfl rfl (Nat.le_of_ble_eq_true rfl) dX9_bond_79 ⟨by decide, by decide⟩ ?_
            rintro _ _ ⟨rfl, rfl⟩
            refine zz_st (st' := []) rfl (zz_ws (ws' := (wPlan z ph pa pr pt pd (pb + 1) fP fR (zup (zup (zup (zup (zup (zup (zup fT (pb * 7 + 0) v1) (pb * 7 + 1) v2) (pb * 7 + 2) v3) (pb * 7 + 3) v4) (pb * 7 + 4) 10) (pb * 7 + 5) 0) (pb * 7 + 6) 0)) ++ (wLM z lh lt lb lc lr ph ld lm lf 0 0)) rfl ?_)
            refine zz_aload_n C 0 dX9_bond_82 rfl rfl ?_
            refine zz_get C 4 (ci := 9) (k := 4) rfl rfl in_X9 (by decide) qw_320 rfl rfl dX9_bond_83 ?_
            refine zz_get C 0 (ci := 6) (k := 1) rfl rfl in_X6 (by decide) qw_301 rfl rfl dX9_bond_86 ?_
            refine zz_iconst C dX9_bond_89 ?_
            refine zz_isub C dX9_bond_90 ?_
            refine zz_sub (ws' := (wLM z lh lt lb lc lr ph ld lm lf 0 0) ++ (wPlan z ph pa pr pt pd (pb + 1) fP fR (zup (zup (zup (zup (zup (zup (zup fT (pb * 7 + 0) v1) (pb * 7 + 1) v2) (pb * 7 + 2) v3) (pb * 7 + 3) v4) (pb * 7 + 4) 10) (pb * 7 + 5) 0) (pb * 7 + 6) 0))) [4, 0, 1, 2, 3] rfl rfl ?_
            exact zz_iret C hr dX9_bond_91 ⟨_, _, _, _, _, Or.inr (Or.inr ⟨by omega, by omega, by omega, rfl, rfl, rfl, rfl⟩), rfl, rfl⟩
          · skip
            refine zz_bipush C dX9_bond_63 (by decide +kernel) ?_
            exact zz_iret C hr dX9_bond_65 ⟨-2, _, _, _, _, Or.inr (Or.inl ⟨by omega, by omega, rfl, rfl, rfl, rfl, rfl⟩), rfl, rfl⟩
        · skip
          refine zz_iconst C dX9_bond_51 ?_
          exact zz_iret C hr dX9_bond_52 ⟨-1, _, _, _, _, Or.inl ⟨by omega, rfl, rfl, rfl, rfl, rfl⟩, rfl, rfl⟩
abbrev po_X9_drop (z : zC) (lh : Nat) (lt : Nat) (lb : Nat) (lc : Nat) (lr : Nat) (ld : Nat) (lm : Int) (lf : Int) (lk : Int) (lq : Int) (ph : Nat) (pa : Nat) (pr : Nat) (pt : Nat) (pd : Int) (pb : Int) (fP : Int → Int) (fR : Int → Int) (fT : Int → Int) (b9 : Int) : Option Value → va_W → Prop := fun v w => ∃ (q : Int), ∃ (gb : Int), ∃ (gT : Int → Int), ∃ (gk : Int), ∃ (gq : Int), (((0 ≤ b9 ∧ b9 < pb) ∧ q = pb - 1 ∧ gb = pb - 1 ∧ (∀ i : Int, gT i = if b9 * 7 ≤ i ∧ i < 28 then fT (i + 7) else fT i) ∧ gk = 0 ∧ gq = 0) ∨ (¬ (0 ≤ b9 ∧ b9 < pb) ∧ q = -1 ∧ gb = pb ∧ gT = fT ∧ gk = lk ∧ gq = lq)) ∧ v = some (Value.int (iI q)) ∧ w = (wLM z lh lt lb lc lr ph ld lm lf gk gq) ++ (wPlan z ph pa pr pt pd gb fP fR gT)
abbrev rm_X9_drop : Room := { frames := 4, cells := 0, slots := 0, locals := 105 }
set_option maxHeartbeats 4000000 in
set_option maxRecDepth 100000 in
theorem cc_X9_drop (l : Launch) (z : zC) (lh : Nat) (lt : Nat) (lb : Nat) (lc : Nat) (lr : Nat) (ld : Nat) (lm : Int) (lf : Int) (lk : Int) (lq : Int) (ph : Nat) (pa : Nat) (pr : Nat) (pt : Nat) (pd : Int) (pb : Int) (fP : Int → Int) (fR : Int → Int) (fT : Int → Int) (b9 : Int) (hpd : 1 ≤ pd ∧ pd ≤ 4) (hpb : 0 ≤ pb ∧ pb ≤ 5) (hb9 : -2147483648 ≤ b9 ∧ b9 < 2147483648) : zzMet l yX9_drop cX9_drop 2 (Option.some .int) rm_X9_drop z [.ref lh, .int (iI b9)] ((wLM z lh lt lb lc lr ph ld lm lf lk lq) ++ (wPlan z ph pa pr pt pd pb fP fR fT)) (po_X9_drop z lh lt lb lc lr ld lm lf lk lq ph pa pr pt pd pb fP fR fT b9) := by
  refine zzMet.of (own := RX9) (ls0 := [(0, .ref lh), (1, .int (iI b9))]) (by decide) rfl (Nat.le_of_ble_eq_true rfl) rfl ?_
  intro p e s m below meth c A C hr hnm
  refine zz_aload_n C 0 dX9_drop_0 rfl rfl ?_
  refine zz_get C 0 (ci := 9) (k := 4) rfl rfl in_X9 (by decide) qw_320 rfl rfl dX9_drop_1 ?_
  refine zz_iconst C dX9_drop_4 ?_
  refine zz_iload_n C 1 dX9_drop_5 rfl rfl ?_
  refine zz_callV (wr := wLM z lh lt lb lc lr ph ld lm lf lk lq) (st := []) C (cc_X6_fits_4 l z ph pa pr pt pd pb fP fR fT b9 (by omega) (by omega) (by omega)) yk_X6_fits qw_351 ⟨by decide, by decide⟩ [1, 2, 3, 4] [0] rfl rfl rfl rfl (by decide) 0 6 rfl rfl rfl rfl (Nat.le_of_ble_eq_true rfl) dX9_drop_6 ⟨by decide, by decide⟩ ?_
  rintro _ _ ⟨q_6, hq_6, rfl, rfl⟩
  refine zz_st (st' := [.int (iI q_6)]) rfl (zz_ws (ws' := (wLM z lh lt lb lc lr ph ld lm lf lk lq) ++ (wPlan z ph pa pr pt pd pb fP fR fT)) rfl ?_)
  refine zz_if_ne (tgt := 14) C dX9_drop_9 (by decide) (by unfold rI; omega) (fun c9 => ?_) (fun c9 => ?_)
  · skip
    refine zz_aload_n C 0 dX9_drop_14 rfl rfl ?_
    refine zz_get C 0 (ci := 9) (k := 4) rfl rfl in_X9 (by decide) qw_320 rfl rfl dX9_drop_15 ?_
    refine zz_iload_n C 1 dX9_drop_18 rfl rfl ?_
    refine zz_callV (wr := wLM z lh lt lb lc lr ph ld lm lf lk lq) (st := []) C (cc_X6_removeBond l z ph pa pr pt pd pb fP fR fT b9 (by omega) (by omega) (by omega)) yk_X6_removeBond qw_429 ⟨by decide, by decide⟩ [1, 2, 3, 4] [0] rfl rfl rfl rfl (by decide) 0 6 rfl rfl rfl rfl (Nat.le_of_ble_eq_true rfl) dX9_drop_19 ⟨by decide, by decide⟩ ?_
    rintro _ _ ⟨gT_19, hgT_19, rfl, rfl⟩
    refine zz_st (st' := []) rfl (zz_ws (ws' := (wLM z lh lt lb lc lr ph ld lm lf lk lq) ++ (wPlan z ph pa pr pt pd (pb - 1) fP fR gT_19)) rfl ?_)
    refine zz_aload_n C 0 dX9_drop_22 rfl rfl ?_
    refine zz_callV (wr := wPlan z ph pa pr pt pd (pb - 1) fP fR gT_19) (st := []) C (cc_X9_forgetAnswers l z lh lt lb lc lr ph ld lm lf lk lq ) yk_X9_forgetAnswers qw_367 ⟨by decide, by decide⟩ [0] [1, 2, 3, 4] rfl rfl rfl rfl (by decide) 0 9 rfl rfl rfl rfl (Nat.le_of_ble_eq_true rfl) dX9_drop_23 ⟨by decide, by decide⟩ ?_
    rintro _ _ ⟨rfl, rfl⟩
    refine zz_st (st' := []) rfl (zz_ws (ws' := (wPlan z ph pa pr pt pd (pb - 1) fP fR gT_19) ++ (wLM z lh lt lb lc lr ph ld lm lf 0 0)) rfl ?_)
    refine zz_aload_n C 0 dX9_drop_26 rfl rfl ?_
    refine zz_get C 4 (ci := 9) (k := 4) rfl rfl in_X9 (by decide) qw_320 rfl rfl dX9_drop_27 ?_
    refine zz_get C 0 (ci := 6) (k := 1) rfl rfl in_X6 (by decide) qw_301 rfl rfl dX9_drop_30 ?_
    refine zz_sub (ws' := (wLM z lh lt lb lc lr ph ld lm lf 0 0) ++ (wPlan z ph pa pr pt pd (pb - 1) fP fR gT_19)) [4, 0, 1, 2, 3] rfl rfl ?_
    exact zz_iret C hr dX9_drop_33 ⟨_, _, _, _, _, Or.inl ⟨by omega, rfl, rfl, hgT_19, rfl, rfl⟩, rfl, rfl⟩
  · skip
    refine zz_iconst C dX9_drop_12 ?_
    exact zz_iret C hr dX9_drop_13 ⟨-1, _, _, _, _, Or.inr ⟨by omega, rfl, rfl, rfl, rfl, rfl⟩, rfl, rfl⟩
abbrev po_X9_cash (z : zC) (lh : Nat) (lt : Nat) (lb : Nat) (lc : Nat) (lr : Nat) (ld : Nat) (lm : Int) (lf : Int) (lk : Int) (lq : Int) (ph : Nat) (pa : Nat) (pr : Nat) (pt : Nat) (pd : Int) (pb : Int) (fP : Int → Int) (fR : Int → Int) (fT : Int → Int) (c9 : Int) : Option Value → va_W → Prop := fun v w => ∃ (q : Int), ∃ (gc : Int), ((q = 1 ∧ (0 ≤ c9 ∧ c9 ≤ 9999) ∧ gc = c9) ∨ (q = 0 ∧ ¬ (0 ≤ c9 ∧ c9 ≤ 9999) ∧ gc = lm)) ∧ v = some (Value.int (iI q)) ∧ w = (wLM z lh lt lb lc lr ph ld gc lf lk lq) ++ (wPlan z ph pa pr pt pd pb fP fR fT)
abbrev rm_X9_cash : Room := { frames := 3, cells := 0, slots := 0, locals := 83 }
set_option maxHeartbeats 4000000 in
set_option maxRecDepth 100000 in
theorem cc_X9_cash (l : Launch) (z : zC) (lh : Nat) (lt : Nat) (lb : Nat) (lc : Nat) (lr : Nat) (ld : Nat) (lm : Int) (lf : Int) (lk : Int) (lq : Int) (ph : Nat) (pa : Nat) (pr : Nat) (pt : Nat) (pd : Int) (pb : Int) (fP : Int → Int) (fR : Int → Int) (fT : Int → Int) (c9 : Int) (hpd : 1 ≤ pd ∧ pd ≤ 4) (hpb : 0 ≤ pb ∧ pb ≤ 5) (hc9 : -2147483648 ≤ c9 ∧ c9 < 2147483648) : zzMet l yX9_cash cX9_cash 2 (Option.some .boolean) rm_X9_cash z [.ref lh, .int (iI c9)] ((wLM z lh lt lb lc lr ph ld lm lf lk lq) ++ (wPlan z ph pa pr pt pd pb fP fR fT)) (po_X9_cash z lh lt lb lc lr ld lm lf lk lq ph pa pr pt pd pb fP fR fT c9) := by
  refine zzMet.of (own := RX9) (ls0 := [(0, .ref lh), (1, .int (iI c9))]) (by decide) rfl (Nat.le_of_ble_eq_true rfl) rfl ?_
  intro p e s m below meth c A C hr hnm
  refine zz_aload_n C 0 dX9_cash_0 rfl rfl ?_
  refine zz_get C 0 (ci := 9) (k := 4) rfl rfl in_X9 (by decide) qw_320 rfl rfl dX9_cash_1 ?_
  refine zz_bipush C dX9_cash_4 (by decide +kernel) ?_
  refine zz_iload_n C 1 dX9_cash_6 rfl rfl ?_
  refine zz_callV (wr := wLM z lh lt lb lc lr ph ld lm lf lk lq) (st := []) C (cc_X6_fits_10 l z ph pa pr pt pd pb fP fR fT c9 (by omega) (by omega) (by omega)) yk_X6_fits qw_351 ⟨by decide, by decide⟩ [1, 2, 3, 4] [0] rfl rfl rfl rfl (by decide) 0 6 rfl rfl rfl rfl (Nat.le_of_ble_eq_true rfl) dX9_cash_7 ⟨by decide, by decide⟩ ?_
  rintro _ _ ⟨q_7, hq_7, rfl, rfl⟩
  refine zz_st (st' := [.int (iI q_7)]) rfl (zz_ws (ws' := (wLM z lh lt lb lc lr ph ld lm lf lk lq) ++ (wPlan z ph pa pr pt pd pb fP fR fT)) rfl ?_)
  refine zz_if_ne (tgt := 15) C dX9_cash_10 (by decide) (by unfold rI; omega) (fun c10 => ?_) (fun c10 => ?_)
  · skip
    refine zz_aload_n C 0 dX9_cash_15 rfl rfl ?_
    refine zz_iload_n C 1 dX9_cash_16 rfl rfl ?_
    refine zz_put (ty := .int) (ws' := (wLM z lh lt lb lc lr ph ld c9 lf lk lq) ++ (wPlan z ph pa pr pt pd pb fP fR fT)) C 0 (ci := 9) (k := 6) rfl rfl in_X9 tyX9 tyX9_ok nmX9 (by decide) qw_322 rfl rfl (by decide +kernel) rfl rfl (Nat.le_of_ble_eq_true rfl) rfl dX9_cash_17 ?_
    refine zz_iconst C dX9_cash_20 ?_
    exact zz_zret C hr (by decide +kernel) dX9_cash_21 ⟨1, _, Or.inl ⟨rfl, by omega, rfl⟩, rfl, rfl⟩
  · skip
    refine zz_iconst C dX9_cash_13 ?_
    exact zz_zret C hr (by decide +kernel) dX9_cash_14 ⟨0, _, Or.inr ⟨rfl, by omega, rfl⟩, rfl, rfl⟩
abbrev po_X9_fault (z : zC) (lh : Nat) (lt : Nat) (lb : Nat) (lc : Nat) (lr : Nat) (lp : Nat) (ld : Nat) (lm : Int) (lf : Int) (lk : Int) (lq : Int) : Option Value → va_W → Prop := fun v w => v = some (Value.int (iI lf)) ∧ w = wLM z lh lt lb lc lr lp ld lm lf lk lq
abbrev rm_X9_fault : Room := { frames := 1, cells := 0, slots := 0, locals := 40 }
set_option maxHeartbeats 4000000 in
set_option maxRecDepth 100000 in
theorem cc_X9_fault (l : Launch) (z : zC) (lh : Nat) (lt : Nat) (lb : Nat) (lc : Nat) (lr : Nat) (lp : Nat) (ld : Nat) (lm : Int) (lf : Int) (lk : Int) (lq : Int)  : zzMet l yX9_fault cX9_fault 1 (Option.some .int) rm_X9_fault z [.ref lh] (wLM z lh lt lb lc lr lp ld lm lf lk lq) (po_X9_fault z lh lt lb lc lr lp ld lm lf lk lq) := by
  refine zzMet.of (own := RX9) (ls0 := [(0, .ref lh)]) (by decide) rfl (Nat.le_of_ble_eq_true rfl) rfl ?_
  intro p e s m below meth c A C hr hnm
  refine zz_aload_n C 0 dX9_fault_0 rfl rfl ?_
  refine zz_get C 0 (ci := 9) (k := 7) rfl rfl in_X9 (by decide) qw_323 rfl rfl dX9_fault_1 ?_
  exact zz_iret C hr dX9_fault_4 ⟨zz_vI rfl, rfl⟩
abbrev po_X9_count (z : zC) (lh : Nat) (lb : Nat) (lc : Nat) (lr : Nat) (ld : Nat) (lm : Int) (lf : Int) (lk : Int) (lq : Int) (ph : Nat) (pa : Nat) (pr : Nat) (pt : Nat) (pd : Int) (pb : Int) (fP : Int → Int) (fR : Int → Int) (fT : Int → Int) (th : Nat) (tb : Nat) (tn : Nat) (tz : Int) (tf : Int) (tk : Int) (ta : Int) (te : Int) (fB : Int → Int) (fN : Int → Int) (w9 : Int) : Option Value → va_W → Prop := fun v w => v = some (Value.int (iI (lCount pd pb tz lm w9))) ∧ w = (wLM z lh th lb lc lr ph ld lm lf lk lq) ++ (wPlan z ph pa pr pt pd pb fP fR fT) ++ (wText z th tb tn tz tf tk ta te fB fN)
abbrev rm_X9_count : Room := { frames := 1, cells := 0, slots := 0, locals := 40 }
set_option maxHeartbeats 4000000 in
set_option maxRecDepth 100000 in
theorem cc_X9_count (l : Launch) (z : zC) (lh : Nat) (lb : Nat) (lc : Nat) (lr : Nat) (ld : Nat) (lm : Int) (lf : Int) (lk : Int) (lq : Int) (ph : Nat) (pa : Nat) (pr : Nat) (pt : Nat) (pd : Int) (pb : Int) (fP : Int → Int) (fR : Int → Int) (fT : Int → Int) (th : Nat) (tb : Nat) (tn : Nat) (tz : Int) (tf : Int) (tk : Int) (ta : Int) (te : Int) (fB : Int → Int) (fN : Int → Int) (w9 : Int) (hw9 : -2147483648 ≤ w9 ∧ w9 < 2147483648) : zzMet l yX9_count cX9_count 2 (Option.some .int) rm_X9_count z [.ref lh, .int (iI w9)] ((wLM z lh th lb lc lr ph ld lm lf lk lq) ++ (wPlan z ph pa pr pt pd pb fP fR fT) ++ (wText z th tb tn tz tf tk ta te fB fN)) (po_X9_count z lh lb lc lr ld lm lf lk lq ph pa pr pt pd pb fP fR fT th tb tn tz tf tk ta te fB fN w9) := by
  refine zzMet.of (own := RX9) (ls0 := [(0, .ref lh), (1, .int (iI w9))]) (by decide) rfl (Nat.le_of_ble_eq_true rfl) rfl ?_
  intro p e s m below meth c A C hr hnm
  refine zz_iload_n C 1 dX9_count_0 rfl rfl ?_
  rcases (show w9 = 0 ∨ w9 = 1 ∨ w9 = 2 ∨ w9 = 3 ∨ (w9 < 0 ∨ 3 < w9) by omega) with c1 | c1 | c1 | c1 | c1
  · skip
    refine zz_tabIn (tgt := 32) C 0 dX9_count_1 c1 (by unfold rI; omega) (by decide) (by decide) rfl (by decide) ?_
    refine zz_aload_n C 0 dX9_count_32 rfl rfl ?_
    refine zz_get C 0 (ci := 9) (k := 4) rfl rfl in_X9 (by decide) qw_320 rfl rfl dX9_count_33 ?_
    refine zz_get C 1 (ci := 6) (k := 0) rfl rfl in_X6 (by decide) qw_296 rfl rfl dX9_count_36 ?_
    exact zz_iret C hr dX9_count_39 ⟨zz_vI (by unfold lCount; (repeat' split) <;> first | rfl | (exfalso; omega)), rfl⟩
  · skip
    refine zz_tabIn (tgt := 40) C 1 dX9_count_1 c1 (by unfold rI; omega) (by decide) (by decide) rfl (by decide) ?_
    refine zz_aload_n C 0 dX9_count_40 rfl rfl ?_
    refine zz_get C 0 (ci := 9) (k := 4) rfl rfl in_X9 (by decide) qw_320 rfl rfl dX9_count_41 ?_
    refine zz_get C 1 (ci := 6) (k := 1) rfl rfl in_X6 (by decide) qw_301 rfl rfl dX9_count_44 ?_
    exact zz_iret C hr dX9_count_47 ⟨zz_vI (by unfold lCount; (repeat' split) <;> first | rfl | (exfalso; omega)), rfl⟩
  · skip
    refine zz_tabIn (tgt := 48) C 2 dX9_count_1 c1 (by unfold rI; omega) (by decide) (by decide) rfl (by decide) ?_
    refine zz_aload_n C 0 dX9_count_48 rfl rfl ?_
    refine zz_get C 0 (ci := 9) (k := 0) rfl rfl in_X9 (by decide) qw_316 rfl rfl dX9_count_49 ?_
    refine zz_get C 5 (ci := 8) (k := 0) rfl rfl in_X8 (by decide) qw_39 rfl rfl dX9_count_52 ?_
    exact zz_iret C hr dX9_count_55 ⟨zz_vI (by unfold lCount; (repeat' split) <;> first | rfl | (exfalso; omega)), rfl⟩
  · skip
    refine zz_tabIn (tgt := 56) C 3 dX9_count_1 c1 (by unfold rI; omega) (by decide) (by decide) rfl (by decide) ?_
    refine zz_aload_n C 0 dX9_count_56 rfl rfl ?_
    refine zz_get C 0 (ci := 9) (k := 6) rfl rfl in_X9 (by decide) qw_322 rfl rfl dX9_count_57 ?_
    exact zz_iret C hr dX9_count_60 ⟨zz_vI (by unfold lCount; (repeat' split) <;> first | rfl | (exfalso; omega)), rfl⟩
  · skip
    refine zz_tabOut (tgt := 61) C dX9_count_1 (by unfold rI; omega) c1 (by decide) ?_
    refine zz_iconst C dX9_count_61 ?_
    exact zz_iret C hr dX9_count_62 ⟨zz_vI (by unfold lCount; (repeat' split) <;> first | rfl | (exfalso; omega)), rfl⟩
abbrev po_X9_date (z : zC) (lh : Nat) (lt : Nat) (lb : Nat) (lc : Nat) (lr : Nat) (ld : Nat) (lm : Int) (lf : Int) (lk : Int) (lq : Int) (ph : Nat) (pa : Nat) (pr : Nat) (pt : Nat) (pd : Int) (pb : Int) (fP : Int → Int) (fR : Int → Int) (fT : Int → Int) (d9 : Int) (w9 : Int) : Option Value → va_W → Prop := fun v w => v = some (Value.int (iI (lDate pd fP fR d9 w9))) ∧ w = (wLM z lh lt lb lc lr ph ld lm lf lk lq) ++ (wPlan z ph pa pr pt pd pb fP fR fT)
abbrev rm_X9_date : Room := { frames := 3, cells := 0, slots := 0, locals := 83 }
set_option maxHeartbeats 4000000 in
set_option maxRecDepth 100000 in
theorem cc_X9_date (l : Launch) (z : zC) (lh : Nat) (lt : Nat) (lb : Nat) (lc : Nat) (lr : Nat) (ld : Nat) (lm : Int) (lf : Int) (lk : Int) (lq : Int) (ph : Nat) (pa : Nat) (pr : Nat) (pt : Nat) (pd : Int) (pb : Int) (fP : Int → Int) (fR : Int → Int) (fT : Int → Int) (d9 : Int) (w9 : Int) (hpd : 1 ≤ pd ∧ pd ≤ 4) (hpb : 0 ≤ pb ∧ pb ≤ 5) (hd9 : -2147483648 ≤ d9 ∧ d9 < 2147483648) (hw9 : -2147483648 ≤ w9 ∧ w9 < 2147483648) : zzMet l yX9_date cX9_date 3 (Option.some .int) rm_X9_date z [.ref lh, .int (iI d9), .int (iI w9)] ((wLM z lh lt lb lc lr ph ld lm lf lk lq) ++ (wPlan z ph pa pr pt pd pb fP fR fT)) (po_X9_date z lh lt lb lc lr ld lm lf lk lq ph pa pr pt pd pb fP fR fT d9 w9) := by
  refine zzMet.of (own := RX9) (ls0 := [(0, .ref lh), (1, .int (iI d9)), (2, .int (iI w9))]) (by decide) rfl (Nat.le_of_ble_eq_true rfl) rfl ?_
  intro p e s m below meth c A C hr hnm
  refine zz_aload_n C 0 dX9_date_0 rfl rfl ?_
  refine zz_get C 0 (ci := 9) (k := 4) rfl rfl in_X9 (by decide) qw_320 rfl rfl dX9_date_1 ?_
  refine zz_iconst C dX9_date_4 ?_
  refine zz_iload_n C 1 dX9_date_5 rfl rfl ?_
  refine zz_callV (wr := wLM z lh lt lb lc lr ph ld lm lf lk lq) (st := []) C (cc_X6_fits_1 l z ph pa pr pt pd pb fP fR fT d9 (by omega) (by omega) (by omega)) yk_X6_fits qw_351 ⟨by decide, by decide⟩ [1, 2, 3, 4] [0] rfl rfl rfl rfl (by decide) 0 6 rfl rfl rfl rfl (Nat.le_of_ble_eq_true rfl) dX9_date_6 ⟨by decide, by decide⟩ ?_
  rintro _ _ ⟨q_6, hq_6, rfl, rfl⟩
  refine zz_st (st' := [.int (iI q_6)]) rfl (zz_ws (ws' := (wLM z lh lt lb lc lr ph ld lm lf lk lq) ++ (wPlan z ph pa pr pt pd pb fP fR fT)) rfl ?_)
  refine zz_if_ne (tgt := 14) C dX9_date_9 (by decide) (by unfold rI; omega) (fun c9 => ?_) (fun c9 => ?_)
  · skip
    refine zz_iload_n C 2 dX9_date_14 rfl rfl ?_
    refine zz_if_ne (tgt := 27) C dX9_date_15 (by decide) (by unfold rI; omega) (fun c15 => ?_) (fun c15 => ?_)
    · skip
      refine zz_iload_n C 2 dX9_date_27 rfl rfl ?_
      refine zz_iconst C dX9_date_28 ?_
      refine zz_icmp_ne (tgt := 43) C dX9_date_29 (by decide) (by unfold rI; omega) (by unfold rI; omega) (fun c29 => ?_) (fun c29 => ?_)
      · skip
        refine zz_iconst C dX9_date_43 ?_
        exact zz_iret C hr dX9_date_44 ⟨zz_vI (by unfold lDate; (repeat' split) <;> first | rfl | (exfalso; omega)), rfl⟩
      · skip
        refine zz_aload_n C 0 dX9_date_32 rfl rfl ?_
        refine zz_get C 0 (ci := 9) (k := 4) rfl rfl in_X9 (by decide) qw_320 rfl rfl dX9_date_33 ?_
        refine zz_iload_n C 1 dX9_date_36 rfl rfl ?_
        refine zz_callV (wr := wLM z lh lt lb lc lr ph ld lm lf lk lq) (st := []) C (cc_X6_rateAt l z ph pa pr pt pd pb fP fR fT d9 (by omega) (by omega) (by omega)) yk_X6_rateAt qw_602 ⟨by decide, by decide⟩ [1, 2, 3, 4] [0] rfl rfl rfl rfl (by decide) 0 6 rfl rfl rfl rfl (Nat.le_of_ble_eq_true rfl) dX9_date_37 ⟨by decide, by decide⟩ ?_
        rintro _ _ ⟨rfl, rfl⟩
        refine zz_st (st' := [.int (iI (plAt pd fR d9))]) rfl (zz_ws (ws' := (wLM z lh lt lb lc lr ph ld lm lf lk lq) ++ (wPlan z ph pa pr pt pd pb fP fR fT)) rfl ?_)
        refine zz_goto (tgt := 44) C dX9_date_40 (by decide) ?_
        exact zz_iret C hr dX9_date_44 ⟨zz_vI (by unfold lDate; (repeat' split) <;> first | rfl | (exfalso; omega)), rfl⟩
    · skip
      refine zz_aload_n C 0 dX9_date_18 rfl rfl ?_
      refine zz_get C 0 (ci := 9) (k := 4) rfl rfl in_X9 (by decide) qw_320 rfl rfl dX9_date_19 ?_
      refine zz_iload_n C 1 dX9_date_22 rfl rfl ?_
      refine zz_callV (wr := wLM z lh lt lb lc lr ph ld lm lf lk lq) (st := []) C (cc_X6_paidAt l z ph pa pr pt pd pb fP fR fT d9 (by omega) (by omega) (by omega)) yk_X6_paidAt qw_598 ⟨by decide, by decide⟩ [1, 2, 3, 4] [0] rfl rfl rfl rfl (by decide) 0 6 rfl rfl rfl rfl (Nat.le_of_ble_eq_true rfl) dX9_date_23 ⟨by decide, by decide⟩ ?_
      rintro _ _ ⟨rfl, rfl⟩
      refine zz_st (st' := [.int (iI (plAt pd fP d9))]) rfl (zz_ws (ws' := (wLM z lh lt lb lc lr ph ld lm lf lk lq) ++ (wPlan z ph pa pr pt pd pb fP fR fT)) rfl ?_)
      exact zz_iret C hr dX9_date_26 ⟨zz_vI (by unfold lDate; (repeat' split) <;> first | rfl | (exfalso; omega)), rfl⟩
  · skip
    refine zz_iconst C dX9_date_12 ?_
    exact zz_iret C hr dX9_date_13 ⟨zz_vI (by unfold lDate; (repeat' split) <;> first | rfl | (exfalso; omega)), rfl⟩
abbrev po_X9_end (z : zC) (lh : Nat) (lb : Nat) (lc : Nat) (lr : Nat) (lp : Nat) (ld : Nat) (lm : Int) (lf : Int) (lk : Int) (lq : Int) (th : Nat) (tb : Nat) (tn : Nat) (tz : Int) (tf : Int) (tk : Int) (ta : Int) (te : Int) (fB : Int → Int) (fN : Int → Int) (n9 : Int) : Option Value → va_W → Prop := fun v w => ∃ (q : Int), ∃ (gc : Int), ((q = 1 ∧ (0 ≤ n9 ∧ n9 ≤ tz) ∧ gc = n9) ∨ (q = 0 ∧ ¬ (0 ≤ n9 ∧ n9 ≤ tz) ∧ gc = tz)) ∧ v = some (Value.int (iI q)) ∧ w = (wLM z lh th lb lc lr lp ld lm lf lk lq) ++ (wText z th tb tn gc tf tk ta te fB fN)
abbrev rm_X9_end : Room := { frames := 1, cells := 0, slots := 0, locals := 40 }
set_option maxHeartbeats 4000000 in
set_option maxRecDepth 100000 in
theorem cc_X9_end (l : Launch) (z : zC) (lh : Nat) (lb : Nat) (lc : Nat) (lr : Nat) (lp : Nat) (ld : Nat) (lm : Int) (lf : Int) (lk : Int) (lq : Int) (th : Nat) (tb : Nat) (tn : Nat) (tz : Int) (tf : Int) (tk : Int) (ta : Int) (te : Int) (fB : Int → Int) (fN : Int → Int) (n9 : Int) (htz : 0 ≤ tz ∧ tz ≤ 300) (hn9 : -2147483648 ≤ n9 ∧ n9 < 2147483648) : zzMet l yX9_end cX9_end 2 (Option.some .boolean) rm_X9_end z [.ref lh, .int (iI n9)] ((wLM z lh th lb lc lr lp ld lm lf lk lq) ++ (wText z th tb tn tz tf tk ta te fB fN)) (po_X9_end z lh lb lc lr lp ld lm lf lk lq th tb tn tz tf tk ta te fB fN n9) := by
  refine zzMet.of (own := RX9) (ls0 := [(0, .ref lh), (1, .int (iI n9))]) (by decide) rfl (Nat.le_of_ble_eq_true rfl) rfl ?_
  intro p e s m below meth c A C hr hnm
  refine zz_iload_n C 1 dX9_end_0 rfl rfl ?_
  refine zz_if_lt (tgt := 15) C dX9_end_1 (by decide) (by unfold rI; omega) (fun c1 => ?_) (fun c1 => ?_)
  · skip
    refine zz_iconst C dX9_end_15 ?_
    exact zz_zret C hr (by decide +kernel) dX9_end_16 ⟨0, _, Or.inr ⟨rfl, by omega, rfl⟩, rfl, rfl⟩
  · skip
    refine zz_iload_n C 1 dX9_end_4 rfl rfl ?_
    refine zz_aload_n C 0 dX9_end_5 rfl rfl ?_
    refine zz_get C 0 (ci := 9) (k := 0) rfl rfl in_X9 (by decide) qw_316 rfl rfl dX9_end_6 ?_
    refine zz_get C 1 (ci := 8) (k := 0) rfl rfl in_X8 (by decide) qw_39 rfl rfl dX9_end_9 ?_
    refine zz_icmp_le (tgt := 17) C dX9_end_12 (by decide) (by unfold rI; omega) (by unfold rI; omega) (fun c12 => ?_) (fun c12 => ?_)
    · skip
      refine zz_aload_n C 0 dX9_end_17 rfl rfl ?_
      refine zz_get C 0 (ci := 9) (k := 0) rfl rfl in_X9 (by decide) qw_316 rfl rfl dX9_end_18 ?_
      refine zz_iload_n C 1 dX9_end_21 rfl rfl ?_
      refine zz_put (ty := .int) (ws' := (wLM z lh th lb lc lr lp ld lm lf lk lq) ++ (wText z th tb tn n9 tf tk ta te fB fN)) C 1 (ci := 8) (k := 0) rfl rfl in_X8 tyX8 tyX8_ok nmX8 (by decide) qw_39 rfl rfl (by decide +kernel) rfl rfl (Nat.le_of_ble_eq_true rfl) rfl dX9_end_22 ?_
      refine zz_iconst C dX9_end_25 ?_
      exact zz_zret C hr (by decide +kernel) dX9_end_26 ⟨1, _, Or.inl ⟨rfl, by omega, rfl⟩, rfl, rfl⟩
    · skip
      refine zz_iconst C dX9_end_15 ?_
      exact zz_zret C hr (by decide +kernel) dX9_end_16 ⟨0, _, Or.inr ⟨rfl, by omega, rfl⟩, rfl, rfl⟩
abbrev po_X8_hasRoom (z : zC) (th : Nat) (tb : Nat) (tn : Nat) (tz : Int) (tf : Int) (tk : Int) (ta : Int) (te : Int) (fB : Int → Int) (fN : Int → Int) (n9 : Int) : Option Value → va_W → Prop := fun v w => ∃ (q : Int), ((q = 1 ∧ (tz + n9 ≤ 300)) ∨ (q = 0 ∧ ¬ (tz + n9 ≤ 300))) ∧ v = some (Value.int (iI q)) ∧ w = wText z th tb tn tz tf tk ta te fB fN
abbrev rm_X8_hasRoom : Room := { frames := 1, cells := 0, slots := 0, locals := 40 }
set_option maxHeartbeats 4000000 in
set_option maxRecDepth 100000 in
theorem cc_X8_hasRoom (l : Launch) (z : zC) (th : Nat) (tb : Nat) (tn : Nat) (tz : Int) (tf : Int) (tk : Int) (ta : Int) (te : Int) (fB : Int → Int) (fN : Int → Int) (n9 : Int) (htz : 0 ≤ tz ∧ tz ≤ 300) (hn9 : 0 ≤ n9 ∧ n9 ≤ 300) : zzMet l yX8_hasRoom cX8_hasRoom 2 (Option.some .boolean) rm_X8_hasRoom z [.ref th, .int (iI n9)] (wText z th tb tn tz tf tk ta te fB fN) (po_X8_hasRoom z th tb tn tz tf tk ta te fB fN n9) := by
  refine zzMet.of (own := RX8) (ls0 := [(0, .ref th), (1, .int (iI n9))]) (by decide) rfl (Nat.le_of_ble_eq_true rfl) rfl ?_
  intro p e s m below meth c A C hr hnm
  refine zz_aload_n C 0 dX8_hasRoom_0 rfl rfl ?_
  refine zz_get C 0 (ci := 8) (k := 0) rfl rfl in_X8 (by decide) qw_38 rfl rfl dX8_hasRoom_1 ?_
  refine zz_iload_n C 1 dX8_hasRoom_4 rfl rfl ?_
  refine zz_iadd C dX8_hasRoom_5 ?_
  refine zz_sipush C dX8_hasRoom_6 (by decide +kernel) ?_
  refine zz_icmp_gt (tgt := 16) C dX8_hasRoom_9 (by decide) (by unfold rI; omega) (by unfold rI; omega) (fun c9 => ?_) (fun c9 => ?_)
  · skip
    refine zz_iconst C dX8_hasRoom_16 ?_
    exact zz_zret C hr (by decide +kernel) dX8_hasRoom_17 ⟨0, Or.inr ⟨rfl, by omega⟩, rfl, rfl⟩
  · skip
    refine zz_iconst C dX8_hasRoom_12 ?_
    refine zz_goto (tgt := 17) C dX8_hasRoom_13 (by decide) ?_
    exact zz_zret C hr (by decide +kernel) dX8_hasRoom_17 ⟨1, Or.inl ⟨rfl, by omega⟩, rfl, rfl⟩
abbrev po_X8_addBytes (z : zC) (th : Nat) (tb : Nat) (tn : Nat) (tz : Int) (tf : Int) (tk : Int) (ta : Int) (te : Int) (fB : Int → Int) (fN : Int → Int) (v9 : Int) : Option Value → va_W → Prop := fun v w => v = none ∧ w = wText z th tb tn (tz + 4) tf tk ta te (mFour fB tz v9) fN
abbrev rm_X8_addBytes : Room := { frames := 2, cells := 0, slots := 0, locals := 61 }
set_option maxHeartbeats 4000000 in
set_option maxRecDepth 100000 in
theorem cc_X8_addBytes (l : Launch) (z : zC) (th : Nat) (tb : Nat) (tn : Nat) (tz : Int) (tf : Int) (tk : Int) (ta : Int) (te : Int) (fB : Int → Int) (fN : Int → Int) (v9 : Int) (htz : 0 ≤ tz ∧ tz ≤ 296) : zzMet l yX8_addBytes cX8_addBytes 3 none rm_X8_addBytes z [.ref th, .int (iI v9)] (wText z th tb tn tz tf tk ta te fB fN) (po_X8_addBytes z th tb tn tz tf tk ta te fB fN v9) := by
  refine zzMet.of (own := RX8) (ls0 := [(0, .ref th), (1, .int (iI v9))]) (by decide) rfl (Nat.le_of_ble_eq_true rfl) rfl ?_
  intro p e s m below meth c A C hr hnm
  refine zz_bipush C dX8_addBytes_0 (by decide +kernel) ?_
  refine zz_istore_n (ls' := [(2, .int (iI 24)), (0, .ref th), (1, .int (iI v9))]) C dX8_addBytes_2 rfl (by decide) rfl ?_
  have Lp3 : ∀ (fu9 : Nat) (k : Int) (tp : Int) (gP : Int → Int), ((k = 24 ∧ tp = tz ∧ gP = fB) ∨ (k = 16 ∧ tp = tz + 1 ∧ gP = mF1 fB tz v9) ∨ (k = 8 ∧ tp = tz + 2 ∧ gP = mF2 fB tz v9) ∨ (k = 0 ∧ tp = tz + 3 ∧ gP = mF3 fB tz v9) ∨ (k = -8 ∧ tp = tz + 4 ∧ gP = mFour fB tz v9)) → (k + 8).toNat < fu9 → zzW p l e rm_X8_addBytes s m ([.ref th, .int (iI v9)] : List Value).toArray below meth c z A 3 (MQ below (zQ z A (po_X8_addBytes z th tb tn tz tf tk ta te fB fN v9)) ([.ref th, .int (iI v9)] : List Value).toArray s 0 0 A) 0 0 (wText z th tb tn tp tf tk ta te gP fN) [(0, .ref th), (1, .int (iI v9)), (2, .int (iI k))] [] 3 := by
    intro fu9
    induction fu9 with
    | zero => intro k tp gP hk h9; exact absurd h9 (Nat.not_lt_zero _)
    | succ fu9 ih3 =>
      intro k tp gP hk hm3
      refine zz_iload_n C 2 dX8_addBytes_3 rfl rfl ?_
      refine zz_if_lt (tgt := 44) C dX8_addBytes_4 (by decide) (by unfold rI; omega) (fun c4 => ?_) (fun c4 => ?_)
      · skip
        obtain ⟨rfl, rfl⟩ : tp = tz + 4 ∧ gP = mFour fB tz v9 := by rcases hk with h | h | h | h | h <;> first | (exfalso; omega) | exact h.2
        exact zz_vret C hr dX8_addBytes_44 ⟨rfl, rfl⟩
      · skip
        refine zz_aload_n C 0 dX8_addBytes_7 rfl rfl ?_
        refine zz_iconst C dX8_addBytes_8 ?_
        refine zz_callV (wr := ([] : va_W)) (st := []) C (cc_X8_hasRoom l z th tb tn tp tf tk ta te gP fN 1 (by omega) (by omega)) yk_X8_hasRoom qw_446 ⟨by decide, by decide⟩ [0, 1, 2] [] rfl rfl rfl rfl (by decide) 0 8 rfl rfl rfl rfl (Nat.le_of_ble_eq_true rfl) dX8_addBytes_9 ⟨by decide, by decide⟩ ?_
        rintro _ _ ⟨q_9, hq_9, rfl, rfl⟩
        refine zz_st (st' := [.int (iI q_9)]) rfl (zz_ws (ws' := wText z th tb tn tp tf tk ta te gP fN) rfl ?_)
        refine zz_if_eq (tgt := 44) C dX8_addBytes_12 (by decide) (by unfold rI; omega) (fun c12 => ?_) (fun c12 => ?_)
        · skip
          exfalso; omega
        · skip
          refine zz_aload_n C 0 dX8_addBytes_15 rfl rfl ?_
          refine zz_get C 0 (ci := 8) (k := 2) rfl rfl in_X8 (by decide) qw_42 rfl rfl dX8_addBytes_16 ?_
          refine zz_aload_n C 0 dX8_addBytes_19 rfl rfl ?_
          refine zz_get C 0 (ci := 8) (k := 0) rfl rfl in_X8 (by decide) qw_38 rfl rfl dX8_addBytes_20 ?_
          refine zz_iload_n C 1 dX8_addBytes_23 rfl rfl ?_
          refine zz_iload_n C 2 dX8_addBytes_24 rfl rfl ?_
          refine zz_ushrb C (by omega) dX8_addBytes_25 dX8_addBytes_26 ?_
          refine zz_bast (ws' := wText z th tb tn tp tf tk ta te (zup gP tp (byteZ v9 k)) fN) C 1 rfl (by omega) (by omega) (by decide) (byteZ_rng _ _) rfl dX8_addBytes_27 ?_
          refine zz_aload_n C 0 dX8_addBytes_28 rfl rfl ?_
          refine zz_dup C dX8_addBytes_29 rfl ?_
          refine zz_get C 0 (ci := 8) (k := 0) rfl rfl in_X8 (by decide) qw_38 rfl rfl dX8_addBytes_30 ?_
          refine zz_iconst C dX8_addBytes_33 ?_
          refine zz_iadd C dX8_addBytes_34 ?_
          refine zz_put (ty := .int) (ws' := wText z th tb tn (tp + 1) tf tk ta te (zup gP tp (byteZ v9 k)) fN) C 0 (ci := 8) (k := 0) rfl rfl in_X8 tyX8 tyX8_ok nmX8 (by decide) qw_38 rfl rfl (by decide +kernel) rfl rfl (Nat.le_of_ble_eq_true rfl) rfl dX8_addBytes_35 ?_
          refine zz_iinc (ls' := [(2, .int (iI (k + (-8)))), (0, .ref th), (1, .int (iI v9))]) C 2 dX8_addBytes_38 rfl (by decide) rfl ?_
          refine zz_goto (tgt := 3) C dX8_addBytes_41 (by decide) ?_
          refine zz_loc (ls' := [(0, .ref th), (1, .int (iI v9)), (2, .int (iI (k + (-8))))]) [1, 2, 0] rfl ?_
          exact ih3 (k + (-8)) (tp + 1) (zup gP tp (byteZ v9 k)) (four_step hk c4) (by omega)
  refine zz_loc (ls' := [(0, .ref th), (1, .int (iI v9)), (2, .int (iI 24))]) [1, 2, 0] rfl ?_
  exact Lp3 _ 24 tz fB (Or.inl ⟨rfl, rfl, rfl⟩) (Nat.lt_succ_self _)
abbrev po_X9_feed (z : zC) (lh : Nat) (lb : Nat) (lc : Nat) (lr : Nat) (lp : Nat) (ld : Nat) (lm : Int) (lf : Int) (lk : Int) (lq : Int) (th : Nat) (tb : Nat) (tn : Nat) (tz : Int) (tf : Int) (tk : Int) (ta : Int) (te : Int) (fB : Int → Int) (fN : Int → Int) (a1 : Int) (a2 : Int) (a3 : Int) (a4 : Int) (a5 : Int) : Option Value → va_W → Prop := fun v w => ∃ (q : Int), ∃ (gc : Int), ∃ (gP : Int → Int), ((tz + 20 ≤ 300 ∧ q = tz + 20 ∧ gc = tz + 20 ∧ gP = mFeed fB tz a1 a2 a3 a4 a5) ∨ (300 < tz + 20 ∧ q = -1 ∧ gc = tz ∧ gP = fB)) ∧ v = some (Value.int (iI q)) ∧ w = (wLM z lh th lb lc lr lp ld lm lf lk lq) ++ (wText z th tb tn gc tf tk ta te gP fN)
abbrev rm_X9_feed : Room := { frames := 3, cells := 0, slots := 0, locals := 83 }
set_option maxHeartbeats 4000000 in
set_option maxRecDepth 100000 in
theorem cc_X9_feed (l : Launch) (z : zC) (lh : Nat) (lb : Nat) (lc : Nat) (lr : Nat) (lp : Nat) (ld : Nat) (lm : Int) (lf : Int) (lk : Int) (lq : Int) (th : Nat) (tb : Nat) (tn : Nat) (tz : Int) (tf : Int) (tk : Int) (ta : Int) (te : Int) (fB : Int → Int) (fN : Int → Int) (a1 : Int) (a2 : Int) (a3 : Int) (a4 : Int) (a5 : Int) (htz : 0 ≤ tz ∧ tz ≤ 300) (ha1 : -2147483648 ≤ a1 ∧ a1 < 2147483648) (ha2 : -2147483648 ≤ a2 ∧ a2 < 2147483648) (ha3 : -2147483648 ≤ a3 ∧ a3 < 2147483648) (ha4 : -2147483648 ≤ a4 ∧ a4 < 2147483648) (ha5 : -2147483648 ≤ a5 ∧ a5 < 2147483648) : zzMet l yX9_feed cX9_feed 6 (Option.some .int) rm_X9_feed z [.ref lh, .int (iI a1), .int (iI a2), .int (iI a3), .int (iI a4), .int (iI a5)] ((wLM z lh th lb lc lr lp ld lm lf lk lq) ++ (wText z th tb tn tz tf tk ta te fB fN)) (po_X9_feed z lh lb lc lr lp ld lm lf lk lq th tb tn tz tf tk ta te fB fN a1 a2 a3 a4 a5) := by
  refine zzMet.of (own := RX9) (ls0 := [(0, .ref lh), (1, .int (iI a1)), (2, .int (iI a2)), (3, .int (iI a3)), (4, .int (iI a4)), (5, .int (iI a5))]) (by decide) rfl (Nat.le_of_ble_eq_true rfl) rfl ?_
  intro p e s m below meth c A C hr hnm
  refine zz_aload_n C 0 dX9_feed_0 rfl rfl ?_
  refine zz_get C 0 (ci := 9) (k := 0) rfl rfl in_X9 (by decide) qw_316 rfl rfl dX9_feed_1 ?_
  refine zz_bipush C dX9_feed_4 (by decide +kernel) ?_
  refine zz_callV (wr := wLM z lh th lb lc lr lp ld lm lf lk lq) (st := []) C (cc_X8_hasRoom l z th tb tn tz tf tk ta te fB fN 20 (by omega) (by omega)) yk_X8_hasRoom qw_438 ⟨by decide, by decide⟩ [1, 2, 3] [0] rfl rfl rfl rfl (by decide) 0 8 rfl rfl rfl rfl (Nat.le_of_ble_eq_true rfl) dX9_feed_6 ⟨by decide, by decide⟩ ?_
  rintro _ _ ⟨q_6, hq_6, rfl, rfl⟩
  refine zz_st (st' := [.int (iI q_6)]) rfl (zz_ws (ws' := (wLM z lh th lb lc lr lp ld lm lf lk lq) ++ (wText z th tb tn tz tf tk ta te fB fN)) rfl ?_)
  refine zz_if_ne (tgt := 14) C dX9_feed_9 (by decide) (by unfold rI; omega) (fun c9 => ?_) (fun c9 => ?_)
  · skip
    refine zz_aload_n C 0 dX9_feed_14 rfl rfl ?_
    refine zz_get C 0 (ci := 9) (k := 0) rfl rfl in_X9 (by decide) qw_316 rfl rfl dX9_feed_15 ?_
    refine zz_iload_n C 1 dX9_feed_18 rfl rfl ?_
    refine zz_callV (wr := wLM z lh th lb lc lr lp ld lm lf lk lq) (st := []) C (cc_X8_addBytes l z th tb tn tz tf tk ta te fB fN a1 (by omega)) yk_X8_addBytes qw_442 ⟨by decide, by decide⟩ [1, 2, 3] [0] rfl rfl rfl rfl (by decide) 0 8 rfl rfl rfl rfl (Nat.le_of_ble_eq_true rfl) dX9_feed_19 ⟨by decide, by decide⟩ ?_
    rintro _ _ ⟨rfl, rfl⟩
    refine zz_st (st' := []) rfl (zz_ws (ws' := (wLM z lh th lb lc lr lp ld lm lf lk lq) ++ (wText z th tb tn (tz + 4) tf tk ta te (mFour fB tz a1) fN)) rfl ?_)
    refine zz_aload_n C 0 dX9_feed_22 rfl rfl ?_
    refine zz_get C 0 (ci := 9) (k := 0) rfl rfl in_X9 (by decide) qw_316 rfl rfl dX9_feed_23 ?_
    refine zz_iload_n C 2 dX9_feed_26 rfl rfl ?_
    refine zz_callV (wr := wLM z lh th lb lc lr lp ld lm lf lk lq) (st := []) C (cc_X8_addBytes l z th tb tn (tz + 4) tf tk ta te (mFour fB tz a1) fN a2 (by omega)) yk_X8_addBytes qw_442 ⟨by decide, by decide⟩ [1, 2, 3] [0] rfl rfl rfl rfl (by decide) 0 8 rfl rfl rfl rfl (Nat.le_of_ble_eq_true rfl) dX9_feed_27 ⟨by decide, by decide⟩ ?_
    rintro _ _ ⟨rfl, rfl⟩
    refine zz_st (st' := []) rfl (zz_ws (ws' := (wLM z lh th lb lc lr lp ld lm lf lk lq) ++ (wText z th tb tn ((tz + 4) + 4) tf tk ta te (mFour (mFour fB tz a1) (tz + 4) a2) fN)) rfl ?_)
    refine zz_aload_n C 0 dX9_feed_30 rfl rfl ?_
    refine zz_get C 0 (ci := 9) (k := 0) rfl rfl in_X9 (by decide) qw_316 rfl rfl dX9_feed_31 ?_
    refine zz_iload_n C 3 dX9_feed_34 rfl rfl ?_
    refine zz_callV (wr := wLM z lh th lb lc lr lp ld lm lf lk lq) (st := []) C (cc_X8_addBytes l z th tb tn ((tz + 4) + 4) tf tk ta te (mFour (mFour fB tz a1) (tz + 4) a2) fN a3 (by omega)) yk_X8_addBytes qw_442 ⟨by decide, by decide⟩ [1, 2, 3] [0] rfl rfl rfl rfl (by decide) 0 8 rfl rfl rfl rfl (Nat.le_of_ble_eq_true rfl) dX9_feed_35 ⟨by decide, by decide⟩ ?_
    rintro _ _ ⟨rfl, rfl⟩
    refine zz_st (st' := []) rfl (zz_ws (ws' := (wLM z lh th lb lc lr lp ld lm lf lk lq) ++ (wText z th tb tn (((tz + 4) + 4) + 4) tf tk ta te (mFour (mFour (mFour fB tz a1) (tz + 4) a2) ((tz + 4) + 4) a3) fN)) rfl ?_)
    refine zz_aload_n C 0 dX9_feed_38 rfl rfl ?_
    refine zz_get C 0 (ci := 9) (k := 0) rfl rfl in_X9 (by decide) qw_316 rfl rfl dX9_feed_39 ?_
    refine zz_iload C 4 dX9_feed_42 rfl ?_
    refine zz_callV (wr := wLM z lh th lb lc lr lp ld lm lf lk lq) (st := []) C (cc_X8_addBytes l z th tb tn (((tz + 4) + 4) + 4) tf tk ta te (mFour (mFour (mFour fB tz a1) (tz + 4) a2) ((tz + 4) + 4) a3) fN a4 (by omega)) yk_X8_addBytes qw_442 ⟨by decide, by decide⟩ [1, 2, 3] [0] rfl rfl rfl rfl (by decide) 0 8 rfl rfl rfl rfl (Nat.le_of_ble_eq_true rfl) dX9_feed_44 ⟨by decide, by decide⟩ ?_
    rintro _ _ ⟨rfl, rfl⟩
    refine zz_st (st' := []) rfl (zz_ws (ws' := (wLM z lh th lb lc lr lp ld lm lf lk lq) ++ (wText z th tb tn ((((tz + 4) + 4) + 4) + 4) tf tk ta te (mFour (mFour (mFour (mFour fB tz a1) (tz + 4) a2) ((tz + 4) + 4) a3) (((tz + 4) + 4) + 4) a4) fN)) rfl ?_)
    refine zz_aload_n C 0 dX9_feed_47 rfl rfl ?_
    refine zz_get C 0 (ci := 9) (k := 0) rfl rfl in_X9 (by decide) qw_316 rfl rfl dX9_feed_48 ?_
    refine zz_iload C 5 dX9_feed_51 rfl ?_
    refine zz_callV (wr := wLM z lh th lb lc lr lp ld lm lf lk lq) (st := []) C (cc_X8_addBytes l z th tb tn ((((tz + 4) + 4) + 4) + 4) tf tk ta te (mFour (mFour (mFour (mFour fB tz a1) (tz + 4) a2) ((tz + 4) + 4) a3) (((tz + 4) + 4) + 4) a4) fN a5 (by omega)) yk_X8_addBytes qw_442 ⟨by decide, by decide⟩ [1, 2, 3] [0] rfl rfl rfl rfl (by decide) 0 8 rfl rfl rfl rfl (Nat.le_of_ble_eq_true rfl) dX9_feed_53 ⟨by decide, by decide⟩ ?_
    rintro _ _ ⟨rfl, rfl⟩
    refine zz_st (st' := []) rfl (zz_ws (ws' := (wLM z lh th lb lc lr lp ld lm lf lk lq) ++ (wText z th tb tn (((((tz + 4) + 4) + 4) + 4) + 4) tf tk ta te (mFour (mFour (mFour (mFour (mFour fB tz a1) (tz + 4) a2) ((tz + 4) + 4) a3) (((tz + 4) + 4) + 4) a4) ((((tz + 4) + 4) + 4) + 4) a5) fN)) rfl ?_)
    refine zz_aload_n C 0 dX9_feed_56 rfl rfl ?_
    refine zz_get C 0 (ci := 9) (k := 0) rfl rfl in_X9 (by decide) qw_316 rfl rfl dX9_feed_57 ?_
    refine zz_get C 1 (ci := 8) (k := 0) rfl rfl in_X8 (by decide) qw_39 rfl rfl dX9_feed_60 ?_
    exact zz_iret C hr dX9_feed_63 ⟨_, _, _, Or.inl ⟨by omega, by omega, by omega, feed_eq fB tz a1 a2 a3 a4 a5⟩, rfl, rfl⟩
  · skip
    refine zz_iconst C dX9_feed_12 ?_
    exact zz_iret C hr dX9_feed_13 ⟨-1, _, _, Or.inr ⟨by omega, rfl, rfl, rfl⟩, rfl, rfl⟩
abbrev po_X9_fails (z : zC) (lh : Nat) (lt : Nat) (lb : Nat) (lc : Nat) (ld : Nat) (lm : Int) (lf : Int) (lk : Int) (lq : Int) (ph : Nat) (pa : Nat) (pr : Nat) (pt : Nat) (pd : Int) (pb : Int) (fP : Int → Int) (fR : Int → Int) (fT : Int → Int) (rh : Nat) (ru : Nat) (rl : Nat) (rf : Int) (rn : Int) (rd : Int) (fU : Int → Int) (fL : Int → Int) : Option Value → va_W → Prop := fun v w => ∃ (gf : Int), ∃ (gU : Int → Int), ∃ (gL : Int → Int), (fstNeg (plBal pd pb fP fR fT lm) pd gf) ∧ v = some (Value.int (iI gf)) ∧ w = (wLM z lh lt lb lc rh ph ld lm lf lk lq) ++ (wPlan z ph pa pr pt pd pb fP fR fT) ++ (wRun z rh ru rl gf rn rd gU gL)
abbrev rm_X9_fails : Room := { frames := 6, cells := 0, slots := 0, locals := 155 }
set_option maxHeartbeats 4000000 in
set_option maxRecDepth 100000 in
theorem cc_X9_fails (l : Launch) (z : zC) (lh : Nat) (lt : Nat) (lb : Nat) (lc : Nat) (ld : Nat) (lm : Int) (lf : Int) (lk : Int) (lq : Int) (ph : Nat) (pa : Nat) (pr : Nat) (pt : Nat) (pd : Int) (pb : Int) (fP : Int → Int) (fR : Int → Int) (fT : Int → Int) (rh : Nat) (ru : Nat) (rl : Nat) (rf : Int) (rn : Int) (rd : Int) (fU : Int → Int) (fL : Int → Int) (hpd : 1 ≤ pd ∧ pd ≤ 4) (hpb : 0 ≤ pb ∧ pb ≤ 5) (hfP : ∀ i : Int, 0 ≤ fP i ∧ fP i ≤ 200) (hfR : ∀ i : Int, 0 ≤ fR i ∧ fR i ≤ 6) (hfT : ∀ i : Int, 0 ≤ fT i ∧ fT i ≤ 200) (hlm : 0 ≤ lm ∧ lm ≤ 9999) : zzMet l yX9_fails cX9_fails 1 (Option.some .int) rm_X9_fails z [.ref lh] ((wLM z lh lt lb lc rh ph ld lm lf lk lq) ++ (wPlan z ph pa pr pt pd pb fP fR fT) ++ (wRun z rh ru rl rf rn rd fU fL)) (po_X9_fails z lh lt lb lc ld lm lf lk lq ph pa pr pt pd pb fP fR fT rh ru rl rf rn rd fU fL) := by
  refine zzMet.of (own := RX9) (ls0 := [(0, .ref lh)]) (by decide) rfl (Nat.le_of_ble_eq_true rfl) rfl ?_
  intro p e s m below meth c A C hr hnm
  refine zz_aload_n C 0 dX9_fails_0 rfl rfl ?_
  refine zz_get C 0 (ci := 9) (k := 3) rfl rfl in_X9 (by decide) qw_319 rfl rfl dX9_fails_1 ?_
  refine zz_aload_n C 0 dX9_fails_4 rfl rfl ?_
  refine zz_get C 0 (ci := 9) (k := 4) rfl rfl in_X9 (by decide) qw_320 rfl rfl dX9_fails_5 ?_
  refine zz_aload_n C 0 dX9_fails_8 rfl rfl ?_
  refine zz_get C 0 (ci := 9) (k := 6) rfl rfl in_X9 (by decide) qw_322 rfl rfl dX9_fails_9 ?_
  refine zz_callV (wr := wLM z lh lt lb lc rh ph ld lm lf lk lq) (st := []) C (cc_X4_follow l z rh ru rl rf rn rd fU fL ph pa pr pt pd pb fP fR fT lm (by omega) (by omega) (by omega) (by omega) (by omega) (by omega)) yk_X4_follow qw_817 ⟨by decide, by decide⟩ [5, 6, 7, 1, 2, 3, 4] [0] rfl rfl rfl rfl (by decide) 0 4 rfl rfl rfl rfl (Nat.le_of_ble_eq_true rfl) dX9_fails_12 ⟨by decide, by decide⟩ ?_
  rintro _ _ ⟨qf_12, gU_12, gL_12, hU_12, hL_12, hf_12, rfl, rfl⟩
  refine zz_st (st' := []) rfl (zz_ws (ws' := (wLM z lh lt lb lc rh ph ld lm lf lk lq) ++ (wRun z rh ru rl qf_12 rn rd gU_12 gL_12) ++ (wPlan z ph pa pr pt pd pb fP fR fT)) rfl ?_)
  refine zz_aload_n C 0 dX9_fails_15 rfl rfl ?_
  refine zz_get C 0 (ci := 9) (k := 3) rfl rfl in_X9 (by decide) qw_319 rfl rfl dX9_fails_16 ?_
  refine zz_get C 1 (ci := 4) (k := 0) rfl rfl in_X4 (by decide) qw_266 rfl rfl dX9_fails_19 ?_
  refine zz_sub (ws' := (wLM z lh lt lb lc rh ph ld lm lf lk lq) ++ (wPlan z ph pa pr pt pd pb fP fR fT) ++ (wRun z rh ru rl qf_12 rn rd gU_12 gL_12)) [0, 4, 5, 6, 7, 1, 2, 3] rfl rfl ?_
  exact zz_iret C hr dX9_fails_22 ⟨_, _, _, hf_12, rfl, rfl⟩
abbrev po_X9_balance (z : zC) (lh : Nat) (lt : Nat) (lb : Nat) (lc : Nat) (ld : Nat) (lm : Int) (lf : Int) (lk : Int) (lq : Int) (ph : Nat) (pa : Nat) (pr : Nat) (pt : Nat) (pd : Int) (pb : Int) (fP : Int → Int) (fR : Int → Int) (fT : Int → Int) (rh : Nat) (ru : Nat) (rl : Nat) (rf : Int) (rn : Int) (rd : Int) (fU : Int → Int) (fL : Int → Int) (t9 : Int) (un : Int) : Option Value → va_W → Prop := fun v w => ∃ (q : Int), ∃ (gf : Int), ∃ (gU : Int → Int), ∃ (gL : Int → Int), (isBal (plBal pd pb fP fR fT lm) pd t9 un q) ∧ v = some (Value.long (iL q)) ∧ w = (wLM z lh lt lb lc rh ph ld lm lf lk lq) ++ (wPlan z ph pa pr pt pd pb fP fR fT) ++ (wRun z rh ru rl gf rn rd gU gL)
abbrev rm_X9_balance : Room := { frames := 6, cells := 0, slots := 0, locals := 155 }
set_option maxHeartbeats 4000000 in
set_option maxRecDepth 100000 in
theorem cc_X9_balance (l : Launch) (z : zC) (lh : Nat) (lt : Nat) (lb : Nat) (lc : Nat) (ld : Nat) (lm : Int) (lf : Int) (lk : Int) (lq : Int) (ph : Nat) (pa : Nat) (pr : Nat) (pt : Nat) (pd : Int) (pb : Int) (fP : Int → Int) (fR : Int → Int) (fT : Int → Int) (rh : Nat) (ru : Nat) (rl : Nat) (rf : Int) (rn : Int) (rd : Int) (fU : Int → Int) (fL : Int → Int) (t9 : Int) (un : Int) (hpd : 1 ≤ pd ∧ pd ≤ 4) (hpb : 0 ≤ pb ∧ pb ≤ 5) (hfP : ∀ i : Int, 0 ≤ fP i ∧ fP i ≤ 200) (hfR : ∀ i : Int, 0 ≤ fR i ∧ fR i ≤ 6) (hfT : ∀ i : Int, 0 ≤ fT i ∧ fT i ≤ 200) (hlm : 0 ≤ lm ∧ lm ≤ 9999) (ht9 : -2147483648 ≤ t9 ∧ t9 < 2147483648) (hun : un = 0 ∨ un = 1) : zzMet l yX9_balance cX9_balance 3 (Option.some .long) rm_X9_balance z [.ref lh, .int (iI t9), .int (iI un)] ((wLM z lh lt lb lc rh ph ld lm lf lk lq) ++ (wPlan z ph pa pr pt pd pb fP fR fT) ++ (wRun z rh ru rl rf rn rd fU fL)) (po_X9_balance z lh lt lb lc ld lm lf lk lq ph pa pr pt pd pb fP fR fT rh ru rl rf rn rd fU fL t9 un) := by
  refine zzMet.of (own := RX9) (ls0 := [(0, .ref lh), (1, .int (iI t9)), (2, .int (iI un))]) (by decide) rfl (Nat.le_of_ble_eq_true rfl) rfl ?_
  intro p e s m below meth c A C hr hnm
  refine zz_iload_n C 1 dX9_balance_0 rfl rfl ?_
  refine zz_if_eq (tgt := 20) C dX9_balance_1 (by decide) (by unfold rI; omega) (fun c1 => ?_) (fun c1 => ?_)
  · skip
    refine zz_aload_n C 0 dX9_balance_20 rfl rfl ?_
    refine zz_get C 0 (ci := 9) (k := 3) rfl rfl in_X9 (by decide) qw_319 rfl rfl dX9_balance_21 ?_
    refine zz_aload_n C 0 dX9_balance_24 rfl rfl ?_
    refine zz_get C 0 (ci := 9) (k := 4) rfl rfl in_X9 (by decide) qw_320 rfl rfl dX9_balance_25 ?_
    refine zz_aload_n C 0 dX9_balance_28 rfl rfl ?_
    refine zz_get C 0 (ci := 9) (k := 6) rfl rfl in_X9 (by decide) qw_322 rfl rfl dX9_balance_29 ?_
    refine zz_callV (wr := wLM z lh lt lb lc rh ph ld lm lf lk lq) (st := []) C (cc_X4_follow l z rh ru rl rf rn rd fU fL ph pa pr pt pd pb fP fR fT lm (by omega) (by omega) (by omega) (by omega) (by omega) (by omega)) yk_X4_follow qw_817 ⟨by decide, by decide⟩ [5, 6, 7, 1, 2, 3, 4] [0] rfl rfl rfl rfl (by decide) 0 4 rfl rfl rfl rfl (Nat.le_of_ble_eq_true rfl) dX9_balance_32 ⟨by decide, by decide⟩ ?_
    rintro _ _ ⟨qf_32, gU_32, gL_32, hU_32, hL_32, hf_32, rfl, rfl⟩
    refine zz_st (st' := []) rfl (zz_ws (ws' := (wLM z lh lt lb lc rh ph ld lm lf lk lq) ++ (wRun z rh ru rl qf_32 rn rd gU_32 gL_32) ++ (wPlan z ph pa pr pt pd pb fP fR fT)) rfl ?_)
    have hf32 := fstNeg_rng hf_32 hpd.2
    refine zz_aload_n C 0 dX9_balance_35 rfl rfl ?_
    refine zz_get C 0 (ci := 9) (k := 3) rfl rfl in_X9 (by decide) qw_319 rfl rfl dX9_balance_36 ?_
    refine zz_get C 1 (ci := 4) (k := 0) rfl rfl in_X4 (by decide) qw_266 rfl rfl dX9_balance_39 ?_
    refine zz_if_eq (tgt := 60) C dX9_balance_42 (by decide) (by unfold rI; omega) (fun c42 => ?_) (fun c42 => ?_)
    · skip
      have hs9 := hU_32 t9 (by omega) (by omega)
      have hl9 := hL_32 t9 (by omega) (by omega)
      have hb9 := plBal_rng (pd := pd) hpb hfP hfR hfT hlm (k := t9) (by omega) (by omega)
      have hz9 := fstNeg_at hf_32 (by show 0 ≤ lm; omega) (by omega) (show qf_32 = 0 ∨ t9 < qf_32 by omega)
      have hp9 := p20_rng (k := t9) (by omega) (by omega)
      refine zz_aload_n C 0 dX9_balance_60 rfl rfl ?_
      refine zz_get C 0 (ci := 9) (k := 3) rfl rfl in_X9 (by decide) qw_319 rfl rfl dX9_balance_61 ?_
      refine zz_get C 1 (ci := 4) (k := 3) rfl rfl in_X4 (by decide) qw_272 rfl rfl dX9_balance_64 ?_
      refine zz_iload_n C 1 dX9_balance_67 rfl rfl ?_
      refine zz_lald C 2 rfl (by omega) (by omega) (by decide) dX9_balance_68 ?_
      refine zz_aload_n C 0 dX9_balance_69 rfl rfl ?_
      refine zz_get C 0 (ci := 9) (k := 3) rfl rfl in_X9 (by decide) qw_319 rfl rfl dX9_balance_70 ?_
      refine zz_get C 1 (ci := 4) (k := 4) rfl rfl in_X4 (by decide) qw_274 rfl rfl dX9_balance_73 ?_
      refine zz_iload_n C 1 dX9_balance_76 rfl rfl ?_
      refine zz_lald C 3 rfl (by omega) (by omega) (by decide) dX9_balance_77 ?_
      refine zz_iload_n C 2 dX9_balance_78 rfl rfl ?_
      refine zz_callS (wr := (wLM z lh lt lb lc rh ph ld lm lf lk lq) ++ (wRun z rh ru rl qf_32 rn rd gU_32 gL_32) ++ (wPlan z ph pa pr pt pd pb fP fR fT)) (st := []) C (cc_X9_inLeastTerms l z (gU_32 t9) (gL_32 t9) un (by omega) (by omega) (by omega)) yk_X9_inLeastTerms qw_715 ⟨by decide, by decide⟩ [] [0, 1, 2, 3, 4, 5, 6, 7] rfl rfl rfl rfl (by decide) rfl rfl (Nat.le_of_ble_eq_true rfl) dX9_balance_79 ⟨by decide, by decide⟩ ?_
      rintro _ _ ⟨rfl, rfl⟩
      refine zz_st (st' := [.long (iL (ltm (gU_32 t9) (gL_32 t9) un))]) rfl (zz_ws (ws' := (wLM z lh lt lb lc rh ph ld lm lf lk lq) ++ (wRun z rh ru rl qf_32 rn rd gU_32 gL_32) ++ (wPlan z ph pa pr pt pd pb fP fR fT)) rfl ?_)
      refine zz_sub (ws' := (wLM z lh lt lb lc rh ph ld lm lf lk lq) ++ (wPlan z ph pa pr pt pd pb fP fR fT) ++ (wRun z rh ru rl qf_32 rn rd gU_32 gL_32)) [0, 4, 5, 6, 7, 1, 2, 3] rfl rfl ?_
      exact zz_lret C hr dX9_balance_82 ⟨_, _, _, _, ⟨_, hf_32, Or.inl ⟨by omega, by omega, by rw [hs9, hl9]⟩⟩, rfl, rfl⟩
    · skip
      refine zz_aload_n C 0 dX9_balance_45 rfl rfl ?_
      refine zz_get C 0 (ci := 9) (k := 3) rfl rfl in_X9 (by decide) qw_319 rfl rfl dX9_balance_46 ?_
      refine zz_get C 1 (ci := 4) (k := 0) rfl rfl in_X4 (by decide) qw_266 rfl rfl dX9_balance_49 ?_
      refine zz_iload_n C 1 dX9_balance_52 rfl rfl ?_
      refine zz_icmp_gt (tgt := 60) C dX9_balance_53 (by decide) (by unfold rI; omega) (by unfold rI; omega) (fun c53 => ?_) (fun c53 => ?_)
      · skip
        have hs9 := hU_32 t9 (by omega) (by omega)
        have hl9 := hL_32 t9 (by omega) (by omega)
        have hb9 := plBal_rng (pd := pd) hpb hfP hfR hfT hlm (k := t9) (by omega) (by omega)
        have hz9 := fstNeg_at hf_32 (by show 0 ≤ lm; omega) (by omega) (show qf_32 = 0 ∨ t9 < qf_32 by omega)
        have hp9 := p20_rng (k := t9) (by omega) (by omega)
        refine zz_aload_n C 0 dX9_balance_60 rfl rfl ?_
        refine zz_get C 0 (ci := 9) (k := 3) rfl rfl in_X9 (by decide) qw_319 rfl rfl dX9_balance_61 ?_
        refine zz_get C 1 (ci := 4) (k := 3) rfl rfl in_X4 (by decide) qw_272 rfl rfl dX9_balance_64 ?_
        refine zz_iload_n C 1 dX9_balance_67 rfl rfl ?_
        refine zz_lald C 2 rfl (by omega) (by omega) (by decide) dX9_balance_68 ?_
        refine zz_aload_n C 0 dX9_balance_69 rfl rfl ?_
        refine zz_get C 0 (ci := 9) (k := 3) rfl rfl in_X9 (by decide) qw_319 rfl rfl dX9_balance_70 ?_
        refine zz_get C 1 (ci := 4) (k := 4) rfl rfl in_X4 (by decide) qw_274 rfl rfl dX9_balance_73 ?_
        refine zz_iload_n C 1 dX9_balance_76 rfl rfl ?_
        refine zz_lald C 3 rfl (by omega) (by omega) (by decide) dX9_balance_77 ?_
        refine zz_iload_n C 2 dX9_balance_78 rfl rfl ?_
        refine zz_callS (wr := (wLM z lh lt lb lc rh ph ld lm lf lk lq) ++ (wRun z rh ru rl qf_32 rn rd gU_32 gL_32) ++ (wPlan z ph pa pr pt pd pb fP fR fT)) (st := []) C (cc_X9_inLeastTerms l z (gU_32 t9) (gL_32 t9) un (by omega) (by omega) (by omega)) yk_X9_inLeastTerms qw_715 ⟨by decide, by decide⟩ [] [0, 1, 2, 3, 4, 5, 6, 7] rfl rfl rfl rfl (by decide) rfl rfl (Nat.le_of_ble_eq_true rfl) dX9_balance_79 ⟨by decide, by decide⟩ ?_
        rintro _ _ ⟨rfl, rfl⟩
        refine zz_st (st' := [.long (iL (ltm (gU_32 t9) (gL_32 t9) un))]) rfl (zz_ws (ws' := (wLM z lh lt lb lc rh ph ld lm lf lk lq) ++ (wRun z rh ru rl qf_32 rn rd gU_32 gL_32) ++ (wPlan z ph pa pr pt pd pb fP fR fT)) rfl ?_)
        refine zz_sub (ws' := (wLM z lh lt lb lc rh ph ld lm lf lk lq) ++ (wPlan z ph pa pr pt pd pb fP fR fT) ++ (wRun z rh ru rl qf_32 rn rd gU_32 gL_32)) [0, 4, 5, 6, 7, 1, 2, 3] rfl rfl ?_
        exact zz_lret C hr dX9_balance_82 ⟨_, _, _, _, ⟨_, hf_32, Or.inl ⟨by omega, by omega, by rw [hs9, hl9]⟩⟩, rfl, rfl⟩
      · skip
        refine zz_ldc2 (a := (-1)) C qw_725 (by decide +kernel) dX9_balance_56 ?_
        refine zz_sub (ws' := (wLM z lh lt lb lc rh ph ld lm lf lk lq) ++ (wPlan z ph pa pr pt pd pb fP fR fT) ++ (wRun z rh ru rl qf_32 rn rd gU_32 gL_32)) [0, 4, 5, 6, 7, 1, 2, 3] rfl rfl ?_
        exact zz_lret C hr dX9_balance_59 ⟨_, _, _, _, ⟨_, hf_32, Or.inr ⟨by omega, rfl⟩⟩, rfl, rfl⟩
  · skip
    refine zz_aload_n C 0 dX9_balance_4 rfl rfl ?_
    refine zz_get C 0 (ci := 9) (k := 4) rfl rfl in_X9 (by decide) qw_320 rfl rfl dX9_balance_5 ?_
    refine zz_iconst C dX9_balance_8 ?_
    refine zz_iload_n C 1 dX9_balance_9 rfl rfl ?_
    refine zz_callV (wr := (wLM z lh lt lb lc rh ph ld lm lf lk lq) ++ (wRun z rh ru rl rf rn rd fU fL)) (st := []) C (cc_X6_fits_1 l z ph pa pr pt pd pb fP fR fT t9 (by omega) (by omega) (by omega)) yk_X6_fits qw_351 ⟨by decide, by decide⟩ [1, 2, 3, 4] [0, 5, 6, 7] rfl rfl rfl rfl (by decide) 0 6 rfl rfl rfl rfl (Nat.le_of_ble_eq_true rfl) dX9_balance_10 ⟨by decide, by decide⟩ ?_
    rintro _ _ ⟨q_10, hq_10, rfl, rfl⟩
    refine zz_st (st' := [.int (iI q_10)]) rfl (zz_ws (ws' := (wLM z lh lt lb lc rh ph ld lm lf lk lq) ++ (wRun z rh ru rl rf rn rd fU fL) ++ (wPlan z ph pa pr pt pd pb fP fR fT)) rfl ?_)
    refine zz_if_ne (tgt := 20) C dX9_balance_13 (by decide) (by unfold rI; omega) (fun c13 => ?_) (fun c13 => ?_)
    · skip
      refine zz_aload_n C 0 dX9_balance_20 rfl rfl ?_
      refine zz_get C 0 (ci := 9) (k := 3) rfl rfl in_X9 (by decide) qw_319 rfl rfl dX9_balance_21 ?_
      refine zz_aload_n C 0 dX9_balance_24 rfl rfl ?_
      refine zz_get C 0 (ci := 9) (k := 4) rfl rfl in_X9 (by decide) qw_320 rfl rfl dX9_balance_25 ?_
      refine zz_aload_n C 0 dX9_balance_28 rfl rfl ?_
      refine zz_get C 0 (ci := 9) (k := 6) rfl rfl in_X9 (by decide) qw_322 rfl rfl dX9_balance_29 ?_
      refine zz_callV (wr := wLM z lh lt lb lc rh ph ld lm lf lk lq) (st := []) C (cc_X4_follow l z rh ru rl rf rn rd fU fL ph pa pr pt pd pb fP fR fT lm (by omega) (by omega) (by omega) (by omega) (by omega) (by omega)) yk_X4_follow qw_817 ⟨by decide, by decide⟩ [1, 2, 3, 4, 5, 6, 7] [0] rfl rfl rfl rfl (by decide) 0 4 rfl rfl rfl rfl (Nat.le_of_ble_eq_true rfl) dX9_balance_32 ⟨by decide, by decide⟩ ?_
      rintro _ _ ⟨qf_32, gU_32, gL_32, hU_32, hL_32, hf_32, rfl, rfl⟩
      refine zz_st (st' := []) rfl (zz_ws (ws' := (wLM z lh lt lb lc rh ph ld lm lf lk lq) ++ (wRun z rh ru rl qf_32 rn rd gU_32 gL_32) ++ (wPlan z ph pa pr pt pd pb fP fR fT)) rfl ?_)
      have hf32 := fstNeg_rng hf_32 hpd.2
      refine zz_aload_n C 0 dX9_balance_35 rfl rfl ?_
      refine zz_get C 0 (ci := 9) (k := 3) rfl rfl in_X9 (by decide) qw_319 rfl rfl dX9_balance_36 ?_
      refine zz_get C 1 (ci := 4) (k := 0) rfl rfl in_X4 (by decide) qw_266 rfl rfl dX9_balance_39 ?_
      refine zz_if_eq (tgt := 60) C dX9_balance_42 (by decide) (by unfold rI; omega) (fun c42 => ?_) (fun c42 => ?_)
      · skip
        have hs9 := hU_32 t9 (by omega) (by omega)
        have hl9 := hL_32 t9 (by omega) (by omega)
        have hb9 := plBal_rng (pd := pd) hpb hfP hfR hfT hlm (k := t9) (by omega) (by omega)
        have hz9 := fstNeg_at hf_32 (by show 0 ≤ lm; omega) (by omega) (show qf_32 = 0 ∨ t9 < qf_32 by omega)
        have hp9 := p20_rng (k := t9) (by omega) (by omega)
        refine zz_aload_n C 0 dX9_balance_60 rfl rfl ?_
        refine zz_get C 0 (ci := 9) (k := 3) rfl rfl in_X9 (by decide) qw_319 rfl rfl dX9_balance_61 ?_
        refine zz_get C 1 (ci := 4) (k := 3) rfl rfl in_X4 (by decide) qw_272 rfl rfl dX9_balance_64 ?_
        refine zz_iload_n C 1 dX9_balance_67 rfl rfl ?_
        refine zz_lald C 2 rfl (by omega) (by omega) (by decide) dX9_balance_68 ?_
        refine zz_aload_n C 0 dX9_balance_69 rfl rfl ?_
        refine zz_get C 0 (ci := 9) (k := 3) rfl rfl in_X9 (by decide) qw_319 rfl rfl dX9_balance_70 ?_
        refine zz_get C 1 (ci := 4) (k := 4) rfl rfl in_X4 (by decide) qw_274 rfl rfl dX9_balance_73 ?_
        refine zz_iload_n C 1 dX9_balance_76 rfl rfl ?_
        refine zz_lald C 3 rfl (by omega) (by omega) (by decide) dX9_balance_77 ?_
        refine zz_iload_n C 2 dX9_balance_78 rfl rfl ?_
        refine zz_callS (wr := (wLM z lh lt lb lc rh ph ld lm lf lk lq) ++ (wRun z rh ru rl qf_32 rn rd gU_32 gL_32) ++ (wPlan z ph pa pr pt pd pb fP fR fT)) (st := []) C (cc_X9_inLeastTerms l z (gU_32 t9) (gL_32 t9) un (by omega) (by omega) (by omega)) yk_X9_inLeastTerms qw_715 ⟨by decide, by decide⟩ [] [0, 1, 2, 3, 4, 5, 6, 7] rfl rfl rfl rfl (by decide) rfl rfl (Nat.le_of_ble_eq_true rfl) dX9_balance_79 ⟨by decide, by decide⟩ ?_
        rintro _ _ ⟨rfl, rfl⟩
        refine zz_st (st' := [.long (iL (ltm (gU_32 t9) (gL_32 t9) un))]) rfl (zz_ws (ws' := (wLM z lh lt lb lc rh ph ld lm lf lk lq) ++ (wRun z rh ru rl qf_32 rn rd gU_32 gL_32) ++ (wPlan z ph pa pr pt pd pb fP fR fT)) rfl ?_)
        refine zz_sub (ws' := (wLM z lh lt lb lc rh ph ld lm lf lk lq) ++ (wPlan z ph pa pr pt pd pb fP fR fT) ++ (wRun z rh ru rl qf_32 rn rd gU_32 gL_32)) [0, 4, 5, 6, 7, 1, 2, 3] rfl rfl ?_
        exact zz_lret C hr dX9_balance_82 ⟨_, _, _, _, ⟨_, hf_32, Or.inl ⟨by omega, by omega, by rw [hs9, hl9]⟩⟩, rfl, rfl⟩
      · skip
        refine zz_aload_n C 0 dX9_balance_45 rfl rfl ?_
        refine zz_get C 0 (ci := 9) (k := 3) rfl rfl in_X9 (by decide) qw_319 rfl rfl dX9_balance_46 ?_
        refine zz_get C 1 (ci := 4) (k := 0) rfl rfl in_X4 (by decide) qw_266 rfl rfl dX9_balance_49 ?_
        refine zz_iload_n C 1 dX9_balance_52 rfl rfl ?_
        refine zz_icmp_gt (tgt := 60) C dX9_balance_53 (by decide) (by unfold rI; omega) (by unfold rI; omega) (fun c53 => ?_) (fun c53 => ?_)
        · skip
          have hs9 := hU_32 t9 (by omega) (by omega)
          have hl9 := hL_32 t9 (by omega) (by omega)
          have hb9 := plBal_rng (pd := pd) hpb hfP hfR hfT hlm (k := t9) (by omega) (by omega)
          have hz9 := fstNeg_at hf_32 (by show 0 ≤ lm; omega) (by omega) (show qf_32 = 0 ∨ t9 < qf_32 by omega)
          have hp9 := p20_rng (k := t9) (by omega) (by omega)
          refine zz_aload_n C 0 dX9_balance_60 rfl rfl ?_
          refine zz_get C 0 (ci := 9) (k := 3) rfl rfl in_X9 (by decide) qw_319 rfl rfl dX9_balance_61 ?_
          refine zz_get C 1 (ci := 4) (k := 3) rfl rfl in_X4 (by decide) qw_272 rfl rfl dX9_balance_64 ?_
          refine zz_iload_n C 1 dX9_balance_67 rfl rfl ?_
          refine zz_lald C 2 rfl (by omega) (by omega) (by decide) dX9_balance_68 ?_
          refine zz_aload_n C 0 dX9_balance_69 rfl rfl ?_
          refine zz_get C 0 (ci := 9) (k := 3) rfl rfl in_X9 (by decide) qw_319 rfl rfl dX9_balance_70 ?_
          refine zz_get C 1 (ci := 4) (k := 4) rfl rfl in_X4 (by decide) qw_274 rfl rfl dX9_balance_73 ?_
          refine zz_iload_n C 1 dX9_balance_76 rfl rfl ?_
          refine zz_lald C 3 rfl (by omega) (by omega) (by decide) dX9_balance_77 ?_
          refine zz_iload_n C 2 dX9_balance_78 rfl rfl ?_
          refine zz_callS (wr := (wLM z lh lt lb lc rh ph ld lm lf lk lq) ++ (wRun z rh ru rl qf_32 rn rd gU_32 gL_32) ++ (wPlan z ph pa pr pt pd pb fP fR fT)) (st := []) C (cc_X9_inLeastTerms l z (gU_32 t9) (gL_32 t9) un (by omega) (by omega) (by omega)) yk_X9_inLeastTerms qw_715 ⟨by decide, by decide⟩ [] [0, 1, 2, 3, 4, 5, 6, 7] rfl rfl rfl rfl (by decide) rfl rfl (Nat.le_of_ble_eq_true rfl) dX9_balance_79 ⟨by decide, by decide⟩ ?_
          rintro _ _ ⟨rfl, rfl⟩
          refine zz_st (st' := [.long (iL (ltm (gU_32 t9) (gL_32 t9) un))]) rfl (zz_ws (ws' := (wLM z lh lt lb lc rh ph ld lm lf lk lq) ++ (wRun z rh ru rl qf_32 rn rd gU_32 gL_32) ++ (wPlan z ph pa pr pt pd pb fP fR fT)) rfl ?_)
          refine zz_sub (ws' := (wLM z lh lt lb lc rh ph ld lm lf lk lq) ++ (wPlan z ph pa pr pt pd pb fP fR fT) ++ (wRun z rh ru rl qf_32 rn rd gU_32 gL_32)) [0, 4, 5, 6, 7, 1, 2, 3] rfl rfl ?_
          exact zz_lret C hr dX9_balance_82 ⟨_, _, _, _, ⟨_, hf_32, Or.inl ⟨by omega, by omega, by rw [hs9, hl9]⟩⟩, rfl, rfl⟩
        · skip
          refine zz_ldc2 (a := (-1)) C qw_725 (by decide +kernel) dX9_balance_56 ?_
          refine zz_sub (ws' := (wLM z lh lt lb lc rh ph ld lm lf lk lq) ++ (wPlan z ph pa pr pt pd pb fP fR fT) ++ (wRun z rh ru rl qf_32 rn rd gU_32 gL_32)) [0, 4, 5, 6, 7, 1, 2, 3] rfl rfl ?_
          exact zz_lret C hr dX9_balance_59 ⟨_, _, _, _, ⟨_, hf_32, Or.inr ⟨by omega, rfl⟩⟩, rfl, rfl⟩
    · skip
      refine zz_ldc2 (a := (-1)) C qw_725 (by decide +kernel) dX9_balance_16 ?_
      refine zz_sub (ws' := (wLM z lh lt lb lc rh ph ld lm lf lk lq) ++ (wPlan z ph pa pr pt pd pb fP fR fT) ++ (wRun z rh ru rl rf rn rd fU fL)) [0, 4, 5, 6, 7, 1, 2, 3] rfl rfl ?_
      exact zz_lret C hr dX9_balance_19 ⟨_, rf, fU, fL, noBal hpd hpb hfP hfR hfT hlm un (by omega), rfl, rfl⟩
abbrev po_X9_need (z : zC) (lh : Nat) (lt : Nat) (lb : Nat) (lc : Nat) (ld : Nat) (lm : Int) (lf : Int) (lk : Int) (lq : Int) (ph : Nat) (pa : Nat) (pr : Nat) (pt : Nat) (pd : Int) (pb : Int) (fP : Int → Int) (fR : Int → Int) (fT : Int → Int) (rh : Nat) (ru : Nat) (rl : Nat) (rf : Int) (rn : Int) (rd : Int) (fU : Int → Int) (fL : Int → Int) (un : Int) : Option Value → va_W → Prop := fun v w => ∃ (q : Int), ∃ (gf : Int), ∃ (gU : Int → Int), ∃ (gL : Int → Int), ∃ (gn : Int), ∃ (gm : Int), (isNeed (plBal pd pb fP fR fT 0) (plCar pd fR 0) 0 pd un q) ∧ v = some (Value.long (iL q)) ∧ w = (wLM z lh lt lb lc rh ph ld lm lf lk lq) ++ (wPlan z ph pa pr pt pd pb fP fR fT) ++ (wRun z rh ru rl gf gn gm gU gL)
abbrev rm_X9_need : Room := { frames := 6, cells := 0, slots := 0, locals := 155 }
set_option maxHeartbeats 4000000 in
set_option maxRecDepth 100000 in
theorem cc_X9_need (l : Launch) (z : zC) (lh : Nat) (lt : Nat) (lb : Nat) (lc : Nat) (ld : Nat) (lm : Int) (lf : Int) (lk : Int) (lq : Int) (ph : Nat) (pa : Nat) (pr : Nat) (pt : Nat) (pd : Int) (pb : Int) (fP : Int → Int) (fR : Int → Int) (fT : Int → Int) (rh : Nat) (ru : Nat) (rl : Nat) (rf : Int) (rn : Int) (rd : Int) (fU : Int → Int) (fL : Int → Int) (un : Int) (hpd : 1 ≤ pd ∧ pd ≤ 4) (hpb : 0 ≤ pb ∧ pb ≤ 5) (hfP : ∀ i : Int, 0 ≤ fP i ∧ fP i ≤ 200) (hfR : ∀ i : Int, 0 ≤ fR i ∧ fR i ≤ 6) (hfT : ∀ i : Int, 0 ≤ fT i ∧ fT i ≤ 200) (hun : un = 0 ∨ un = 1) : zzMet l yX9_need cX9_need 2 (Option.some .long) rm_X9_need z [.ref lh, .int (iI un)] ((wLM z lh lt lb lc rh ph ld lm lf lk lq) ++ (wPlan z ph pa pr pt pd pb fP fR fT) ++ (wRun z rh ru rl rf rn rd fU fL)) (po_X9_need z lh lt lb lc ld lm lf lk lq ph pa pr pt pd pb fP fR fT rh ru rl rf rn rd fU fL un) := by
  refine zzMet.of (own := RX9) (ls0 := [(0, .ref lh), (1, .int (iI un))]) (by decide) rfl (Nat.le_of_ble_eq_true rfl) rfl ?_
  intro p e s m below meth c A C hr hnm
  refine zz_aload_n C 0 dX9_need_0 rfl rfl ?_
  refine zz_get C 0 (ci := 9) (k := 3) rfl rfl in_X9 (by decide) qw_319 rfl rfl dX9_need_1 ?_
  refine zz_aload_n C 0 dX9_need_4 rfl rfl ?_
  refine zz_get C 0 (ci := 9) (k := 4) rfl rfl in_X9 (by decide) qw_320 rfl rfl dX9_need_5 ?_
  refine zz_iconst C dX9_need_8 ?_
  refine zz_callV (wr := wLM z lh lt lb lc rh ph ld lm lf lk lq) (st := []) C (cc_X4_follow l z rh ru rl rf rn rd fU fL ph pa pr pt pd pb fP fR fT 0 (by omega) (by omega) (by omega) (by omega) (by omega) (by omega)) yk_X4_follow qw_817 ⟨by decide, by decide⟩ [5, 6, 7, 1, 2, 3, 4] [0] rfl rfl rfl rfl (by decide) 0 4 rfl rfl rfl rfl (Nat.le_of_ble_eq_true rfl) dX9_need_9 ⟨by decide, by decide⟩ ?_
  rintro _ _ ⟨qf_9, gU_9, gL_9, hU_9, hL_9, hf_9, rfl, rfl⟩
  refine zz_st (st' := []) rfl (zz_ws (ws' := (wLM z lh lt lb lc rh ph ld lm lf lk lq) ++ (wRun z rh ru rl qf_9 rn rd gU_9 gL_9) ++ (wPlan z ph pa pr pt pd pb fP fR fT)) rfl ?_)
  refine zz_aload_n C 0 dX9_need_12 rfl rfl ?_
  refine zz_get C 0 (ci := 9) (k := 3) rfl rfl in_X9 (by decide) qw_319 rfl rfl dX9_need_13 ?_
  refine zz_aload_n C 0 dX9_need_16 rfl rfl ?_
  refine zz_get C 0 (ci := 9) (k := 4) rfl rfl in_X9 (by decide) qw_320 rfl rfl dX9_need_17 ?_
  refine zz_iconst C dX9_need_20 ?_
  refine zz_callV (wr := wLM z lh lt lb lc rh ph ld lm lf lk lq) (st := []) C (cc_X4_findLack l z rh ru rl qf_9 rn rd gU_9 gL_9 ph pa pr pt pd pb fP fR fT 0 0 (by omega) (by omega) (by omega) (by omega) (by omega) (by omega) (by omega) hU_9 hL_9) yk_X4_findLack qw_837 ⟨by decide, by decide⟩ [1, 2, 3, 4, 5, 6, 7] [0] rfl rfl rfl rfl (by decide) 0 4 rfl rfl rfl rfl (Nat.le_of_ble_eq_true rfl) dX9_need_21 ⟨by decide, by decide⟩ ?_
  rintro _ _ ⟨qn_21, qd_21, hlk_21, hqd_21, hqn_21, rfl, rfl⟩
  refine zz_st (st' := []) rfl (zz_ws (ws' := (wLM z lh lt lb lc rh ph ld lm lf lk lq) ++ (wRun z rh ru rl qf_9 qn_21 qd_21 gU_9 gL_9) ++ (wPlan z ph pa pr pt pd pb fP fR fT)) rfl ?_)
  refine zz_aload_n C 0 dX9_need_24 rfl rfl ?_
  refine zz_get C 0 (ci := 9) (k := 3) rfl rfl in_X9 (by decide) qw_319 rfl rfl dX9_need_25 ?_
  refine zz_get C 1 (ci := 4) (k := 1) rfl rfl in_X4 (by decide) qw_268 rfl rfl dX9_need_28 ?_
  refine zz_aload_n C 0 dX9_need_31 rfl rfl ?_
  refine zz_get C 0 (ci := 9) (k := 3) rfl rfl in_X9 (by decide) qw_319 rfl rfl dX9_need_32 ?_
  refine zz_get C 1 (ci := 4) (k := 2) rfl rfl in_X4 (by decide) qw_270 rfl rfl dX9_need_35 ?_
  refine zz_iload_n C 1 dX9_need_38 rfl rfl ?_
  refine zz_callS (wr := (wLM z lh lt lb lc rh ph ld lm lf lk lq) ++ (wRun z rh ru rl qf_9 qn_21 qd_21 gU_9 gL_9) ++ (wPlan z ph pa pr pt pd pb fP fR fT)) (st := []) C (cc_X9_inLeastTerms l z qn_21 qd_21 un (by omega) (by omega) (by omega)) yk_X9_inLeastTerms qw_715 ⟨by decide, by decide⟩ [] [0, 1, 2, 3, 4, 5, 6, 7] rfl rfl rfl rfl (by decide) rfl rfl (Nat.le_of_ble_eq_true rfl) dX9_need_39 ⟨by decide, by decide⟩ ?_
  rintro _ _ ⟨rfl, rfl⟩
  refine zz_st (st' := [.long (iL (ltm qn_21 qd_21 un))]) rfl (zz_ws (ws' := (wLM z lh lt lb lc rh ph ld lm lf lk lq) ++ (wRun z rh ru rl qf_9 qn_21 qd_21 gU_9 gL_9) ++ (wPlan z ph pa pr pt pd pb fP fR fT)) rfl ?_)
  refine zz_sub (ws' := (wLM z lh lt lb lc rh ph ld lm lf lk lq) ++ (wPlan z ph pa pr pt pd pb fP fR fT) ++ (wRun z rh ru rl qf_9 qn_21 qd_21 gU_9 gL_9)) [0, 4, 5, 6, 7, 1, 2, 3] rfl rfl ?_
  exact zz_lret C hr dX9_need_42 ⟨_, _, _, _, _, _, ⟨_, _, hlk_21, rfl⟩, rfl, rfl⟩
abbrev po_X9_lack (z : zC) (lh : Nat) (lt : Nat) (lb : Nat) (lc : Nat) (ld : Nat) (lm : Int) (lf : Int) (lk : Int) (lq : Int) (ph : Nat) (pa : Nat) (pr : Nat) (pt : Nat) (pd : Int) (pb : Int) (fP : Int → Int) (fR : Int → Int) (fT : Int → Int) (rh : Nat) (ru : Nat) (rl : Nat) (rf : Int) (rn : Int) (rd : Int) (fU : Int → Int) (fL : Int → Int) (d9 : Int) (un : Int) : Option Value → va_W → Prop := fun v w => ∃ (q : Int), ∃ (gf : Int), ∃ (gU : Int → Int), ∃ (gL : Int → Int), ∃ (gn : Int), ∃ (gm : Int), (isLak (plBal pd pb fP fR fT lm) (plCar pd fR d9) pd d9 un q) ∧ v = some (Value.long (iL q)) ∧ w = (wLM z lh lt lb lc rh ph ld lm lf lk lq) ++ (wPlan z ph pa pr pt pd pb fP fR fT) ++ (wRun z rh ru rl gf gn gm gU gL)
abbrev rm_X9_lack : Room := { frames := 6, cells := 0, slots := 0, locals := 155 }
set_option maxHeartbeats 4000000 in
set_option maxRecDepth 100000 in
theorem cc_X9_lack (l : Launch) (z : zC) (lh : Nat) (lt : Nat) (lb : Nat) (lc : Nat) (ld : Nat) (lm : Int) (lf : Int) (lk : Int) (lq : Int) (ph : Nat) (pa : Nat) (pr : Nat) (pt : Nat) (pd : Int) (pb : Int) (fP : Int → Int) (fR : Int → Int) (fT : Int → Int) (rh : Nat) (ru : Nat) (rl : Nat) (rf : Int) (rn : Int) (rd : Int) (fU : Int → Int) (fL : Int → Int) (d9 : Int) (un : Int) (hpd : 1 ≤ pd ∧ pd ≤ 4) (hpb : 0 ≤ pb ∧ pb ≤ 5) (hfP : ∀ i : Int, 0 ≤ fP i ∧ fP i ≤ 200) (hfR : ∀ i : Int, 0 ≤ fR i ∧ fR i ≤ 6) (hfT : ∀ i : Int, 0 ≤ fT i ∧ fT i ≤ 200) (hlm : 0 ≤ lm ∧ lm ≤ 9999) (hd9 : -2147483648 ≤ d9 ∧ d9 < 2147483648) (hun : un = 0 ∨ un = 1) : zzMet l yX9_lack cX9_lack 3 (Option.some .long) rm_X9_lack z [.ref lh, .int (iI d9), .int (iI un)] ((wLM z lh lt lb lc rh ph ld lm lf lk lq) ++ (wPlan z ph pa pr pt pd pb fP fR fT) ++ (wRun z rh ru rl rf rn rd fU fL)) (po_X9_lack z lh lt lb lc ld lm lf lk lq ph pa pr pt pd pb fP fR fT rh ru rl rf rn rd fU fL d9 un) := by
  refine zzMet.of (own := RX9) (ls0 := [(0, .ref lh), (1, .int (iI d9)), (2, .int (iI un))]) (by decide) rfl (Nat.le_of_ble_eq_true rfl) rfl ?_
  intro p e s m below meth c A C hr hnm
  refine zz_iload_n C 1 dX9_lack_0 rfl rfl ?_
  refine zz_if_eq (tgt := 20) C dX9_lack_1 (by decide) (by unfold rI; omega) (fun c1 => ?_) (fun c1 => ?_)
  · skip
    refine zz_aload_n C 0 dX9_lack_20 rfl rfl ?_
    refine zz_get C 0 (ci := 9) (k := 3) rfl rfl in_X9 (by decide) qw_319 rfl rfl dX9_lack_21 ?_
    refine zz_aload_n C 0 dX9_lack_24 rfl rfl ?_
    refine zz_get C 0 (ci := 9) (k := 4) rfl rfl in_X9 (by decide) qw_320 rfl rfl dX9_lack_25 ?_
    refine zz_aload_n C 0 dX9_lack_28 rfl rfl ?_
    refine zz_get C 0 (ci := 9) (k := 6) rfl rfl in_X9 (by decide) qw_322 rfl rfl dX9_lack_29 ?_
    refine zz_callV (wr := wLM z lh lt lb lc rh ph ld lm lf lk lq) (st := []) C (cc_X4_follow l z rh ru rl rf rn rd fU fL ph pa pr pt pd pb fP fR fT lm (by omega) (by omega) (by omega) (by omega) (by omega) (by omega)) yk_X4_follow qw_817 ⟨by decide, by decide⟩ [5, 6, 7, 1, 2, 3, 4] [0] rfl rfl rfl rfl (by decide) 0 4 rfl rfl rfl rfl (Nat.le_of_ble_eq_true rfl) dX9_lack_32 ⟨by decide, by decide⟩ ?_
    rintro _ _ ⟨qf_32, gU_32, gL_32, hU_32, hL_32, hf_32, rfl, rfl⟩
    refine zz_st (st' := []) rfl (zz_ws (ws' := (wLM z lh lt lb lc rh ph ld lm lf lk lq) ++ (wRun z rh ru rl qf_32 rn rd gU_32 gL_32) ++ (wPlan z ph pa pr pt pd pb fP fR fT)) rfl ?_)
    have hf32 := fstNeg_rng hf_32 hpd.2
    refine zz_aload_n C 0 dX9_lack_35 rfl rfl ?_
    refine zz_get C 0 (ci := 9) (k := 3) rfl rfl in_X9 (by decide) qw_319 rfl rfl dX9_lack_36 ?_
    refine zz_get C 1 (ci := 4) (k := 0) rfl rfl in_X4 (by decide) qw_266 rfl rfl dX9_lack_39 ?_
    refine zz_if_eq (tgt := 60) C dX9_lack_42 (by decide) (by unfold rI; omega) (fun c42 => ?_) (fun c42 => ?_)
    · skip
      refine zz_aload_n C 0 dX9_lack_60 rfl rfl ?_
      refine zz_get C 0 (ci := 9) (k := 3) rfl rfl in_X9 (by decide) qw_319 rfl rfl dX9_lack_61 ?_
      refine zz_aload_n C 0 dX9_lack_64 rfl rfl ?_
      refine zz_get C 0 (ci := 9) (k := 4) rfl rfl in_X9 (by decide) qw_320 rfl rfl dX9_lack_65 ?_
      refine zz_iload_n C 1 dX9_lack_68 rfl rfl ?_
      refine zz_callV (wr := wLM z lh lt lb lc rh ph ld lm lf lk lq) (st := []) C (cc_X4_findLack l z rh ru rl qf_32 rn rd gU_32 gL_32 ph pa pr pt pd pb fP fR fT lm d9 (by omega) (by omega) (by omega) (by omega) (by omega) (by omega) (by omega) hU_32 hL_32) yk_X4_findLack qw_837 ⟨by decide, by decide⟩ [1, 2, 3, 4, 5, 6, 7] [0] rfl rfl rfl rfl (by decide) 0 4 rfl rfl rfl rfl (Nat.le_of_ble_eq_true rfl) dX9_lack_69 ⟨by decide, by decide⟩ ?_
      rintro _ _ ⟨qn_69, qd_69, hlk_69, hqd_69, hqn_69, rfl, rfl⟩
      refine zz_st (st' := []) rfl (zz_ws (ws' := (wLM z lh lt lb lc rh ph ld lm lf lk lq) ++ (wRun z rh ru rl qf_32 qn_69 qd_69 gU_32 gL_32) ++ (wPlan z ph pa pr pt pd pb fP fR fT)) rfl ?_)
      refine zz_aload_n C 0 dX9_lack_72 rfl rfl ?_
      refine zz_get C 0 (ci := 9) (k := 3) rfl rfl in_X9 (by decide) qw_319 rfl rfl dX9_lack_73 ?_
      refine zz_get C 1 (ci := 4) (k := 1) rfl rfl in_X4 (by decide) qw_268 rfl rfl dX9_lack_76 ?_
      refine zz_aload_n C 0 dX9_lack_79 rfl rfl ?_
      refine zz_get C 0 (ci := 9) (k := 3) rfl rfl in_X9 (by decide) qw_319 rfl rfl dX9_lack_80 ?_
      refine zz_get C 1 (ci := 4) (k := 2) rfl rfl in_X4 (by decide) qw_270 rfl rfl dX9_lack_83 ?_
      refine zz_iload_n C 2 dX9_lack_86 rfl rfl ?_
      refine zz_callS (wr := (wLM z lh lt lb lc rh ph ld lm lf lk lq) ++ (wRun z rh ru rl qf_32 qn_69 qd_69 gU_32 gL_32) ++ (wPlan z ph pa pr pt pd pb fP fR fT)) (st := []) C (cc_X9_inLeastTerms l z qn_69 qd_69 un (by omega) (by omega) (by omega)) yk_X9_inLeastTerms qw_715 ⟨by decide, by decide⟩ [] [0, 1, 2, 3, 4, 5, 6, 7] rfl rfl rfl rfl (by decide) rfl rfl (Nat.le_of_ble_eq_true rfl) dX9_lack_87 ⟨by decide, by decide⟩ ?_
      rintro _ _ ⟨rfl, rfl⟩
      refine zz_st (st' := [.long (iL (ltm qn_69 qd_69 un))]) rfl (zz_ws (ws' := (wLM z lh lt lb lc rh ph ld lm lf lk lq) ++ (wRun z rh ru rl qf_32 qn_69 qd_69 gU_32 gL_32) ++ (wPlan z ph pa pr pt pd pb fP fR fT)) rfl ?_)
      refine zz_sub (ws' := (wLM z lh lt lb lc rh ph ld lm lf lk lq) ++ (wPlan z ph pa pr pt pd pb fP fR fT) ++ (wRun z rh ru rl qf_32 qn_69 qd_69 gU_32 gL_32)) [0, 4, 5, 6, 7, 1, 2, 3] rfl rfl ?_
      exact zz_lret C hr dX9_lack_90 ⟨_, _, _, _, _, _, ⟨_, hf_32, Or.inl ⟨by omega, by omega, ⟨_, _, hlk_69, rfl⟩⟩⟩, rfl, rfl⟩
    · skip
      refine zz_aload_n C 0 dX9_lack_45 rfl rfl ?_
      refine zz_get C 0 (ci := 9) (k := 3) rfl rfl in_X9 (by decide) qw_319 rfl rfl dX9_lack_46 ?_
      refine zz_get C 1 (ci := 4) (k := 0) rfl rfl in_X4 (by decide) qw_266 rfl rfl dX9_lack_49 ?_
      refine zz_iload_n C 1 dX9_lack_52 rfl rfl ?_
      refine zz_icmp_ge (tgt := 60) C dX9_lack_53 (by decide) (by unfold rI; omega) (by unfold rI; omega) (fun c53 => ?_) (fun c53 => ?_)
      · skip
        refine zz_aload_n C 0 dX9_lack_60 rfl rfl ?_
        refine zz_get C 0 (ci := 9) (k := 3) rfl rfl in_X9 (by decide) qw_319 rfl rfl dX9_lack_61 ?_
        refine zz_aload_n C 0 dX9_lack_64 rfl rfl ?_
        refine zz_get C 0 (ci := 9) (k := 4) rfl rfl in_X9 (by decide) qw_320 rfl rfl dX9_lack_65 ?_
        refine zz_iload_n C 1 dX9_lack_68 rfl rfl ?_
        refine zz_callV (wr := wLM z lh lt lb lc rh ph ld lm lf lk lq) (st := []) C (cc_X4_findLack l z rh ru rl qf_32 rn rd gU_32 gL_32 ph pa pr pt pd pb fP fR fT lm d9 (by omega) (by omega) (by omega) (by omega) (by omega) (by omega) (by omega) hU_32 hL_32) yk_X4_findLack qw_837 ⟨by decide, by decide⟩ [1, 2, 3, 4, 5, 6, 7] [0] rfl rfl rfl rfl (by decide) 0 4 rfl rfl rfl rfl (Nat.le_of_ble_eq_true rfl) dX9_lack_69 ⟨by decide, by decide⟩ ?_
        rintro _ _ ⟨qn_69, qd_69, hlk_69, hqd_69, hqn_69, rfl, rfl⟩
        refine zz_st (st' := []) rfl (zz_ws (ws' := (wLM z lh lt lb lc rh ph ld lm lf lk lq) ++ (wRun z rh ru rl qf_32 qn_69 qd_69 gU_32 gL_32) ++ (wPlan z ph pa pr pt pd pb fP fR fT)) rfl ?_)
        refine zz_aload_n C 0 dX9_lack_72 rfl rfl ?_
        refine zz_get C 0 (ci := 9) (k := 3) rfl rfl in_X9 (by decide) qw_319 rfl rfl dX9_lack_73 ?_
        refine zz_get C 1 (ci := 4) (k := 1) rfl rfl in_X4 (by decide) qw_268 rfl rfl dX9_lack_76 ?_
        refine zz_aload_n C 0 dX9_lack_79 rfl rfl ?_
        refine zz_get C 0 (ci := 9) (k := 3) rfl rfl in_X9 (by decide) qw_319 rfl rfl dX9_lack_80 ?_
        refine zz_get C 1 (ci := 4) (k := 2) rfl rfl in_X4 (by decide) qw_270 rfl rfl dX9_lack_83 ?_
        refine zz_iload_n C 2 dX9_lack_86 rfl rfl ?_
        refine zz_callS (wr := (wLM z lh lt lb lc rh ph ld lm lf lk lq) ++ (wRun z rh ru rl qf_32 qn_69 qd_69 gU_32 gL_32) ++ (wPlan z ph pa pr pt pd pb fP fR fT)) (st := []) C (cc_X9_inLeastTerms l z qn_69 qd_69 un (by omega) (by omega) (by omega)) yk_X9_inLeastTerms qw_715 ⟨by decide, by decide⟩ [] [0, 1, 2, 3, 4, 5, 6, 7] rfl rfl rfl rfl (by decide) rfl rfl (Nat.le_of_ble_eq_true rfl) dX9_lack_87 ⟨by decide, by decide⟩ ?_
        rintro _ _ ⟨rfl, rfl⟩
        refine zz_st (st' := [.long (iL (ltm qn_69 qd_69 un))]) rfl (zz_ws (ws' := (wLM z lh lt lb lc rh ph ld lm lf lk lq) ++ (wRun z rh ru rl qf_32 qn_69 qd_69 gU_32 gL_32) ++ (wPlan z ph pa pr pt pd pb fP fR fT)) rfl ?_)
        refine zz_sub (ws' := (wLM z lh lt lb lc rh ph ld lm lf lk lq) ++ (wPlan z ph pa pr pt pd pb fP fR fT) ++ (wRun z rh ru rl qf_32 qn_69 qd_69 gU_32 gL_32)) [0, 4, 5, 6, 7, 1, 2, 3] rfl rfl ?_
        exact zz_lret C hr dX9_lack_90 ⟨_, _, _, _, _, _, ⟨_, hf_32, Or.inl ⟨by omega, by omega, ⟨_, _, hlk_69, rfl⟩⟩⟩, rfl, rfl⟩
      · skip
        refine zz_ldc2 (a := (-1)) C qw_725 (by decide +kernel) dX9_lack_56 ?_
        refine zz_sub (ws' := (wLM z lh lt lb lc rh ph ld lm lf lk lq) ++ (wPlan z ph pa pr pt pd pb fP fR fT) ++ (wRun z rh ru rl qf_32 rn rd gU_32 gL_32)) [0, 4, 5, 6, 7, 1, 2, 3] rfl rfl ?_
        exact zz_lret C hr dX9_lack_59 ⟨_, _, _, _, _, _, ⟨_, hf_32, Or.inr ⟨by omega, rfl⟩⟩, rfl, rfl⟩
  · skip
    refine zz_aload_n C 0 dX9_lack_4 rfl rfl ?_
    refine zz_get C 0 (ci := 9) (k := 4) rfl rfl in_X9 (by decide) qw_320 rfl rfl dX9_lack_5 ?_
    refine zz_iconst C dX9_lack_8 ?_
    refine zz_iload_n C 1 dX9_lack_9 rfl rfl ?_
    refine zz_callV (wr := (wLM z lh lt lb lc rh ph ld lm lf lk lq) ++ (wRun z rh ru rl rf rn rd fU fL)) (st := []) C (cc_X6_fits_1 l z ph pa pr pt pd pb fP fR fT d9 (by omega) (by omega) (by omega)) yk_X6_fits qw_351 ⟨by decide, by decide⟩ [1, 2, 3, 4] [0, 5, 6, 7] rfl rfl rfl rfl (by decide) 0 6 rfl rfl rfl rfl (Nat.le_of_ble_eq_true rfl) dX9_lack_10 ⟨by decide, by decide⟩ ?_
    rintro _ _ ⟨q_10, hq_10, rfl, rfl⟩
    refine zz_st (st' := [.int (iI q_10)]) rfl (zz_ws (ws' := (wLM z lh lt lb lc rh ph ld lm lf lk lq) ++ (wRun z rh ru rl rf rn rd fU fL) ++ (wPlan z ph pa pr pt pd pb fP fR fT)) rfl ?_)
    refine zz_if_ne (tgt := 20) C dX9_lack_13 (by decide) (by unfold rI; omega) (fun c13 => ?_) (fun c13 => ?_)
    · skip
      refine zz_aload_n C 0 dX9_lack_20 rfl rfl ?_
      refine zz_get C 0 (ci := 9) (k := 3) rfl rfl in_X9 (by decide) qw_319 rfl rfl dX9_lack_21 ?_
      refine zz_aload_n C 0 dX9_lack_24 rfl rfl ?_
      refine zz_get C 0 (ci := 9) (k := 4) rfl rfl in_X9 (by decide) qw_320 rfl rfl dX9_lack_25 ?_
      refine zz_aload_n C 0 dX9_lack_28 rfl rfl ?_
      refine zz_get C 0 (ci := 9) (k := 6) rfl rfl in_X9 (by decide) qw_322 rfl rfl dX9_lack_29 ?_
      refine zz_callV (wr := wLM z lh lt lb lc rh ph ld lm lf lk lq) (st := []) C (cc_X4_follow l z rh ru rl rf rn rd fU fL ph pa pr pt pd pb fP fR fT lm (by omega) (by omega) (by omega) (by omega) (by omega) (by omega)) yk_X4_follow qw_817 ⟨by decide, by decide⟩ [1, 2, 3, 4, 5, 6, 7] [0] rfl rfl rfl rfl (by decide) 0 4 rfl rfl rfl rfl (Nat.le_of_ble_eq_true rfl) dX9_lack_32 ⟨by decide, by decide⟩ ?_
      rintro _ _ ⟨qf_32, gU_32, gL_32, hU_32, hL_32, hf_32, rfl, rfl⟩
      refine zz_st (st' := []) rfl (zz_ws (ws' := (wLM z lh lt lb lc rh ph ld lm lf lk lq) ++ (wRun z rh ru rl qf_32 rn rd gU_32 gL_32) ++ (wPlan z ph pa pr pt pd pb fP fR fT)) rfl ?_)
      have hf32 := fstNeg_rng hf_32 hpd.2
      refine zz_aload_n C 0 dX9_lack_35 rfl rfl ?_
      refine zz_get C 0 (ci := 9) (k := 3) rfl rfl in_X9 (by decide) qw_319 rfl rfl dX9_lack_36 ?_
      refine zz_get C 1 (ci := 4) (k := 0) rfl rfl in_X4 (by decide) qw_266 rfl rfl dX9_lack_39 ?_
      refine zz_if_eq (tgt := 60) C dX9_lack_42 (by decide) (by unfold rI; omega) (fun c42 => ?_) (fun c42 => ?_)
      · skip
        refine zz_aload_n C 0 dX9_lack_60 rfl rfl ?_
        refine zz_get C 0 (ci := 9) (k := 3) rfl rfl in_X9 (by decide) qw_319 rfl rfl dX9_lack_61 ?_
        refine zz_aload_n C 0 dX9_lack_64 rfl rfl ?_
        refine zz_get C 0 (ci := 9) (k := 4) rfl rfl in_X9 (by decide) qw_320 rfl rfl dX9_lack_65 ?_
        refine zz_iload_n C 1 dX9_lack_68 rfl rfl ?_
        refine zz_callV (wr := wLM z lh lt lb lc rh ph ld lm lf lk lq) (st := []) C (cc_X4_findLack l z rh ru rl qf_32 rn rd gU_32 gL_32 ph pa pr pt pd pb fP fR fT lm d9 (by omega) (by omega) (by omega) (by omega) (by omega) (by omega) (by omega) hU_32 hL_32) yk_X4_findLack qw_837 ⟨by decide, by decide⟩ [1, 2, 3, 4, 5, 6, 7] [0] rfl rfl rfl rfl (by decide) 0 4 rfl rfl rfl rfl (Nat.le_of_ble_eq_true rfl) dX9_lack_69 ⟨by decide, by decide⟩ ?_
        rintro _ _ ⟨qn_69, qd_69, hlk_69, hqd_69, hqn_69, rfl, rfl⟩
        refine zz_st (st' := []) rfl (zz_ws (ws' := (wLM z lh lt lb lc rh ph ld lm lf lk lq) ++ (wRun z rh ru rl qf_32 qn_69 qd_69 gU_32 gL_32) ++ (wPlan z ph pa pr pt pd pb fP fR fT)) rfl ?_)
        refine zz_aload_n C 0 dX9_lack_72 rfl rfl ?_
        refine zz_get C 0 (ci := 9) (k := 3) rfl rfl in_X9 (by decide) qw_319 rfl rfl dX9_lack_73 ?_
        refine zz_get C 1 (ci := 4) (k := 1) rfl rfl in_X4 (by decide) qw_268 rfl rfl dX9_lack_76 ?_
        refine zz_aload_n C 0 dX9_lack_79 rfl rfl ?_
        refine zz_get C 0 (ci := 9) (k := 3) rfl rfl in_X9 (by decide) qw_319 rfl rfl dX9_lack_80 ?_
        refine zz_get C 1 (ci := 4) (k := 2) rfl rfl in_X4 (by decide) qw_270 rfl rfl dX9_lack_83 ?_
        refine zz_iload_n C 2 dX9_lack_86 rfl rfl ?_
        refine zz_callS (wr := (wLM z lh lt lb lc rh ph ld lm lf lk lq) ++ (wRun z rh ru rl qf_32 qn_69 qd_69 gU_32 gL_32) ++ (wPlan z ph pa pr pt pd pb fP fR fT)) (st := []) C (cc_X9_inLeastTerms l z qn_69 qd_69 un (by omega) (by omega) (by omega)) yk_X9_inLeastTerms qw_715 ⟨by decide, by decide⟩ [] [0, 1, 2, 3, 4, 5, 6, 7] rfl rfl rfl rfl (by decide) rfl rfl (Nat.le_of_ble_eq_true rfl) dX9_lack_87 ⟨by decide, by decide⟩ ?_
        rintro _ _ ⟨rfl, rfl⟩
        refine zz_st (st' := [.long (iL (ltm qn_69 qd_69 un))]) rfl (zz_ws (ws' := (wLM z lh lt lb lc rh ph ld lm lf lk lq) ++ (wRun z rh ru rl qf_32 qn_69 qd_69 gU_32 gL_32) ++ (wPlan z ph pa pr pt pd pb fP fR fT)) rfl ?_)
        refine zz_sub (ws' := (wLM z lh lt lb lc rh ph ld lm lf lk lq) ++ (wPlan z ph pa pr pt pd pb fP fR fT) ++ (wRun z rh ru rl qf_32 qn_69 qd_69 gU_32 gL_32)) [0, 4, 5, 6, 7, 1, 2, 3] rfl rfl ?_
        exact zz_lret C hr dX9_lack_90 ⟨_, _, _, _, _, _, ⟨_, hf_32, Or.inl ⟨by omega, by omega, ⟨_, _, hlk_69, rfl⟩⟩⟩, rfl, rfl⟩
      · skip
        refine zz_aload_n C 0 dX9_lack_45 rfl rfl ?_
        refine zz_get C 0 (ci := 9) (k := 3) rfl rfl in_X9 (by decide) qw_319 rfl rfl dX9_lack_46 ?_
        refine zz_get C 1 (ci := 4) (k := 0) rfl rfl in_X4 (by decide) qw_266 rfl rfl dX9_lack_49 ?_
        refine zz_iload_n C 1 dX9_lack_52 rfl rfl ?_
        refine zz_icmp_ge (tgt := 60) C dX9_lack_53 (by decide) (by unfold rI; omega) (by unfold rI; omega) (fun c53 => ?_) (fun c53 => ?_)
        · skip
          refine zz_aload_n C 0 dX9_lack_60 rfl rfl ?_
          refine zz_get C 0 (ci := 9) (k := 3) rfl rfl in_X9 (by decide) qw_319 rfl rfl dX9_lack_61 ?_
          refine zz_aload_n C 0 dX9_lack_64 rfl rfl ?_
          refine zz_get C 0 (ci := 9) (k := 4) rfl rfl in_X9 (by decide) qw_320 rfl rfl dX9_lack_65 ?_
          refine zz_iload_n C 1 dX9_lack_68 rfl rfl ?_
          refine zz_callV (wr := wLM z lh lt lb lc rh ph ld lm lf lk lq) (st := []) C (cc_X4_findLack l z rh ru rl qf_32 rn rd gU_32 gL_32 ph pa pr pt pd pb fP fR fT lm d9 (by omega) (by omega) (by omega) (by omega) (by omega) (by omega) (by omega) hU_32 hL_32) yk_X4_findLack qw_837 ⟨by decide, by decide⟩ [1, 2, 3, 4, 5, 6, 7] [0] rfl rfl rfl rfl (by decide) 0 4 rfl rfl rfl rfl (Nat.le_of_ble_eq_true rfl) dX9_lack_69 ⟨by decide, by decide⟩ ?_
          rintro _ _ ⟨qn_69, qd_69, hlk_69, hqd_69, hqn_69, rfl, rfl⟩
          refine zz_st (st' := []) rfl (zz_ws (ws' := (wLM z lh lt lb lc rh ph ld lm lf lk lq) ++ (wRun z rh ru rl qf_32 qn_69 qd_69 gU_32 gL_32) ++ (wPlan z ph pa pr pt pd pb fP fR fT)) rfl ?_)
          refine zz_aload_n C 0 dX9_lack_72 rfl rfl ?_
          refine zz_get C 0 (ci := 9) (k := 3) rfl rfl in_X9 (by decide) qw_319 rfl rfl dX9_lack_73 ?_
          refine zz_get C 1 (ci := 4) (k := 1) rfl rfl in_X4 (by decide) qw_268 rfl rfl dX9_lack_76 ?_
          refine zz_aload_n C 0 dX9_lack_79 rfl rfl ?_
          refine zz_get C 0 (ci := 9) (k := 3) rfl rfl in_X9 (by decide) qw_319 rfl rfl dX9_lack_80 ?_
          refine zz_get C 1 (ci := 4) (k := 2) rfl rfl in_X4 (by decide) qw_270 rfl rfl dX9_lack_83 ?_
          refine zz_iload_n C 2 dX9_lack_86 rfl rfl ?_
          refine zz_callS (wr := (wLM z lh lt lb lc rh ph ld lm lf lk lq) ++ (wRun z rh ru rl qf_32 qn_69 qd_69 gU_32 gL_32) ++ (wPlan z ph pa pr pt pd pb fP fR fT)) (st := []) C (cc_X9_inLeastTerms l z qn_69 qd_69 un (by omega) (by omega) (by omega)) yk_X9_inLeastTerms qw_715 ⟨by decide, by decide⟩ [] [0, 1, 2, 3, 4, 5, 6, 7] rfl rfl rfl rfl (by decide) rfl rfl (Nat.le_of_ble_eq_true rfl) dX9_lack_87 ⟨by decide, by decide⟩ ?_
          rintro _ _ ⟨rfl, rfl⟩
          refine zz_st (st' := [.long (iL (ltm qn_69 qd_69 un))]) rfl (zz_ws (ws' := (wLM z lh lt lb lc rh ph ld lm lf lk lq) ++ (wRun z rh ru rl qf_32 qn_69 qd_69 gU_32 gL_32) ++ (wPlan z ph pa pr pt pd pb fP fR fT)) rfl ?_)
          refine zz_sub (ws' := (wLM z lh lt lb lc rh ph ld lm lf lk lq) ++ (wPlan z ph pa pr pt pd pb fP fR fT) ++ (wRun z rh ru rl qf_32 qn_69 qd_69 gU_32 gL_32)) [0, 4, 5, 6, 7, 1, 2, 3] rfl rfl ?_
          exact zz_lret C hr dX9_lack_90 ⟨_, _, _, _, _, _, ⟨_, hf_32, Or.inl ⟨by omega, by omega, ⟨_, _, hlk_69, rfl⟩⟩⟩, rfl, rfl⟩
        · skip
          refine zz_ldc2 (a := (-1)) C qw_725 (by decide +kernel) dX9_lack_56 ?_
          refine zz_sub (ws' := (wLM z lh lt lb lc rh ph ld lm lf lk lq) ++ (wPlan z ph pa pr pt pd pb fP fR fT) ++ (wRun z rh ru rl qf_32 rn rd gU_32 gL_32)) [0, 4, 5, 6, 7, 1, 2, 3] rfl rfl ?_
          exact zz_lret C hr dX9_lack_59 ⟨_, _, _, _, _, _, ⟨_, hf_32, Or.inr ⟨by omega, rfl⟩⟩, rfl, rfl⟩
    · skip
      refine zz_ldc2 (a := (-1)) C qw_725 (by decide +kernel) dX9_lack_16 ?_
      refine zz_sub (ws' := (wLM z lh lt lb lc rh ph ld lm lf lk lq) ++ (wPlan z ph pa pr pt pd pb fP fR fT) ++ (wRun z rh ru rl rf rn rd fU fL)) [0, 4, 5, 6, 7, 1, 2, 3] rfl rfl ?_
      exact zz_lret C hr dX9_lack_19 ⟨_, rf, fU, fL, rn, rd, noLak hpd hpb hfP hfR hfT hlm un (by omega), rfl, rfl⟩
