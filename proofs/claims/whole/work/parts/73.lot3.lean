theorem up_ceil {a s : Int} (hs : 1 ≤ s) (ha : 0 ≤ a ∧ a ≤ 800 * s) : 0 ≤ (a + s - 1) / s ∧ (a + s - 1) / s ≤ 800 := by
  refine ⟨Int.ediv_nonneg (by omega) (by omega), ?_⟩
  have : (a + s - 1) / s < 801 := (Int.ediv_lt_iff_lt_mul (by omega)).mpr (by omega)
  omega
theorem ceil_eq {a b c d : Int} (hb : 0 < b) (hd : 0 < d) (h : a * d = c * b) : (a + b - 1) / b = (c + d - 1) / d := by
  have key : ∀ {a b c d : Int}, 0 < b → 0 < d → a * d = c * b → (a + b - 1) / b ≤ (c + d - 1) / d := by
    intro a b c d hb hd h
    refine (Int.le_ediv_iff_mul_le hd).mpr ?_
    -- q = ceil (a / b): (q - 1) * b < a
    have h1 : (a + b - 1) / b * b ≤ a + b - 1 := Int.ediv_mul_le _ (by omega)
    generalize (a + b - 1) / b = q at *
    have h2 : (q - 1) * b < a := by rw [Int.sub_mul, Int.one_mul]; omega
    have h3 : (q - 1) * b * d < a * d := Int.mul_lt_mul_of_pos_right h2 hd
    rw [h, Int.mul_right_comm] at h3
    have h4 : (q - 1) * d < c := Int.lt_of_mul_lt_mul_right h3 (by omega)
    rw [Int.sub_mul, Int.one_mul] at h4
    omega
  have h1 := key hb hd h
  have h2 := key hd hb h.symm
  omega
def plTake (pb : Int) (fT C : Int → Int) : Int → Int := fun i => if 0 ≤ i ∧ i % 7 = 6 ∧ i / 7 < pb then C (i / 7) else fT i
theorem take_step {k : Int} {fT C g : Int → Int} (h : ∀ i : Int, g i = plTake k fT C i) (hk : 0 ≤ k) : ∀ i : Int, zup g (k * 7 + 6) (C k) i = plTake (k + 1) fT C i := by
  intro i
  by_cases e : i = k * 7 + 6
  · rw [e, zup_eq]
    unfold plTake
    rw [if_pos (by omega), show (k * 7 + 6) / 7 = k by omega]
  · rw [zup_ne e, h i]
    unfold plTake
    by_cases q : 0 ≤ i ∧ i % 7 = 6 ∧ i / 7 < k
    · rw [if_pos q, if_pos (by omega)]
    · rw [if_neg q, if_neg (by omega)]
abbrev po_X5_atFirstRoundedUp (z : zC) (vh : Nat) (vc : Nat) (vp : Nat) (vl : Nat) (vy : Nat) (vs : Nat) (vo : Nat) (vt : Nat) (vn : Nat) (rY : Int → Nat) (rS : Int → Nat) (rO : Int → Nat) (vsc : Int) (vch : Int) (vat : Int) (vd : Int) (vb : Int) (uC : Int → Int) (uP : Int → Int) (uL : Int → Int) (uT : Int → Int) (uN : Int → Int) (uY : Int → Int → Int) (uS : Int → Int → Int) (uO : Int → Int → Int) : Option Value → va_W → Prop := fun v w => v = some (Value.int (iI ((vat + vsc - 1) / vsc))) ∧ w = wLot z vh vc vp vl vy vs vo vt vn rY rS rO vsc vch vat vd vb uC uP uL uT uN uY uS uO
abbrev rm_X5_atFirstRoundedUp : Room := { frames := 1, cells := 0, slots := 0, locals := 40 }
set_option maxHeartbeats 4000000 in
set_option maxRecDepth 100000 in
theorem cc_X5_atFirstRoundedUp (l : Launch) (z : zC) (vh : Nat) (vc : Nat) (vp : Nat) (vl : Nat) (vy : Nat) (vs : Nat) (vo : Nat) (vt : Nat) (vn : Nat) (rY : Int → Nat) (rS : Int → Nat) (rO : Int → Nat) (vsc : Int) (vch : Int) (vat : Int) (vd : Int) (vb : Int) (uC : Int → Int) (uP : Int → Int) (uL : Int → Int) (uT : Int → Int) (uN : Int → Int) (uY : Int → Int → Int) (uS : Int → Int → Int) (uO : Int → Int → Int) (hs : 1 ≤ vsc ∧ vsc ≤ 456976) (ha : 0 ≤ vat ∧ vat ≤ 800 * vsc) : zzMet l yX5_atFirstRoundedUp cX5_atFirstRoundedUp 1 (Option.some .int) rm_X5_atFirstRoundedUp z [.ref vh] (wLot z vh vc vp vl vy vs vo vt vn rY rS rO vsc vch vat vd vb uC uP uL uT uN uY uS uO) (po_X5_atFirstRoundedUp z vh vc vp vl vy vs vo vt vn rY rS rO vsc vch vat vd vb uC uP uL uT uN uY uS uO) := by
  refine zzMet.of (own := RX5) (ls0 := [(0, .ref vh)]) (by decide) rfl (Nat.le_of_ble_eq_true rfl) rfl ?_
  intro p e s m below meth c A C hr hnm
  refine zz_aload_n C 0 dX5_atFirstRoundedUp_0 rfl rfl ?_
  refine zz_get C 0 (ci := 5) (k := 0) rfl rfl in_X5 (by decide) qw_215 rfl rfl dX5_atFirstRoundedUp_1 ?_
  refine zz_lconst (a := 1) C dX5_atFirstRoundedUp_4 (by decide +kernel) ?_
  refine zz_lcmp_ge (tgt := 13) C dX5_atFirstRoundedUp_5 dX5_atFirstRoundedUp_6 (by decide) (by unfold rL; omega) (by unfold rL; omega) (fun c5 => ?_) (fun c5 => ?_)
  · skip
    refine zz_aload_n C 0 dX5_atFirstRoundedUp_13 rfl rfl ?_
    refine zz_get C 0 (ci := 5) (k := 2) rfl rfl in_X5 (by decide) qw_219 rfl rfl dX5_atFirstRoundedUp_14 ?_
    refine zz_aload_n C 0 dX5_atFirstRoundedUp_17 rfl rfl ?_
    refine zz_get C 0 (ci := 5) (k := 0) rfl rfl in_X5 (by decide) qw_215 rfl rfl dX5_atFirstRoundedUp_18 ?_
    refine zz_ladd C dX5_atFirstRoundedUp_21 ?_
    refine zz_lconst (a := 1) C dX5_atFirstRoundedUp_22 (by decide +kernel) ?_
    refine zz_lsub C dX5_atFirstRoundedUp_23 ?_
    refine zz_aload_n C 0 dX5_atFirstRoundedUp_24 rfl rfl ?_
    refine zz_get C 0 (ci := 5) (k := 0) rfl rfl in_X5 (by decide) qw_215 rfl rfl dX5_atFirstRoundedUp_25 ?_
    refine zz_ldiv C dX5_atFirstRoundedUp_28 (by unfold rL; omega) (by unfold rL; omega) (by omega) (by omega) ?_
    refine zz_l2i C dX5_atFirstRoundedUp_29 ?_
    exact zz_iret C hr dX5_atFirstRoundedUp_30 ⟨zz_vI (Int.tdiv_eq_ediv_of_nonneg (by omega)), rfl⟩
  · skip
    exfalso; omega
abbrev po_X9_findLots (z : zC) (lh : Nat) (lt : Nat) (lb : Nat) (lr : Nat) (ld : Nat) (lm : Int) (lf : Int) (lk : Int) (lq : Int) (vh : Nat) (vc : Nat) (vp : Nat) (vl : Nat) (vy : Nat) (vs : Nat) (vo : Nat) (vt : Nat) (vn : Nat) (rY : Int → Nat) (rS : Int → Nat) (rO : Int → Nat) (vsc : Int) (vch : Int) (vat : Int) (vd : Int) (vb : Int) (uC : Int → Int) (uP : Int → Int) (uL : Int → Int) (uT : Int → Int) (uN : Int → Int) (uY : Int → Int → Int) (uS : Int → Int → Int) (uO : Int → Int → Int) (ph : Nat) (pa : Nat) (pr : Nat) (pt : Nat) (pd : Int) (pb : Int) (fP : Int → Int) (fR : Int → Int) (fT : Int → Int) : Option Value → va_W → Prop := fun v w => ∃ (gvd : Int), ∃ (gvb : Int), ∃ (gs : Int), ∃ (gh9 : Int), ∃ (ga9 : Int), ∃ (gC : Int → Int), ∃ (gP9 : Int → Int), ∃ (gL9 : Int → Int), ∃ (gT : Int → Int), ∃ (gN9 : Int → Int), ∃ (gY : Int → Int → Int), ∃ (gS9 : Int → Int → Int), ∃ (gO : Int → Int → Int), (lotOk pd pb fP fR fT gs gh9 ga9 gC) ∧ (gT 0 = 0) ∧ v = none ∧ w = (wLM z lh lt lb vh lr ph ld lm lf lk 1) ++ (wLot z vh vc vp vl vy vs vo vt vn rY rS rO gs gh9 ga9 gvd gvb gC gP9 gL9 gT gN9 gY gS9 gO) ++ (wPlan z ph pa pr pt pd pb fP fR fT)
abbrev rm_X9_findLots : Room := { frames := 10, cells := 0, slots := 0, locals := 266 }
set_option maxHeartbeats 4000000 in
set_option maxRecDepth 100000 in
theorem cc_X9_findLots (l : Launch) (z : zC) (lh : Nat) (lt : Nat) (lb : Nat) (lr : Nat) (ld : Nat) (lm : Int) (lf : Int) (lk : Int) (lq : Int) (vh : Nat) (vc : Nat) (vp : Nat) (vl : Nat) (vy : Nat) (vs : Nat) (vo : Nat) (vt : Nat) (vn : Nat) (rY : Int → Nat) (rS : Int → Nat) (rO : Int → Nat) (vsc : Int) (vch : Int) (vat : Int) (vd : Int) (vb : Int) (uC : Int → Int) (uP : Int → Int) (uL : Int → Int) (uT : Int → Int) (uN : Int → Int) (uY : Int → Int → Int) (uS : Int → Int → Int) (uO : Int → Int → Int) (ph : Nat) (pa : Nat) (pr : Nat) (pt : Nat) (pd : Int) (pb : Int) (fP : Int → Int) (fR : Int → Int) (fT : Int → Int) (hpd : 1 ≤ pd ∧ pd ≤ 4) (hpb : 0 ≤ pb ∧ pb ≤ 5) (hfP : ∀ i : Int, 0 ≤ fP i ∧ fP i ≤ 200) (hfR : ∀ i : Int, 0 ≤ fR i ∧ fR i ≤ 6) (hfT : ∀ i : Int, 0 ≤ fT i ∧ fT i ≤ 200) (hok : plOk pb fT) (hok2 : plOk2 pb fT) (hkl : lq = 0 ∨ (lq = 1 ∧ lotOk pd pb fP fR fT vsc vch vat uC)) (hu0 : uT 0 = 0) : zzMet l yX9_findLots cX9_findLots 1 none rm_X9_findLots z [.ref lh] ((wLM z lh lt lb vh lr ph ld lm lf lk lq) ++ (wLot z vh vc vp vl vy vs vo vt vn rY rS rO vsc vch vat vd vb uC uP uL uT uN uY uS uO) ++ (wPlan z ph pa pr pt pd pb fP fR fT)) (po_X9_findLots z lh lt lb lr ld lm lf lk lq vh vc vp vl vy vs vo vt vn rY rS rO vsc vch vat vd vb uC uP uL uT uN uY uS uO ph pa pr pt pd pb fP fR fT) := by
  refine zzMet.of (own := RX9) (ls0 := [(0, .ref lh)]) (by decide) rfl (Nat.le_of_ble_eq_true rfl) rfl ?_
  intro p e s m below meth c A C hr hnm
  refine zz_aload_n C 0 dX9_findLots_0 rfl rfl ?_
  refine zz_get C 0 (ci := 9) (k := 9) rfl rfl in_X9 (by decide) qw_325 rfl rfl dX9_findLots_1 ?_
  refine zz_if_ne (tgt := 23) C dX9_findLots_4 (by decide) (by unfold rI; omega) (fun c4 => ?_) (fun c4 => ?_)
  · skip
    obtain ⟨hk1, hk2⟩ := hkl.resolve_left (by omega)
    subst hk1
    exact zz_vret C hr dX9_findLots_23 ⟨vd, vb, vsc, vch, vat, uC, uP, uL, uT, uN, uY, uS, uO, by first | exact hk2 | exact hlo_15, by first | exact hu0 | exact hu1_15, rfl, rfl⟩
  · skip
    refine zz_aload_n C 0 dX9_findLots_7 rfl rfl ?_
    refine zz_get C 0 (ci := 9) (k := 2) rfl rfl in_X9 (by decide) qw_318 rfl rfl dX9_findLots_8 ?_
    refine zz_aload_n C 0 dX9_findLots_11 rfl rfl ?_
    refine zz_get C 0 (ci := 9) (k := 4) rfl rfl in_X9 (by decide) qw_320 rfl rfl dX9_findLots_12 ?_
    refine zz_callV (wr := wLM z lh lt lb vh lr ph ld lm lf lk lq) (st := []) C (cc_X5_findFor l z vh vc vp vl vy vs vo vt vn rY rS rO vsc vch vat vd vb uC uP uL uT uN uY uS uO ph pa pr pt pd pb fP fR fT (by omega) (by omega) (by omega) (by omega) (by omega) (by omega) (by omega) (by omega)) yk_X5_findFor qw_756 ⟨by decide, by decide⟩ [1, 2, 3, 4, 5, 6, 7, 8, 9, 10, 11, 12, 13, 14, 15, 16, 17, 18, 19, 20, 21, 22, 23, 24, 25, 26, 27, 28, 29, 30] [0] rfl rfl rfl rfl (by decide) 0 5 rfl rfl rfl rfl (Nat.le_of_ble_eq_true rfl) dX9_findLots_15 ⟨by decide, by decide⟩ ?_
    rintro _ _ ⟨gs_15, gh9_15, ga9_15, gC_15, gP9_15, gL9_15, gT_15, gN9_15, gY_15, gS9_15, gO_15, hlo_15, hu1_15, rfl, rfl⟩
    refine zz_st (st' := []) rfl (zz_ws (ws' := (wLM z lh lt lb vh lr ph ld lm lf lk lq) ++ (wLot z vh vc vp vl vy vs vo vt vn rY rS rO gs_15 gh9_15 ga9_15 pd pb gC_15 gP9_15 gL9_15 gT_15 gN9_15 gY_15 gS9_15 gO_15) ++ (wPlan z ph pa pr pt pd pb fP fR fT)) rfl ?_)
    refine zz_aload_n C 0 dX9_findLots_18 rfl rfl ?_
    refine zz_iconst C dX9_findLots_19 ?_
    refine zz_put (ty := .boolean) (ws' := (wLM z lh lt lb vh lr ph ld lm lf lk 1) ++ (wLot z vh vc vp vl vy vs vo vt vn rY rS rO gs_15 gh9_15 ga9_15 pd pb gC_15 gP9_15 gL9_15 gT_15 gN9_15 gY_15 gS9_15 gO_15) ++ (wPlan z ph pa pr pt pd pb fP fR fT)) C 0 (ci := 9) (k := 9) rfl rfl in_X9 tyX9 tyX9_ok nmX9 (by decide) qw_325 rfl rfl (by decide +kernel) (by decide +kernel) (by decide +kernel) (Nat.le_of_ble_eq_true rfl) rfl dX9_findLots_20 ?_
    exact zz_vret C hr dX9_findLots_23 ⟨pd, pb, gs_15, gh9_15, ga9_15, gC_15, gP9_15, gL9_15, gT_15, gN9_15, gY_15, gS9_15, gO_15, by first | exact hk2 | exact hlo_15, by first | exact hu0 | exact hu1_15, rfl, rfl⟩
abbrev po_X9_lots (z : zC) (lh : Nat) (lt : Nat) (lb : Nat) (lr : Nat) (ld : Nat) (lm : Int) (lf : Int) (lk : Int) (lq : Int) (vh : Nat) (vc : Nat) (vp : Nat) (vl : Nat) (vy : Nat) (vs : Nat) (vo : Nat) (vt : Nat) (vn : Nat) (rY : Int → Nat) (rS : Int → Nat) (rO : Int → Nat) (vsc : Int) (vch : Int) (vat : Int) (vd : Int) (vb : Int) (uC : Int → Int) (uP : Int → Int) (uL : Int → Int) (uT : Int → Int) (uN : Int → Int) (uY : Int → Int → Int) (uS : Int → Int → Int) (uO : Int → Int → Int) (ph : Nat) (pa : Nat) (pr : Nat) (pt : Nat) (pd : Int) (pb : Int) (fP : Int → Int) (fR : Int → Int) (fT : Int → Int) (b9 : Int) : Option Value → va_W → Prop := fun v w => ∃ (q : Int), ∃ (gk : Int), ∃ (gvd : Int), ∃ (gvb : Int), ∃ (gs : Int), ∃ (gh9 : Int), ∃ (ga9 : Int), ∃ (gC : Int → Int), ∃ (gP9 : Int → Int), ∃ (gL9 : Int → Int), ∃ (gT : Int → Int), ∃ (gN9 : Int → Int), ∃ (gY : Int → Int → Int), ∃ (gS9 : Int → Int → Int), ∃ (gO : Int → Int → Int), (gk = lq ∧ gk = 0 ∨ (gk = 1 ∧ lotOk pd pb fP fR fT gs gh9 ga9 gC)) ∧ (gT 0 = 0) ∧ (((0 ≤ b9 ∧ b9 < pb) ∧ (∃ sc ch at9 C, lotOk pd pb fP fR fT sc ch at9 C ∧ q = C b9)) ∨ (¬ (0 ≤ b9 ∧ b9 < pb) ∧ q = -1)) ∧ v = some (Value.int (iI q)) ∧ w = (wLM z lh lt lb vh lr ph ld lm lf lk gk) ++ (wLot z vh vc vp vl vy vs vo vt vn rY rS rO gs gh9 ga9 gvd gvb gC gP9 gL9 gT gN9 gY gS9 gO) ++ (wPlan z ph pa pr pt pd pb fP fR fT)
abbrev rm_X9_lots : Room := { frames := 11, cells := 0, slots := 0, locals := 286 }
set_option maxHeartbeats 4000000 in
set_option maxRecDepth 100000 in
theorem cc_X9_lots (l : Launch) (z : zC) (lh : Nat) (lt : Nat) (lb : Nat) (lr : Nat) (ld : Nat) (lm : Int) (lf : Int) (lk : Int) (lq : Int) (vh : Nat) (vc : Nat) (vp : Nat) (vl : Nat) (vy : Nat) (vs : Nat) (vo : Nat) (vt : Nat) (vn : Nat) (rY : Int → Nat) (rS : Int → Nat) (rO : Int → Nat) (vsc : Int) (vch : Int) (vat : Int) (vd : Int) (vb : Int) (uC : Int → Int) (uP : Int → Int) (uL : Int → Int) (uT : Int → Int) (uN : Int → Int) (uY : Int → Int → Int) (uS : Int → Int → Int) (uO : Int → Int → Int) (ph : Nat) (pa : Nat) (pr : Nat) (pt : Nat) (pd : Int) (pb : Int) (fP : Int → Int) (fR : Int → Int) (fT : Int → Int) (b9 : Int) (hpd : 1 ≤ pd ∧ pd ≤ 4) (hpb : 0 ≤ pb ∧ pb ≤ 5) (hfP : ∀ i : Int, 0 ≤ fP i ∧ fP i ≤ 200) (hfR : ∀ i : Int, 0 ≤ fR i ∧ fR i ≤ 6) (hfT : ∀ i : Int, 0 ≤ fT i ∧ fT i ≤ 200) (hok : plOk pb fT) (hok2 : plOk2 pb fT) (hkl : lq = 0 ∨ (lq = 1 ∧ lotOk pd pb fP fR fT vsc vch vat uC)) (hu0 : uT 0 = 0) (hb9 : -2147483648 ≤ b9 ∧ b9 < 2147483648) : zzMet l yX9_lots cX9_lots 2 (Option.some .int) rm_X9_lots z [.ref lh, .int (iI b9)] ((wLM z lh lt lb vh lr ph ld lm lf lk lq) ++ (wLot z vh vc vp vl vy vs vo vt vn rY rS rO vsc vch vat vd vb uC uP uL uT uN uY uS uO) ++ (wPlan z ph pa pr pt pd pb fP fR fT)) (po_X9_lots z lh lt lb lr ld lm lf lk lq vh vc vp vl vy vs vo vt vn rY rS rO vsc vch vat vd vb uC uP uL uT uN uY uS uO ph pa pr pt pd pb fP fR fT b9) := by
  refine zzMet.of (own := RX9) (ls0 := [(0, .ref lh), (1, .int (iI b9))]) (by decide) rfl (Nat.le_of_ble_eq_true rfl) rfl ?_
  intro p e s m below meth c A C hr hnm
  refine zz_aload_n C 0 dX9_lots_0 rfl rfl ?_
  refine zz_get C 0 (ci := 9) (k := 4) rfl rfl in_X9 (by decide) qw_320 rfl rfl dX9_lots_1 ?_
  refine zz_iconst C dX9_lots_4 ?_
  refine zz_iload_n C 1 dX9_lots_5 rfl rfl ?_
  refine zz_callV (wr := (wLM z lh lt lb vh lr ph ld lm lf lk lq) ++ (wLot z vh vc vp vl vy vs vo vt vn rY rS rO vsc vch vat vd vb uC uP uL uT uN uY uS uO)) (st := []) C (cc_X6_fits_4 l z ph pa pr pt pd pb fP fR fT b9 (by omega) (by omega) (by omega)) yk_X6_fits qw_351 ⟨by decide, by decide⟩ [27, 28, 29, 30] [0, 1, 2, 3, 4, 5, 6, 7, 8, 9, 10, 11, 12, 13, 14, 15, 16, 17, 18, 19, 20, 21, 22, 23, 24, 25, 26] rfl rfl rfl rfl (by decide) 0 6 rfl rfl rfl rfl (Nat.le_of_ble_eq_true rfl) dX9_lots_6 ⟨by decide, by decide⟩ ?_
  rintro _ _ ⟨q_6, hq_6, rfl, rfl⟩
  refine zz_st (st' := [.int (iI q_6)]) rfl (zz_ws (ws' := (wLM z lh lt lb vh lr ph ld lm lf lk lq) ++ (wLot z vh vc vp vl vy vs vo vt vn rY rS rO vsc vch vat vd vb uC uP uL uT uN uY uS uO) ++ (wPlan z ph pa pr pt pd pb fP fR fT)) rfl ?_)
  refine zz_if_ne (tgt := 14) C dX9_lots_9 (by decide) (by unfold rI; omega) (fun c9 => ?_) (fun c9 => ?_)
  · skip
    refine zz_aload_n C 0 dX9_lots_14 rfl rfl ?_
    refine zz_callV (wr := ([] : va_W)) (st := []) C (cc_X9_findLots l z lh lt lb lr ld lm lf lk lq vh vc vp vl vy vs vo vt vn rY rS rO vsc vch vat vd vb uC uP uL uT uN uY uS uO ph pa pr pt pd pb fP fR fT (by omega) (by omega) (by omega) (by omega) (by omega) (by omega) (by omega) hkl (by omega)) yk_X9_findLots qw_752 ⟨by decide, by decide⟩ [0, 1, 2, 3, 4, 5, 6, 7, 8, 9, 10, 11, 12, 13, 14, 15, 16, 17, 18, 19, 20, 21, 22, 23, 24, 25, 26, 27, 28, 29, 30] [] rfl rfl rfl rfl (by decide) 0 9 rfl rfl rfl rfl (Nat.le_of_ble_eq_true rfl) dX9_lots_15 ⟨by decide, by decide⟩ ?_
    rintro _ _ ⟨gvd_15, gvb_15, gs_15, gh9_15, ga9_15, gC_15, gP9_15, gL9_15, gT_15, gN9_15, gY_15, gS9_15, gO_15, hlo_15, hu1_15, rfl, rfl⟩
    refine zz_st (st' := []) rfl (zz_ws (ws' := (wLM z lh lt lb vh lr ph ld lm lf lk 1) ++ (wLot z vh vc vp vl vy vs vo vt vn rY rS rO gs_15 gh9_15 ga9_15 gvd_15 gvb_15 gC_15 gP9_15 gL9_15 gT_15 gN9_15 gY_15 gS9_15 gO_15) ++ (wPlan z ph pa pr pt pd pb fP fR fT)) rfl ?_)
    refine zz_aload_n C 0 dX9_lots_18 rfl rfl ?_
    refine zz_get C 0 (ci := 9) (k := 2) rfl rfl in_X9 (by decide) qw_318 rfl rfl dX9_lots_19 ?_
    refine zz_get C 1 (ci := 5) (k := 3) rfl rfl in_X5 (by decide) qw_222 rfl rfl dX9_lots_22 ?_
    refine zz_iload_n C 1 dX9_lots_25 rfl rfl ?_
    refine zz_iald C 2 rfl (by omega) (by omega) (by decide) dX9_lots_26 ?_
    exact zz_iret C hr dX9_lots_27 ⟨_, 1, gvd_15, gvb_15, gs_15, gh9_15, ga9_15, gC_15, gP9_15, gL9_15, gT_15, gN9_15, gY_15, gS9_15, gO_15, Or.inr ⟨rfl, hlo_15⟩, hu1_15, Or.inl ⟨by omega, ⟨_, _, _, _, hlo_15, rfl⟩⟩, rfl, rfl⟩
  · skip
    refine zz_iconst C dX9_lots_12 ?_
    exact zz_iret C hr dX9_lots_13 ⟨_, lq, vd, vb, vsc, vch, vat, uC, uP, uL, uT, uN, uY, uS, uO, (by rcases hkl with h9 | ⟨h9, h8⟩; exact Or.inl ⟨rfl, h9⟩; exact Or.inr ⟨h9, h8⟩), hu0, Or.inr ⟨by omega, rfl⟩, rfl, rfl⟩
abbrev po_X9_lotsCost (z : zC) (lh : Nat) (lt : Nat) (lb : Nat) (lr : Nat) (ld : Nat) (lm : Int) (lf : Int) (lk : Int) (lq : Int) (vh : Nat) (vc : Nat) (vp : Nat) (vl : Nat) (vy : Nat) (vs : Nat) (vo : Nat) (vt : Nat) (vn : Nat) (rY : Int → Nat) (rS : Int → Nat) (rO : Int → Nat) (vsc : Int) (vch : Int) (vat : Int) (vd : Int) (vb : Int) (uC : Int → Int) (uP : Int → Int) (uL : Int → Int) (uT : Int → Int) (uN : Int → Int) (uY : Int → Int → Int) (uS : Int → Int → Int) (uO : Int → Int → Int) (ph : Nat) (pa : Nat) (pr : Nat) (pt : Nat) (pd : Int) (pb : Int) (fP : Int → Int) (fR : Int → Int) (fT : Int → Int) (w9 : Int) (un : Int) : Option Value → va_W → Prop := fun v w => ∃ (q : Int), ∃ (gk : Int), ∃ (gvd : Int), ∃ (gvb : Int), ∃ (gs : Int), ∃ (gh9 : Int), ∃ (ga9 : Int), ∃ (gC : Int → Int), ∃ (gP9 : Int → Int), ∃ (gL9 : Int → Int), ∃ (gT : Int → Int), ∃ (gN9 : Int → Int), ∃ (gY : Int → Int → Int), ∃ (gS9 : Int → Int → Int), ∃ (gO : Int → Int → Int), (gk = lq ∧ gk = 0 ∨ (gk = 1 ∧ lotOk pd pb fP fR fT gs gh9 ga9 gC)) ∧ (gT 0 = 0) ∧ (((w9 = 0 ∨ w9 = 1) ∧ (∃ sc ch at9 C, lotOk pd pb fP fR fT sc ch at9 C ∧ q = ltm (if w9 = 0 then ch else at9) sc un)) ∨ (¬ (w9 = 0 ∨ w9 = 1) ∧ q = -1)) ∧ v = some (Value.long (iL q)) ∧ w = (wLM z lh lt lb vh lr ph ld lm lf lk gk) ++ (wLot z vh vc vp vl vy vs vo vt vn rY rS rO gs gh9 ga9 gvd gvb gC gP9 gL9 gT gN9 gY gS9 gO) ++ (wPlan z ph pa pr pt pd pb fP fR fT)
abbrev rm_X9_lotsCost : Room := { frames := 11, cells := 0, slots := 0, locals := 286 }
set_option maxHeartbeats 4000000 in
set_option maxRecDepth 100000 in
theorem cc_X9_lotsCost (l : Launch) (z : zC) (lh : Nat) (lt : Nat) (lb : Nat) (lr : Nat) (ld : Nat) (lm : Int) (lf : Int) (lk : Int) (lq : Int) (vh : Nat) (vc : Nat) (vp : Nat) (vl : Nat) (vy : Nat) (vs : Nat) (vo : Nat) (vt : Nat) (vn : Nat) (rY : Int → Nat) (rS : Int → Nat) (rO : Int → Nat) (vsc : Int) (vch : Int) (vat : Int) (vd : Int) (vb : Int) (uC : Int → Int) (uP : Int → Int) (uL : Int → Int) (uT : Int → Int) (uN : Int → Int) (uY : Int → Int → Int) (uS : Int → Int → Int) (uO : Int → Int → Int) (ph : Nat) (pa : Nat) (pr : Nat) (pt : Nat) (pd : Int) (pb : Int) (fP : Int → Int) (fR : Int → Int) (fT : Int → Int) (w9 : Int) (un : Int) (hpd : 1 ≤ pd ∧ pd ≤ 4) (hpb : 0 ≤ pb ∧ pb ≤ 5) (hfP : ∀ i : Int, 0 ≤ fP i ∧ fP i ≤ 200) (hfR : ∀ i : Int, 0 ≤ fR i ∧ fR i ≤ 6) (hfT : ∀ i : Int, 0 ≤ fT i ∧ fT i ≤ 200) (hok : plOk pb fT) (hok2 : plOk2 pb fT) (hkl : lq = 0 ∨ (lq = 1 ∧ lotOk pd pb fP fR fT vsc vch vat uC)) (hu0 : uT 0 = 0) (hw9 : -2147483648 ≤ w9 ∧ w9 < 2147483648) (hun : un = 0 ∨ un = 1) : zzMet l yX9_lotsCost cX9_lotsCost 3 (Option.some .long) rm_X9_lotsCost z [.ref lh, .int (iI w9), .int (iI un)] ((wLM z lh lt lb vh lr ph ld lm lf lk lq) ++ (wLot z vh vc vp vl vy vs vo vt vn rY rS rO vsc vch vat vd vb uC uP uL uT uN uY uS uO) ++ (wPlan z ph pa pr pt pd pb fP fR fT)) (po_X9_lotsCost z lh lt lb lr ld lm lf lk lq vh vc vp vl vy vs vo vt vn rY rS rO vsc vch vat vd vb uC uP uL uT uN uY uS uO ph pa pr pt pd pb fP fR fT w9 un) := by
  refine zzMet.of (own := RX9) (ls0 := [(0, .ref lh), (1, .int (iI w9)), (2, .int (iI un))]) (by decide) rfl (Nat.le_of_ble_eq_true rfl) rfl ?_
  intro p e s m below meth c A C hr hnm
  refine zz_iload_n C 1 dX9_lotsCost_0 rfl rfl ?_
  refine zz_if_eq (tgt := 13) C dX9_lotsCost_1 (by decide) (by unfold rI; omega) (fun c1 => ?_) (fun c1 => ?_)
  · skip
    refine zz_aload_n C 0 dX9_lotsCost_13 rfl rfl ?_
    refine zz_callV (wr := ([] : va_W)) (st := []) C (cc_X9_findLots l z lh lt lb lr ld lm lf lk lq vh vc vp vl vy vs vo vt vn rY rS rO vsc vch vat vd vb uC uP uL uT uN uY uS uO ph pa pr pt pd pb fP fR fT (by omega) (by omega) (by omega) (by omega) (by omega) (by omega) (by omega) hkl (by omega)) yk_X9_findLots qw_752 ⟨by decide, by decide⟩ [0, 1, 2, 3, 4, 5, 6, 7, 8, 9, 10, 11, 12, 13, 14, 15, 16, 17, 18, 19, 20, 21, 22, 23, 24, 25, 26, 27, 28, 29, 30] [] rfl rfl rfl rfl (by decide) 0 9 rfl rfl rfl rfl (Nat.le_of_ble_eq_true rfl) dX9_lotsCost_14 ⟨by decide, by decide⟩ ?_
    rintro _ _ ⟨gvd_14, gvb_14, gs_14, gh9_14, ga9_14, gC_14, gP9_14, gL9_14, gT_14, gN9_14, gY_14, gS9_14, gO_14, hlo_14, hu1_14, rfl, rfl⟩
    refine zz_st (st' := []) rfl (zz_ws (ws' := (wLM z lh lt lb vh lr ph ld lm lf lk 1) ++ (wLot z vh vc vp vl vy vs vo vt vn rY rS rO gs_14 gh9_14 ga9_14 gvd_14 gvb_14 gC_14 gP9_14 gL9_14 gT_14 gN9_14 gY_14 gS9_14 gO_14) ++ (wPlan z ph pa pr pt pd pb fP fR fT)) rfl ?_)
    have hz1 := hlo_14.1
    have hz2 := hlo_14.2.2.2
    refine zz_iload_n C 1 dX9_lotsCost_17 rfl rfl ?_
    refine zz_if_ne (tgt := 31) C dX9_lotsCost_18 (by decide) (by unfold rI; omega) (fun c18 => ?_) (fun c18 => ?_)
    · skip
      refine zz_aload_n C 0 dX9_lotsCost_31 rfl rfl ?_
      refine zz_get C 0 (ci := 9) (k := 2) rfl rfl in_X9 (by decide) qw_318 rfl rfl dX9_lotsCost_32 ?_
      refine zz_get C 1 (ci := 5) (k := 2) rfl rfl in_X5 (by decide) qw_220 rfl rfl dX9_lotsCost_35 ?_
      refine zz_aload_n C 0 dX9_lotsCost_38 rfl rfl ?_
      refine zz_get C 0 (ci := 9) (k := 2) rfl rfl in_X9 (by decide) qw_318 rfl rfl dX9_lotsCost_39 ?_
      refine zz_get C 1 (ci := 5) (k := 0) rfl rfl in_X5 (by decide) qw_216 rfl rfl dX9_lotsCost_42 ?_
      refine zz_iload_n C 2 dX9_lotsCost_45 rfl rfl ?_
      refine zz_callS (wr := (wLM z lh lt lb vh lr ph ld lm lf lk 1) ++ (wLot z vh vc vp vl vy vs vo vt vn rY rS rO gs_14 gh9_14 ga9_14 gvd_14 gvb_14 gC_14 gP9_14 gL9_14 gT_14 gN9_14 gY_14 gS9_14 gO_14) ++ (wPlan z ph pa pr pt pd pb fP fR fT)) (st := []) C (cc_X9_inLeastTerms l z ga9_14 gs_14 un (by omega) (by omega) (by omega)) yk_X9_inLeastTerms qw_715 ⟨by decide, by decide⟩ [] [0, 1, 2, 3, 4, 5, 6, 7, 8, 9, 10, 11, 12, 13, 14, 15, 16, 17, 18, 19, 20, 21, 22, 23, 24, 25, 26, 27, 28, 29, 30] rfl rfl rfl rfl (by decide) rfl rfl (Nat.le_of_ble_eq_true rfl) dX9_lotsCost_46 ⟨by decide, by decide⟩ ?_
      rintro _ _ ⟨rfl, rfl⟩
      refine zz_st (st' := [.long (iL (ltm ga9_14 gs_14 un))]) rfl (zz_ws (ws' := (wLM z lh lt lb vh lr ph ld lm lf lk 1) ++ (wLot z vh vc vp vl vy vs vo vt vn rY rS rO gs_14 gh9_14 ga9_14 gvd_14 gvb_14 gC_14 gP9_14 gL9_14 gT_14 gN9_14 gY_14 gS9_14 gO_14) ++ (wPlan z ph pa pr pt pd pb fP fR fT)) rfl ?_)
      exact zz_lret C hr dX9_lotsCost_49 ⟨_, 1, gvd_14, gvb_14, gs_14, gh9_14, ga9_14, gC_14, gP9_14, gL9_14, gT_14, gN9_14, gY_14, gS9_14, gO_14, Or.inr ⟨rfl, hlo_14⟩, hu1_14, Or.inl ⟨by omega, ⟨_, _, _, _, hlo_14, by first | (exfalso; omega) | rw [if_pos (by omega)] | rw [if_neg (by omega)]⟩⟩, rfl, rfl⟩
    · skip
      refine zz_aload_n C 0 dX9_lotsCost_21 rfl rfl ?_
      refine zz_get C 0 (ci := 9) (k := 2) rfl rfl in_X9 (by decide) qw_318 rfl rfl dX9_lotsCost_22 ?_
      refine zz_get C 1 (ci := 5) (k := 1) rfl rfl in_X5 (by decide) qw_218 rfl rfl dX9_lotsCost_25 ?_
      refine zz_goto (tgt := 38) C dX9_lotsCost_28 (by decide) ?_
      refine zz_aload_n C 0 dX9_lotsCost_38 rfl rfl ?_
      refine zz_get C 0 (ci := 9) (k := 2) rfl rfl in_X9 (by decide) qw_318 rfl rfl dX9_lotsCost_39 ?_
      refine zz_get C 1 (ci := 5) (k := 0) rfl rfl in_X5 (by decide) qw_216 rfl rfl dX9_lotsCost_42 ?_
      refine zz_iload_n C 2 dX9_lotsCost_45 rfl rfl ?_
      refine zz_callS (wr := (wLM z lh lt lb vh lr ph ld lm lf lk 1) ++ (wLot z vh vc vp vl vy vs vo vt vn rY rS rO gs_14 gh9_14 ga9_14 gvd_14 gvb_14 gC_14 gP9_14 gL9_14 gT_14 gN9_14 gY_14 gS9_14 gO_14) ++ (wPlan z ph pa pr pt pd pb fP fR fT)) (st := []) C (cc_X9_inLeastTerms l z gh9_14 gs_14 un (by omega) (by omega) (by omega)) yk_X9_inLeastTerms qw_715 ⟨by decide, by decide⟩ [] [0, 1, 2, 3, 4, 5, 6, 7, 8, 9, 10, 11, 12, 13, 14, 15, 16, 17, 18, 19, 20, 21, 22, 23, 24, 25, 26, 27, 28, 29, 30] rfl rfl rfl rfl (by decide) rfl rfl (Nat.le_of_ble_eq_true rfl) dX9_lotsCost_46 ⟨by decide, by decide⟩ ?_
      rintro _ _ ⟨rfl, rfl⟩
      refine zz_st (st' := [.long (iL (ltm gh9_14 gs_14 un))]) rfl (zz_ws (ws' := (wLM z lh lt lb vh lr ph ld lm lf lk 1) ++ (wLot z vh vc vp vl vy vs vo vt vn rY rS rO gs_14 gh9_14 ga9_14 gvd_14 gvb_14 gC_14 gP9_14 gL9_14 gT_14 gN9_14 gY_14 gS9_14 gO_14) ++ (wPlan z ph pa pr pt pd pb fP fR fT)) rfl ?_)
      exact zz_lret C hr dX9_lotsCost_49 ⟨_, 1, gvd_14, gvb_14, gs_14, gh9_14, ga9_14, gC_14, gP9_14, gL9_14, gT_14, gN9_14, gY_14, gS9_14, gO_14, Or.inr ⟨rfl, hlo_14⟩, hu1_14, Or.inl ⟨by omega, ⟨_, _, _, _, hlo_14, by first | (exfalso; omega) | rw [if_pos (by omega)] | rw [if_neg (by omega)]⟩⟩, rfl, rfl⟩
  · skip
    refine zz_iload_n C 1 dX9_lotsCost_4 rfl rfl ?_
    refine zz_iconst C dX9_lotsCost_5 ?_
    refine zz_icmp_eq (tgt := 13) C dX9_lotsCost_6 (by decide) (by unfold rI; omega) (by unfold rI; omega) (fun c6 => ?_) (fun c6 => ?_)
    · skip
      refine zz_aload_n C 0 dX9_lotsCost_13 rfl rfl ?_
      refine zz_callV (wr := ([] : va_W)) (st := []) C (cc_X9_findLots l z lh lt lb lr ld lm lf lk lq vh vc vp vl vy vs vo vt vn rY rS rO vsc vch vat vd vb uC uP uL uT uN uY uS uO ph pa pr pt pd pb fP fR fT (by omega) (by omega) (by omega) (by omega) (by omega) (by omega) (by omega) hkl (by omega)) yk_X9_findLots qw_752 ⟨by decide, by decide⟩ [0, 1, 2, 3, 4, 5, 6, 7, 8, 9, 10, 11, 12, 13, 14, 15, 16, 17, 18, 19, 20, 21, 22, 23, 24, 25, 26, 27, 28, 29, 30] [] rfl rfl rfl rfl (by decide) 0 9 rfl rfl rfl rfl (Nat.le_of_ble_eq_true rfl) dX9_lotsCost_14 ⟨by decide, by decide⟩ ?_
      rintro _ _ ⟨gvd_14, gvb_14, gs_14, gh9_14, ga9_14, gC_14, gP9_14, gL9_14, gT_14, gN9_14, gY_14, gS9_14, gO_14, hlo_14, hu1_14, rfl, rfl⟩
      refine zz_st (st' := []) rfl (zz_ws (ws' := (wLM z lh lt lb vh lr ph ld lm lf lk 1) ++ (wLot z vh vc vp vl vy vs vo vt vn rY rS rO gs_14 gh9_14 ga9_14 gvd_14 gvb_14 gC_14 gP9_14 gL9_14 gT_14 gN9_14 gY_14 gS9_14 gO_14) ++ (wPlan z ph pa pr pt pd pb fP fR fT)) rfl ?_)
      have hz1 := hlo_14.1
      have hz2 := hlo_14.2.2.2
      refine zz_iload_n C 1 dX9_lotsCost_17 rfl rfl ?_
      refine zz_if_ne (tgt := 31) C dX9_lotsCost_18 (by decide) (by unfold rI; omega) (fun c18 => ?_) (fun c18 => ?_)
      · skip
        refine zz_aload_n C 0 dX9_lotsCost_31 rfl rfl ?_
        refine zz_get C 0 (ci := 9) (k := 2) rfl rfl in_X9 (by decide) qw_318 rfl rfl dX9_lotsCost_32 ?_
        refine zz_get C 1 (ci := 5) (k := 2) rfl rfl in_X5 (by decide) qw_220 rfl rfl dX9_lotsCost_35 ?_
        refine zz_aload_n C 0 dX9_lotsCost_38 rfl rfl ?_
        refine zz_get C 0 (ci := 9) (k := 2) rfl rfl in_X9 (by decide) qw_318 rfl rfl dX9_lotsCost_39 ?_
        refine zz_get C 1 (ci := 5) (k := 0) rfl rfl in_X5 (by decide) qw_216 rfl rfl dX9_lotsCost_42 ?_
        refine zz_iload_n C 2 dX9_lotsCost_45 rfl rfl ?_
        refine zz_callS (wr := (wLM z lh lt lb vh lr ph ld lm lf lk 1) ++ (wLot z vh vc vp vl vy vs vo vt vn rY rS rO gs_14 gh9_14 ga9_14 gvd_14 gvb_14 gC_14 gP9_14 gL9_14 gT_14 gN9_14 gY_14 gS9_14 gO_14) ++ (wPlan z ph pa pr pt pd pb fP fR fT)) (st := []) C (cc_X9_inLeastTerms l z ga9_14 gs_14 un (by omega) (by omega) (by omega)) yk_X9_inLeastTerms qw_715 ⟨by decide, by decide⟩ [] [0, 1, 2, 3, 4, 5, 6, 7, 8, 9, 10, 11, 12, 13, 14, 15, 16, 17, 18, 19, 20, 21, 22, 23, 24, 25, 26, 27, 28, 29, 30] rfl rfl rfl rfl (by decide) rfl rfl (Nat.le_of_ble_eq_true rfl) dX9_lotsCost_46 ⟨by decide, by decide⟩ ?_
        rintro _ _ ⟨rfl, rfl⟩
        refine zz_st (st' := [.long (iL (ltm ga9_14 gs_14 un))]) rfl (zz_ws (ws' := (wLM z lh lt lb vh lr ph ld lm lf lk 1) ++ (wLot z vh vc vp vl vy vs vo vt vn rY rS rO gs_14 gh9_14 ga9_14 gvd_14 gvb_14 gC_14 gP9_14 gL9_14 gT_14 gN9_14 gY_14 gS9_14 gO_14) ++ (wPlan z ph pa pr pt pd pb fP fR fT)) rfl ?_)
        exact zz_lret C hr dX9_lotsCost_49 ⟨_, 1, gvd_14, gvb_14, gs_14, gh9_14, ga9_14, gC_14, gP9_14, gL9_14, gT_14, gN9_14, gY_14, gS9_14, gO_14, Or.inr ⟨rfl, hlo_14⟩, hu1_14, Or.inl ⟨by omega, ⟨_, _, _, _, hlo_14, by first | (exfalso; omega) | rw [if_pos (by omega)] | rw [if_neg (by omega)]⟩⟩, rfl, rfl⟩
      · skip
        refine zz_aload_n C 0 dX9_lotsCost_21 rfl rfl ?_
        refine zz_get C 0 (ci := 9) (k := 2) rfl rfl in_X9 (by decide) qw_318 rfl rfl dX9_lotsCost_22 ?_
        refine zz_get C 1 (ci := 5) (k := 1) rfl rfl in_X5 (by decide) qw_218 rfl rfl dX9_lotsCost_25 ?_
        refine zz_goto (tgt := 38) C dX9_lotsCost_28 (by decide) ?_
        refine zz_aload_n C 0 dX9_lotsCost_38 rfl rfl ?_
        refine zz_get C 0 (ci := 9) (k := 2) rfl rfl in_X9 (by decide) qw_318 rfl rfl dX9_lotsCost_39 ?_
        refine zz_get C 1 (ci := 5) (k := 0) rfl rfl in_X5 (by decide) qw_216 rfl rfl dX9_lotsCost_42 ?_
        refine zz_iload_n C 2 dX9_lotsCost_45 rfl rfl ?_
        refine zz_callS (wr := (wLM z lh lt lb vh lr ph ld lm lf lk 1) ++ (wLot z vh vc vp vl vy vs vo vt vn rY rS rO gs_14 gh9_14 ga9_14 gvd_14 gvb_14 gC_14 gP9_14 gL9_14 gT_14 gN9_14 gY_14 gS9_14 gO_14) ++ (wPlan z ph pa pr pt pd pb fP fR fT)) (st := []) C (cc_X9_inLeastTerms l z gh9_14 gs_14 un (by omega) (by omega) (by omega)) yk_X9_inLeastTerms qw_715 ⟨by decide, by decide⟩ [] [0, 1, 2, 3, 4, 5, 6, 7, 8, 9, 10, 11, 12, 13, 14, 15, 16, 17, 18, 19, 20, 21, 22, 23, 24, 25, 26, 27, 28, 29, 30] rfl rfl rfl rfl (by decide) rfl rfl (Nat.le_of_ble_eq_true rfl) dX9_lotsCost_46 ⟨by decide, by decide⟩ ?_
        rintro _ _ ⟨rfl, rfl⟩
        refine zz_st (st' := [.long (iL (ltm gh9_14 gs_14 un))]) rfl (zz_ws (ws' := (wLM z lh lt lb vh lr ph ld lm lf lk 1) ++ (wLot z vh vc vp vl vy vs vo vt vn rY rS rO gs_14 gh9_14 ga9_14 gvd_14 gvb_14 gC_14 gP9_14 gL9_14 gT_14 gN9_14 gY_14 gS9_14 gO_14) ++ (wPlan z ph pa pr pt pd pb fP fR fT)) rfl ?_)
        exact zz_lret C hr dX9_lotsCost_49 ⟨_, 1, gvd_14, gvb_14, gs_14, gh9_14, ga9_14, gC_14, gP9_14, gL9_14, gT_14, gN9_14, gY_14, gS9_14, gO_14, Or.inr ⟨rfl, hlo_14⟩, hu1_14, Or.inl ⟨by omega, ⟨_, _, _, _, hlo_14, by first | (exfalso; omega) | rw [if_pos (by omega)] | rw [if_neg (by omega)]⟩⟩, rfl, rfl⟩
    · skip
      refine zz_ldc2 (a := (-1)) C qw_725 (by decide +kernel) dX9_lotsCost_9 ?_
      exact zz_lret C hr dX9_lotsCost_12 ⟨_, lq, vd, vb, vsc, vch, vat, uC, uP, uL, uT, uN, uY, uS, uO, (by rcases hkl with h9 | ⟨h9, h8⟩; exact Or.inl ⟨rfl, h9⟩; exact Or.inr ⟨h9, h8⟩), hu0, Or.inr ⟨by omega, rfl⟩, rfl, rfl⟩
abbrev po_X9_take (z : zC) (lh : Nat) (lt : Nat) (lb : Nat) (lr : Nat) (ld : Nat) (lm : Int) (lf : Int) (lk : Int) (lq : Int) (vh : Nat) (vc : Nat) (vp : Nat) (vl : Nat) (vy : Nat) (vs : Nat) (vo : Nat) (vt : Nat) (vn : Nat) (rY : Int → Nat) (rS : Int → Nat) (rO : Int → Nat) (vsc : Int) (vch : Int) (vat : Int) (vd : Int) (vb : Int) (uC : Int → Int) (uP : Int → Int) (uL : Int → Int) (uT : Int → Int) (uN : Int → Int) (uY : Int → Int → Int) (uS : Int → Int → Int) (uO : Int → Int → Int) (ph : Nat) (pa : Nat) (pr : Nat) (pt : Nat) (pd : Int) (pb : Int) (fP : Int → Int) (fR : Int → Int) (fT : Int → Int) : Option Value → va_W → Prop := fun v w => ∃ (q : Int), ∃ (gF : Int → Int), ∃ (gvd : Int), ∃ (gvb : Int), ∃ (gs : Int), ∃ (gh9 : Int), ∃ (ga9 : Int), ∃ (gC : Int → Int), ∃ (gP9 : Int → Int), ∃ (gL9 : Int → Int), ∃ (gT : Int → Int), ∃ (gN9 : Int → Int), ∃ (gY : Int → Int → Int), ∃ (gS9 : Int → Int → Int), ∃ (gO : Int → Int → Int), (lotOk pd pb fP fR fT gs gh9 ga9 gC) ∧ (gT 0 = 0) ∧ (q = (ga9 + gs - 1) / gs) ∧ (∀ i : Int, gF i = plTake pb fT gC i) ∧ v = some (Value.int (iI q)) ∧ w = (wLM z lh lt lb vh lr ph ld q lf lk 1) ++ (wLot z vh vc vp vl vy vs vo vt vn rY rS rO gs gh9 ga9 gvd gvb gC gP9 gL9 gT gN9 gY gS9 gO) ++ (wPlan z ph pa pr pt pd pb fP fR gF)
abbrev rm_X9_take : Room := { frames := 11, cells := 0, slots := 0, locals := 286 }
set_option maxHeartbeats 4000000 in
set_option maxRecDepth 100000 in
theorem cc_X9_take (l : Launch) (z : zC) (lh : Nat) (lt : Nat) (lb : Nat) (lr : Nat) (ld : Nat) (lm : Int) (lf : Int) (lk : Int) (lq : Int) (vh : Nat) (vc : Nat) (vp : Nat) (vl : Nat) (vy : Nat) (vs : Nat) (vo : Nat) (vt : Nat) (vn : Nat) (rY : Int → Nat) (rS : Int → Nat) (rO : Int → Nat) (vsc : Int) (vch : Int) (vat : Int) (vd : Int) (vb : Int) (uC : Int → Int) (uP : Int → Int) (uL : Int → Int) (uT : Int → Int) (uN : Int → Int) (uY : Int → Int → Int) (uS : Int → Int → Int) (uO : Int → Int → Int) (ph : Nat) (pa : Nat) (pr : Nat) (pt : Nat) (pd : Int) (pb : Int) (fP : Int → Int) (fR : Int → Int) (fT : Int → Int) (hpd : 1 ≤ pd ∧ pd ≤ 4) (hpb : 0 ≤ pb ∧ pb ≤ 5) (hfP : ∀ i : Int, 0 ≤ fP i ∧ fP i ≤ 200) (hfR : ∀ i : Int, 0 ≤ fR i ∧ fR i ≤ 6) (hfT : ∀ i : Int, 0 ≤ fT i ∧ fT i ≤ 200) (hok : plOk pb fT) (hok2 : plOk2 pb fT) (hkl : lq = 0 ∨ (lq = 1 ∧ lotOk pd pb fP fR fT vsc vch vat uC)) (hu0 : uT 0 = 0) : zzMet l yX9_take cX9_take 2 (Option.some .int) rm_X9_take z [.ref lh] ((wLM z lh lt lb vh lr ph ld lm lf lk lq) ++ (wLot z vh vc vp vl vy vs vo vt vn rY rS rO vsc vch vat vd vb uC uP uL uT uN uY uS uO) ++ (wPlan z ph pa pr pt pd pb fP fR fT)) (po_X9_take z lh lt lb lr ld lm lf lk lq vh vc vp vl vy vs vo vt vn rY rS rO vsc vch vat vd vb uC uP uL uT uN uY uS uO ph pa pr pt pd pb fP fR fT) := by
  refine zzMet.of (own := RX9) (ls0 := [(0, .ref lh)]) (by decide) rfl (Nat.le_of_ble_eq_true rfl) rfl ?_
  intro p e s m below meth c A C hr hnm
  refine zz_aload_n C 0 dX9_take_0 rfl rfl ?_
  refine zz_callV (wr := ([] : va_W)) (st := []) C (cc_X9_findLots l z lh lt lb lr ld lm lf lk lq vh vc vp vl vy vs vo vt vn rY rS rO vsc vch vat vd vb uC uP uL uT uN uY uS uO ph pa pr pt pd pb fP fR fT (by omega) (by omega) (by omega) (by omega) (by omega) (by omega) (by omega) hkl (by omega)) yk_X9_findLots qw_752 ⟨by decide, by decide⟩ [0, 1, 2, 3, 4, 5, 6, 7, 8, 9, 10, 11, 12, 13, 14, 15, 16, 17, 18, 19, 20, 21, 22, 23, 24, 25, 26, 27, 28, 29, 30] [] rfl rfl rfl rfl (by decide) 0 9 rfl rfl rfl rfl (Nat.le_of_ble_eq_true rfl) dX9_take_1 ⟨by decide, by decide⟩ ?_
  rintro _ _ ⟨gvd_1, gvb_1, gs_1, gh9_1, ga9_1, gC_1, gP9_1, gL9_1, gT_1, gN9_1, gY_1, gS9_1, gO_1, hlo_1, hu1_1, rfl, rfl⟩
  refine zz_st (st' := []) rfl (zz_ws (ws' := (wLM z lh lt lb vh lr ph ld lm lf lk 1) ++ (wLot z vh vc vp vl vy vs vo vt vn rY rS rO gs_1 gh9_1 ga9_1 gvd_1 gvb_1 gC_1 gP9_1 gL9_1 gT_1 gN9_1 gY_1 gS9_1 gO_1) ++ (wPlan z ph pa pr pt pd pb fP fR fT)) rfl ?_)
  have hz1 := hlo_1.1
  have hz2 := hlo_1.2.2.2
  have hz3 := hlo_1.2.1.1
  refine zz_iconst C dX9_take_4 ?_
  refine zz_istore_n (ls' := [(1, .int (iI 0)), (0, .ref lh)]) C dX9_take_5 rfl (by decide) rfl ?_
  have Lp6 : ∀ (fu9 : Nat) (k : Int) (gF : Int → Int), (0 ≤ k ∧ k ≤ pb) → (∀ i : Int, gF i = plTake k fT gC_1 i) → (pb - k).toNat < fu9 → zzW p l e rm_X9_take s m ([.ref lh] : List Value).toArray below meth c z A 2 (MQ below (zQ z A (po_X9_take z lh lt lb lr ld lm lf lk lq vh vc vp vl vy vs vo vt vn rY rS rO vsc vch vat vd vb uC uP uL uT uN uY uS uO ph pa pr pt pd pb fP fR fT)) ([.ref lh] : List Value).toArray s 0 0 A) 0 0 ((wLM z lh lt lb vh lr ph ld lm lf lk 1) ++ (wLot z vh vc vp vl vy vs vo vt vn rY rS rO gs_1 gh9_1 ga9_1 gvd_1 gvb_1 gC_1 gP9_1 gL9_1 gT_1 gN9_1 gY_1 gS9_1 gO_1) ++ (wPlan z ph pa pr pt pd pb fP fR gF)) [(0, .ref lh), (1, .int (iI k))] [] 6 := by
    intro fu9
    induction fu9 with
    | zero => intro k gF hk hF h9; exact absurd h9 (Nat.not_lt_zero _)
    | succ fu9 ih6 =>
      intro k gF hk hF hm6
      refine zz_iload_n C 1 dX9_take_6 rfl rfl ?_
      refine zz_aload_n C 0 dX9_take_7 rfl rfl ?_
      refine zz_get C 0 (ci := 9) (k := 4) rfl rfl in_X9 (by decide) qw_320 rfl rfl dX9_take_8 ?_
      refine zz_get C 27 (ci := 6) (k := 1) rfl rfl in_X6 (by decide) qw_301 rfl rfl dX9_take_11 ?_
      refine zz_icmp_ge (tgt := 42) C dX9_take_14 (by decide) (by unfold rI; omega) (by unfold rI; omega) (fun c14 => ?_) (fun c14 => ?_)
      · skip
        refine zz_aload_n C 0 dX9_take_42 rfl rfl ?_
        refine zz_aload_n C 0 dX9_take_43 rfl rfl ?_
        refine zz_get C 0 (ci := 9) (k := 2) rfl rfl in_X9 (by decide) qw_318 rfl rfl dX9_take_44 ?_
        refine zz_callV (wr := (wLM z lh lt lb vh lr ph ld lm lf lk 1) ++ (wPlan z ph pa pr pt pd pb fP fR gF)) (st := [.ref lh]) C (cc_X5_atFirstRoundedUp l z vh vc vp vl vy vs vo vt vn rY rS rO gs_1 gh9_1 ga9_1 gvd_1 gvb_1 gC_1 gP9_1 gL9_1 gT_1 gN9_1 gY_1 gS9_1 gO_1 (by omega) (by omega)) yk_X5_atFirstRoundedUp qw_809 ⟨by decide, by decide⟩ [1, 2, 3, 4, 5, 6, 7, 8, 9, 10, 11, 12, 13, 14, 15, 16, 17, 18, 19, 20, 21, 22, 23, 24, 25, 26] [0, 27, 28, 29, 30] rfl rfl rfl rfl (by decide) 0 5 rfl rfl rfl rfl (Nat.le_of_ble_eq_true rfl) dX9_take_47 ⟨by decide, by decide⟩ ?_
        rintro _ _ ⟨rfl, rfl⟩
        refine zz_st (st' := [.int (iI ((ga9_1 + gs_1 - 1) / gs_1)), .ref lh]) rfl (zz_ws (ws' := (wLM z lh lt lb vh lr ph ld lm lf lk 1) ++ (wPlan z ph pa pr pt pd pb fP fR gF) ++ (wLot z vh vc vp vl vy vs vo vt vn rY rS rO gs_1 gh9_1 ga9_1 gvd_1 gvb_1 gC_1 gP9_1 gL9_1 gT_1 gN9_1 gY_1 gS9_1 gO_1)) rfl ?_)
        have hc9 := up_ceil hz1.2.1 hz2.2
        refine zz_put (ty := .int) (ws' := (wLM z lh lt lb vh lr ph ld ((ga9_1 + gs_1 - 1) / gs_1) lf lk 1) ++ (wPlan z ph pa pr pt pd pb fP fR gF) ++ (wLot z vh vc vp vl vy vs vo vt vn rY rS rO gs_1 gh9_1 ga9_1 gvd_1 gvb_1 gC_1 gP9_1 gL9_1 gT_1 gN9_1 gY_1 gS9_1 gO_1)) C 0 (ci := 9) (k := 6) rfl rfl in_X9 tyX9 tyX9_ok nmX9 (by decide) qw_322 rfl rfl (by decide +kernel) rfl rfl (Nat.le_of_ble_eq_true rfl) rfl dX9_take_50 ?_
        refine zz_aload_n C 0 dX9_take_53 rfl rfl ?_
        refine zz_get C 0 (ci := 9) (k := 6) rfl rfl in_X9 (by decide) qw_322 rfl rfl dX9_take_54 ?_
        refine zz_sub (ws' := (wLM z lh lt lb vh lr ph ld ((ga9_1 + gs_1 - 1) / gs_1) lf lk 1) ++ (wLot z vh vc vp vl vy vs vo vt vn rY rS rO gs_1 gh9_1 ga9_1 gvd_1 gvb_1 gC_1 gP9_1 gL9_1 gT_1 gN9_1 gY_1 gS9_1 gO_1) ++ (wPlan z ph pa pr pt pd pb fP fR gF)) [0, 5, 6, 7, 8, 9, 10, 11, 12, 13, 14, 15, 16, 17, 18, 19, 20, 21, 22, 23, 24, 25, 26, 27, 28, 29, 30, 1, 2, 3, 4] rfl rfl ?_
        exact zz_iret C hr dX9_take_57 ⟨_, gF, gvd_1, gvb_1, gs_1, gh9_1, ga9_1, gC_1, gP9_1, gL9_1, gT_1, gN9_1, gY_1, gS9_1, gO_1, hlo_1, hu1_1, rfl, by rw [show k = pb by omega] at hF; exact hF, rfl, rfl⟩
      · skip
        refine zz_aload_n C 0 dX9_take_17 rfl rfl ?_
        refine zz_get C 0 (ci := 9) (k := 4) rfl rfl in_X9 (by decide) qw_320 rfl rfl dX9_take_18 ?_
        refine zz_iload_n C 1 dX9_take_21 rfl rfl ?_
        refine zz_bipush C dX9_take_22 (by decide +kernel) ?_
        refine zz_aload_n C 0 dX9_take_24 rfl rfl ?_
        refine zz_get C 0 (ci := 9) (k := 2) rfl rfl in_X9 (by decide) qw_318 rfl rfl dX9_take_25 ?_
        refine zz_get C 1 (ci := 5) (k := 3) rfl rfl in_X5 (by decide) qw_222 rfl rfl dX9_take_28 ?_
        refine zz_iload_n C 1 dX9_take_31 rfl rfl ?_
        refine zz_iald C 2 rfl (by omega) (by omega) (by decide) dX9_take_32 ?_
        refine zz_callV (wr := (wLM z lh lt lb vh lr ph ld lm lf lk 1) ++ (wLot z vh vc vp vl vy vs vo vt vn rY rS rO gs_1 gh9_1 ga9_1 gvd_1 gvb_1 gC_1 gP9_1 gL9_1 gT_1 gN9_1 gY_1 gS9_1 gO_1)) (st := []) C (cc_X6_setTerm l z ph pa pr pt pd pb fP fR gF k 6 (gC_1 k) (by omega) (by omega) (by omega)) yk_X6_setTerm qw_416 ⟨by decide, by decide⟩ [27, 28, 29, 30] [0, 1, 2, 3, 4, 5, 6, 7, 8, 9, 10, 11, 12, 13, 14, 15, 16, 17, 18, 19, 20, 21, 22, 23, 24, 25, 26] rfl rfl rfl rfl (by decide) 0 6 rfl rfl rfl rfl (Nat.le_of_ble_eq_true rfl) dX9_take_33 ⟨by decide, by decide⟩ ?_
        rintro _ _ ⟨rfl, rfl⟩
        refine zz_st (st' := []) rfl (zz_ws (ws' := (wLM z lh lt lb vh lr ph ld lm lf lk 1) ++ (wLot z vh vc vp vl vy vs vo vt vn rY rS rO gs_1 gh9_1 ga9_1 gvd_1 gvb_1 gC_1 gP9_1 gL9_1 gT_1 gN9_1 gY_1 gS9_1 gO_1) ++ (wPlan z ph pa pr pt pd pb fP fR (zup gF (k * 7 + 6) (gC_1 k)))) rfl ?_)
        refine zz_iinc (ls' := [(1, .int (iI (k + 1))), (0, .ref lh)]) C 1 dX9_take_36 rfl (by decide) rfl ?_
        refine zz_goto (tgt := 6) C dX9_take_39 (by decide) ?_
        refine zz_loc (ls' := [(0, .ref lh), (1, .int (iI (k + 1)))]) [1, 0] rfl ?_
        exact ih6 (k + 1) (zup gF (k * 7 + 6) (gC_1 k)) (by omega) (take_step hF hk.1) (by omega)
  refine zz_loc (ls' := [(0, .ref lh), (1, .int (iI 0))]) [1, 0] rfl ?_
  exact Lp6 _ 0 fT (by omega) (fun i => by unfold plTake; rw [if_neg (by omega)]) (Nat.lt_succ_self _)
