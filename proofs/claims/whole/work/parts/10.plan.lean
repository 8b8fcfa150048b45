def plGreat (pd pb role : Int) : Int := if role = 1 then pd else if role = 4 then pb - 1 else if role < 0 ∨ 11 ≤ role then -1 else zGREATEST role.toNat
def plFits (pd pb role v : Int) : Prop := 0 ≤ role ∧ role < 11 ∧ zLEAST role.toNat ≤ v ∧ v ≤ plGreat pd pb role
def plTerm (pb : Int) (fT : Int → Int) (bond what : Int) : Int := if 0 ≤ bond ∧ bond < pb ∧ 0 ≤ what ∧ what < 7 then fT (bond * 7 + what) else 0
def plLast (pb : Int) (fT : Int → Int) (bond : Int) : Int := if 0 < plTerm pb fT bond 5 then plTerm pb fT bond 5 else plTerm pb fT bond 2
def plYield (pb : Int) (fT : Int → Int) (bond date : Int) : Int := if date < 1 ∨ plLast pb fT bond < date then 0 else plTerm pb fT bond 0 + (if date = plLast pb fT bond then plTerm pb fT bond 1 else 0)
def plAt (pd : Int) (fP : Int → Int) (date : Int) : Int := if 1 ≤ date ∧ date ≤ pd then fP date else 0
theorem plTerm_rng (pb : Int) {fT : Int → Int} (h : ∀ i : Int, 0 ≤ fT i ∧ fT i ≤ 200) (bond what : Int) : 0 ≤ plTerm pb fT bond what ∧ plTerm pb fT bond what ≤ 200 := by
  unfold plTerm
  split
  · exact h _
  · omega
theorem plLast_rng (pb : Int) {fT : Int → Int} (h : ∀ i : Int, 0 ≤ fT i ∧ fT i ≤ 200) (bond : Int) : 0 ≤ plLast pb fT bond ∧ plLast pb fT bond ≤ 200 := by
  unfold plLast
  split
  · exact plTerm_rng pb h _ _
  · exact plTerm_rng pb h _ _
theorem zLEAST_rng (j : Nat) : 0 ≤ zLEAST j ∧ zLEAST j ≤ 1 := by
  by_cases h : j < 11
  · have : ∀ j : Fin 11, 0 ≤ zLEAST j ∧ zLEAST j ≤ 1 := by decide +kernel
    exact this ⟨j, h⟩
  · unfold zLEAST
    rw [List.getD_eq_getElem?_getD, List.getElem?_eq_none (by simp; omega)]
    constructor <;> decide
theorem zGREATEST_rng (j : Nat) : 0 ≤ zGREATEST j ∧ zGREATEST j ≤ 9999 := by
  by_cases h : j < 11
  · have : ∀ j : Fin 11, 0 ≤ zGREATEST j ∧ zGREATEST j ≤ 9999 := by decide +kernel
    exact this ⟨j, h⟩
  · unfold zGREATEST
    rw [List.getD_eq_getElem?_getD, List.getElem?_eq_none (by simp; omega)]
    constructor <;> decide
theorem plGreat_rng {pd pb : Int} (h1 : 1 ≤ pd ∧ pd ≤ 4) (h2 : 0 ≤ pb ∧ pb ≤ 5) (role : Int) : -1 ≤ plGreat pd pb role ∧ plGreat pd pb role ≤ 9999 := by
  unfold plGreat
  have := zGREATEST_rng role.toNat
  repeat' split
  all_goals omega
theorem zz_fill {f g : Int → Int} {k : Int} (h : ∀ i : Int, g i = if 0 ≤ i ∧ i < k then 0 else f i) (hk : 0 ≤ k) (i : Int) : zup g k 0 i = if 0 ≤ i ∧ i < k + 1 then 0 else f i := by
  unfold zup
  by_cases e : i = k
  · subst e
    rw [if_pos rfl, if_pos ⟨hk, by omega⟩]
  · rw [if_neg e, h i]
    by_cases q : 0 ≤ i ∧ i < k
    · rw [if_pos q, if_pos ⟨q.1, by omega⟩]
    · rw [if_neg q, if_neg (by omega)]
theorem zz_shift {f g : Int → Int} {lo k : Int} (h : ∀ i : Int, g i = if lo ≤ i ∧ i < k then f (i + 7) else f i) (hk : lo ≤ k) (i : Int) : zup g k (g (k + 7)) i = if lo ≤ i ∧ i < k + 1 then f (i + 7) else f i := by
  unfold zup
  by_cases e : i = k
  · subst e
    rw [if_pos rfl, if_pos ⟨hk, by omega⟩, h, if_neg (by omega)]
  · rw [if_neg e, h i]
    by_cases q : lo ≤ i ∧ i < k
    · rw [if_pos q, if_pos ⟨q.1, by omega⟩]
    · rw [if_neg q, if_neg (by omega)]

abbrev po_X6_greatest (z : zC) (ph : Nat) (pa : Nat) (pr : Nat) (pt : Nat) (pd : Int) (pb : Int) (fP : Int → Int) (fR : Int → Int) (fT : Int → Int) (role : Int) : Option Value → va_W → Prop := fun v w => v = some (Value.int (iI (plGreat pd pb role))) ∧ w = wPlan z ph pa pr pt pd pb fP fR fT
abbrev rm_X6_greatest : Room := { frames := 1, cells := 0, slots := 0, locals := 40 }
set_option maxHeartbeats 4000000 in
set_option maxRecDepth 100000 in
theorem cc_X6_greatest (l : Launch) (z : zC) (ph : Nat) (pa : Nat) (pr : Nat) (pt : Nat) (pd : Int) (pb : Int) (fP : Int → Int) (fR : Int → Int) (fT : Int → Int) (role : Int) (hpd : 1 ≤ pd ∧ pd ≤ 4) (hpb : 0 ≤ pb ∧ pb ≤ 5) (hro : -2147483648 ≤ role ∧ role < 2147483648) : zzMet l yX6_greatest cX6_greatest 2 (Option.some .int) rm_X6_greatest z [.ref ph, .int (iI role)] (wPlan z ph pa pr pt pd pb fP fR fT) (po_X6_greatest z ph pa pr pt pd pb fP fR fT role) := by
  refine zzMet.of (own := RX6) (ls0 := [(0, .ref ph), (1, .int (iI role))]) (by decide) rfl (Nat.le_of_ble_eq_true rfl) rfl ?_
  intro p e s m below meth c A C hr hnm
  refine zz_iload_n C 1 dX6_greatest_0 rfl rfl ?_
  refine zz_iconst C dX6_greatest_1 ?_
  refine zz_icmp_ne (tgt := 10) C dX6_greatest_2 (by decide) (by unfold rI; omega) (by unfold rI; omega) (fun c2 => ?_) (fun c2 => ?_)
  · skip
    refine zz_iload_n C 1 dX6_greatest_10 rfl rfl ?_
    refine zz_iconst C dX6_greatest_11 ?_
    refine zz_icmp_ne (tgt := 22) C dX6_greatest_12 (by decide) (by unfold rI; omega) (by unfold rI; omega) (fun c12 => ?_) (fun c12 => ?_)
    · skip
      refine zz_iload_n C 1 dX6_greatest_22 rfl rfl ?_
      refine zz_if_lt (tgt := 34) C dX6_greatest_23 (by decide) (by unfold rI; omega) (fun c23 => ?_) (fun c23 => ?_)
      · skip
        refine zz_iconst C dX6_greatest_34 ?_
        refine zz_goto (tgt := 43) C dX6_greatest_35 (by decide) ?_
        exact zz_iret C hr dX6_greatest_43 ⟨zz_vI (by unfold plGreat; (repeat' split) <;> omega), rfl⟩
      · skip
        refine zz_iload_n C 1 dX6_greatest_26 rfl rfl ?_
        refine zz_sgetN C C.2.2.2.1.2.1 (List.mem_of_getElem? (i := 1) rfl) rfl dX6_greatest_27 ?_
        refine zz_slen C C.2.2.2.1.2.1 dX6_greatest_30 ?_
        refine zz_icmp_lt (tgt := 38) C dX6_greatest_31 (by decide) (by unfold rI; omega) (by unfold rI; omega) (fun c31 => ?_) (fun c31 => ?_)
        · skip
          refine zz_sgetN C C.2.2.2.1.2.1 (List.mem_of_getElem? (i := 1) rfl) rfl dX6_greatest_38 ?_
          refine zz_iload_n C 1 dX6_greatest_41 rfl rfl ?_
          refine zz_sald C C.2.2.2.1.2.1 (by omega) (by omega) (by decide) dX6_greatest_42 ?_
          exact zz_iret C hr dX6_greatest_43 ⟨zz_vI (by unfold plGreat; (repeat' split) <;> omega), rfl⟩
        · skip
          refine zz_iconst C dX6_greatest_34 ?_
          refine zz_goto (tgt := 43) C dX6_greatest_35 (by decide) ?_
          exact zz_iret C hr dX6_greatest_43 ⟨zz_vI (by unfold plGreat; (repeat' split) <;> omega), rfl⟩
    · skip
      refine zz_aload_n C 0 dX6_greatest_15 rfl rfl ?_
      refine zz_get C 0 (ci := 6) (k := 1) rfl rfl in_X6 (by decide) qw_297 rfl rfl dX6_greatest_16 ?_
      refine zz_iconst C dX6_greatest_19 ?_
      refine zz_isub C dX6_greatest_20 ?_
      exact zz_iret C hr dX6_greatest_21 ⟨zz_vI (by unfold plGreat; (repeat' split) <;> omega), rfl⟩
  · skip
    refine zz_aload_n C 0 dX6_greatest_5 rfl rfl ?_
    refine zz_get C 0 (ci := 6) (k := 0) rfl rfl in_X6 (by decide) qw_292 rfl rfl dX6_greatest_6 ?_
    exact zz_iret C hr dX6_greatest_9 ⟨zz_vI (by unfold plGreat; (repeat' split) <;> omega), rfl⟩
abbrev po_X6_fits (z : zC) (ph : Nat) (pa : Nat) (pr : Nat) (pt : Nat) (pd : Int) (pb : Int) (fP : Int → Int) (fR : Int → Int) (fT : Int → Int) (role : Int) (v9 : Int) : Option Value → va_W → Prop := fun v w => ∃ (q : Int), ((q = 1 ∧ plFits pd pb role v9) ∨ (q = 0 ∧ ¬ plFits pd pb role v9)) ∧ v = some (Value.int (iI q)) ∧ w = wPlan z ph pa pr pt pd pb fP fR fT
abbrev rm_X6_fits : Room := { frames := 2, cells := 0, slots := 0, locals := 61 }
set_option maxHeartbeats 4000000 in
set_option maxRecDepth 100000 in
theorem cc_X6_fits (l : Launch) (z : zC) (ph : Nat) (pa : Nat) (pr : Nat) (pt : Nat) (pd : Int) (pb : Int) (fP : Int → Int) (fR : Int → Int) (fT : Int → Int) (role : Int) (v9 : Int) (hpd : 1 ≤ pd ∧ pd ≤ 4) (hpb : 0 ≤ pb ∧ pb ≤ 5) (hro : -2147483648 ≤ role ∧ role < 2147483648) (hv : -2147483648 ≤ v9 ∧ v9 < 2147483648) : zzMet l yX6_fits cX6_fits 3 (Option.some .boolean) rm_X6_fits z [.ref ph, .int (iI role), .int (iI v9)] (wPlan z ph pa pr pt pd pb fP fR fT) (po_X6_fits z ph pa pr pt pd pb fP fR fT role v9) := by
  refine zzMet.of (own := RX6) (ls0 := [(0, .ref ph), (1, .int (iI role)), (2, .int (iI v9))]) (by decide) rfl (Nat.le_of_ble_eq_true rfl) rfl ?_
  intro p e s m below meth c A C hr hnm
  refine zz_iload_n C 1 dX6_fits_0 rfl rfl ?_
  refine zz_if_lt (tgt := 20) C dX6_fits_1 (by decide) (by unfold rI; omega) (fun c1 => ?_) (fun c1 => ?_)
  · skip
    refine zz_iconst C dX6_fits_20 ?_
    exact zz_zret C hr (by decide +kernel) dX6_fits_21 ⟨0, Or.inr ⟨rfl, by unfold plFits; have := plGreat_rng hpd hpb role; omega⟩, rfl, rfl⟩
  · skip
    refine zz_iload_n C 1 dX6_fits_4 rfl rfl ?_
    refine zz_sgetN C C.2.2.2.1.1 (List.mem_of_getElem? (i := 0) rfl) rfl dX6_fits_5 ?_
    refine zz_slen C C.2.2.2.1.1 dX6_fits_8 ?_
    refine zz_icmp_ge (tgt := 20) C dX6_fits_9 (by decide) (by unfold rI; omega) (by unfold rI; omega) (fun c9 => ?_) (fun c9 => ?_)
    · skip
      refine zz_iconst C dX6_fits_20 ?_
      exact zz_zret C hr (by decide +kernel) dX6_fits_21 ⟨0, Or.inr ⟨rfl, by unfold plFits; have := plGreat_rng hpd hpb role; omega⟩, rfl, rfl⟩
    · skip
      refine zz_iload_n C 1 dX6_fits_12 rfl rfl ?_
      refine zz_sgetN C C.2.2.2.1.2.1 (List.mem_of_getElem? (i := 1) rfl) rfl dX6_fits_13 ?_
      refine zz_slen C C.2.2.2.1.2.1 dX6_fits_16 ?_
      refine zz_icmp_lt (tgt := 22) C dX6_fits_17 (by decide) (by unfold rI; omega) (by unfold rI; omega) (fun c17 => ?_) (fun c17 => ?_)
      · skip
        refine zz_iload_n C 2 dX6_fits_22 rfl rfl ?_
        refine zz_sgetN C C.2.2.2.1.1 (List.mem_of_getElem? (i := 0) rfl) rfl dX6_fits_23 ?_
        refine zz_iload_n C 1 dX6_fits_26 rfl rfl ?_
        refine zz_sald C C.2.2.2.1.1 (by omega) (by omega) (by decide) dX6_fits_27 ?_
        have hl28 := zLEAST_rng role.toNat
        refine zz_icmp_lt (tgt := 44) C dX6_fits_28 (by decide) (by unfold rI; omega) (by unfold rI; omega) (fun c28 => ?_) (fun c28 => ?_)
        · skip
          refine zz_iconst C dX6_fits_44 ?_
          exact zz_zret C hr (by decide +kernel) dX6_fits_45 ⟨0, Or.inr ⟨rfl, by unfold plFits; have := plGreat_rng hpd hpb role; omega⟩, rfl, rfl⟩
        · skip
          refine zz_iload_n C 2 dX6_fits_31 rfl rfl ?_
          refine zz_aload_n C 0 dX6_fits_32 rfl rfl ?_
          refine zz_iload_n C 1 dX6_fits_33 rfl rfl ?_
          refine zz_callV (wr := ([] : va_W)) (st := [.int (iI v9)]) C (cc_X6_greatest l z ph pa pr pt pd pb fP fR fT role (by omega) (by omega) (by omega)) yk_X6_greatest qw_359 ⟨by decide, by decide⟩ [0, 1, 2, 3] [] rfl rfl rfl rfl (by decide) 0 6 rfl rfl rfl rfl (Nat.le_of_ble_eq_true rfl) dX6_fits_34 ⟨by decide, by decide⟩ ?_
          rintro _ _ ⟨rfl, rfl⟩
          refine zz_st (st' := [.int (iI (plGreat pd pb role)), .int (iI v9)]) rfl (zz_ws (ws' := wPlan z ph pa pr pt pd pb fP fR fT) rfl ?_)
          have hg37 := plGreat_rng hpd hpb role
          refine zz_icmp_gt (tgt := 44) C dX6_fits_37 (by decide) (by unfold rI; omega) (by unfold rI; omega) (fun c37 => ?_) (fun c37 => ?_)
          · skip
            refine zz_iconst C dX6_fits_44 ?_
            exact zz_zret C hr (by decide +kernel) dX6_fits_45 ⟨0, Or.inr ⟨rfl, by unfold plFits; have := plGreat_rng hpd hpb role; omega⟩, rfl, rfl⟩
          · skip
            refine zz_iconst C dX6_fits_40 ?_
            refine zz_goto (tgt := 45) C dX6_fits_41 (by decide) ?_
            exact zz_zret C hr (by decide +kernel) dX6_fits_45 ⟨1, Or.inl ⟨rfl, by unfold plFits; omega⟩, rfl, rfl⟩
      · skip
        refine zz_iconst C dX6_fits_20 ?_
        exact zz_zret C hr (by decide +kernel) dX6_fits_21 ⟨0, Or.inr ⟨rfl, by unfold plFits; have := plGreat_rng hpd hpb role; omega⟩, rfl, rfl⟩
abbrev po_X6_fits_0 (z : zC) (ph : Nat) (pa : Nat) (pr : Nat) (pt : Nat) (pd : Int) (pb : Int) (fP : Int → Int) (fR : Int → Int) (fT : Int → Int) (v9 : Int) : Option Value → va_W → Prop := fun v w => ∃ (q : Int), ((q = 1 ∧ (1 ≤ v9 ∧ v9 ≤ 4)) ∨ (q = 0 ∧ ¬ (1 ≤ v9 ∧ v9 ≤ 4))) ∧ v = some (Value.int (iI q)) ∧ w = wPlan z ph pa pr pt pd pb fP fR fT
abbrev rm_X6_fits_0 : Room := { frames := 2, cells := 0, slots := 0, locals := 61 }
theorem plFits_0 (pd pb v9 : Int) : plFits pd pb 0 v9 ↔ 1 ≤ v9 ∧ v9 ≤ 4 := by unfold plFits plGreat; simp [zLEAST, zGREATEST]
theorem cc_X6_fits_0 (l : Launch) (z : zC) (ph : Nat) (pa : Nat) (pr : Nat) (pt : Nat) (pd : Int) (pb : Int) (fP : Int → Int) (fR : Int → Int) (fT : Int → Int) (v9 : Int) (hpd : 1 ≤ pd ∧ pd ≤ 4) (hpb : 0 ≤ pb ∧ pb ≤ 5) (hv : -2147483648 ≤ v9 ∧ v9 < 2147483648) : zzMet l yX6_fits cX6_fits 3 (Option.some .boolean) rm_X6_fits_0 z [.ref ph, .int (iI 0), .int (iI v9)] (wPlan z ph pa pr pt pd pb fP fR fT) (po_X6_fits_0 z ph pa pr pt pd pb fP fR fT v9) := by
  refine (cc_X6_fits l z ph pa pr pt pd pb fP fR fT 0 v9 hpd hpb (by omega) hv).mono ?_
  rintro _ _ ⟨q, hq, rfl, rfl⟩
  rw [plFits_0] at hq
  exact ⟨q, hq, rfl, rfl⟩
abbrev po_X6_fits_1 (z : zC) (ph : Nat) (pa : Nat) (pr : Nat) (pt : Nat) (pd : Int) (pb : Int) (fP : Int → Int) (fR : Int → Int) (fT : Int → Int) (v9 : Int) : Option Value → va_W → Prop := fun v w => ∃ (q : Int), ((q = 1 ∧ (1 ≤ v9 ∧ v9 ≤ pd)) ∨ (q = 0 ∧ ¬ (1 ≤ v9 ∧ v9 ≤ pd))) ∧ v = some (Value.int (iI q)) ∧ w = wPlan z ph pa pr pt pd pb fP fR fT
abbrev rm_X6_fits_1 : Room := { frames := 2, cells := 0, slots := 0, locals := 61 }
theorem plFits_1 (pd pb v9 : Int) : plFits pd pb 1 v9 ↔ 1 ≤ v9 ∧ v9 ≤ pd := by unfold plFits plGreat; simp [zLEAST, zGREATEST]
theorem cc_X6_fits_1 (l : Launch) (z : zC) (ph : Nat) (pa : Nat) (pr : Nat) (pt : Nat) (pd : Int) (pb : Int) (fP : Int → Int) (fR : Int → Int) (fT : Int → Int) (v9 : Int) (hpd : 1 ≤ pd ∧ pd ≤ 4) (hpb : 0 ≤ pb ∧ pb ≤ 5) (hv : -2147483648 ≤ v9 ∧ v9 < 2147483648) : zzMet l yX6_fits cX6_fits 3 (Option.some .boolean) rm_X6_fits_1 z [.ref ph, .int (iI 1), .int (iI v9)] (wPlan z ph pa pr pt pd pb fP fR fT) (po_X6_fits_1 z ph pa pr pt pd pb fP fR fT v9) := by
  refine (cc_X6_fits l z ph pa pr pt pd pb fP fR fT 1 v9 hpd hpb (by omega) hv).mono ?_
  rintro _ _ ⟨q, hq, rfl, rfl⟩
  rw [plFits_1] at hq
  exact ⟨q, hq, rfl, rfl⟩
abbrev po_X6_fits_2 (z : zC) (ph : Nat) (pa : Nat) (pr : Nat) (pt : Nat) (pd : Int) (pb : Int) (fP : Int → Int) (fR : Int → Int) (fT : Int → Int) (v9 : Int) : Option Value → va_W → Prop := fun v w => ∃ (q : Int), ((q = 1 ∧ (0 ≤ v9 ∧ v9 ≤ 200)) ∨ (q = 0 ∧ ¬ (0 ≤ v9 ∧ v9 ≤ 200))) ∧ v = some (Value.int (iI q)) ∧ w = wPlan z ph pa pr pt pd pb fP fR fT
abbrev rm_X6_fits_2 : Room := { frames := 2, cells := 0, slots := 0, locals := 61 }
theorem plFits_2 (pd pb v9 : Int) : plFits pd pb 2 v9 ↔ 0 ≤ v9 ∧ v9 ≤ 200 := by unfold plFits plGreat; simp [zLEAST, zGREATEST]
theorem cc_X6_fits_2 (l : Launch) (z : zC) (ph : Nat) (pa : Nat) (pr : Nat) (pt : Nat) (pd : Int) (pb : Int) (fP : Int → Int) (fR : Int → Int) (fT : Int → Int) (v9 : Int) (hpd : 1 ≤ pd ∧ pd ≤ 4) (hpb : 0 ≤ pb ∧ pb ≤ 5) (hv : -2147483648 ≤ v9 ∧ v9 < 2147483648) : zzMet l yX6_fits cX6_fits 3 (Option.some .boolean) rm_X6_fits_2 z [.ref ph, .int (iI 2), .int (iI v9)] (wPlan z ph pa pr pt pd pb fP fR fT) (po_X6_fits_2 z ph pa pr pt pd pb fP fR fT v9) := by
  refine (cc_X6_fits l z ph pa pr pt pd pb fP fR fT 2 v9 hpd hpb (by omega) hv).mono ?_
  rintro _ _ ⟨q, hq, rfl, rfl⟩
  rw [plFits_2] at hq
  exact ⟨q, hq, rfl, rfl⟩
abbrev po_X6_fits_3 (z : zC) (ph : Nat) (pa : Nat) (pr : Nat) (pt : Nat) (pd : Int) (pb : Int) (fP : Int → Int) (fR : Int → Int) (fT : Int → Int) (v9 : Int) : Option Value → va_W → Prop := fun v w => ∃ (q : Int), ((q = 1 ∧ (0 ≤ v9 ∧ v9 ≤ 6)) ∨ (q = 0 ∧ ¬ (0 ≤ v9 ∧ v9 ≤ 6))) ∧ v = some (Value.int (iI q)) ∧ w = wPlan z ph pa pr pt pd pb fP fR fT
abbrev rm_X6_fits_3 : Room := { frames := 2, cells := 0, slots := 0, locals := 61 }
theorem plFits_3 (pd pb v9 : Int) : plFits pd pb 3 v9 ↔ 0 ≤ v9 ∧ v9 ≤ 6 := by unfold plFits plGreat; simp [zLEAST, zGREATEST]
theorem cc_X6_fits_3 (l : Launch) (z : zC) (ph : Nat) (pa : Nat) (pr : Nat) (pt : Nat) (pd : Int) (pb : Int) (fP : Int → Int) (fR : Int → Int) (fT : Int → Int) (v9 : Int) (hpd : 1 ≤ pd ∧ pd ≤ 4) (hpb : 0 ≤ pb ∧ pb ≤ 5) (hv : -2147483648 ≤ v9 ∧ v9 < 2147483648) : zzMet l yX6_fits cX6_fits 3 (Option.some .boolean) rm_X6_fits_3 z [.ref ph, .int (iI 3), .int (iI v9)] (wPlan z ph pa pr pt pd pb fP fR fT) (po_X6_fits_3 z ph pa pr pt pd pb fP fR fT v9) := by
  refine (cc_X6_fits l z ph pa pr pt pd pb fP fR fT 3 v9 hpd hpb (by omega) hv).mono ?_
  rintro _ _ ⟨q, hq, rfl, rfl⟩
  rw [plFits_3] at hq
  exact ⟨q, hq, rfl, rfl⟩
abbrev po_X6_fits_4 (z : zC) (ph : Nat) (pa : Nat) (pr : Nat) (pt : Nat) (pd : Int) (pb : Int) (fP : Int → Int) (fR : Int → Int) (fT : Int → Int) (v9 : Int) : Option Value → va_W → Prop := fun v w => ∃ (q : Int), ((q = 1 ∧ (0 ≤ v9 ∧ v9 ≤ pb - 1)) ∨ (q = 0 ∧ ¬ (0 ≤ v9 ∧ v9 ≤ pb - 1))) ∧ v = some (Value.int (iI q)) ∧ w = wPlan z ph pa pr pt pd pb fP fR fT
abbrev rm_X6_fits_4 : Room := { frames := 2, cells := 0, slots := 0, locals := 61 }
theorem plFits_4 (pd pb v9 : Int) : plFits pd pb 4 v9 ↔ 0 ≤ v9 ∧ v9 ≤ pb - 1 := by unfold plFits plGreat; simp [zLEAST, zGREATEST]
theorem cc_X6_fits_4 (l : Launch) (z : zC) (ph : Nat) (pa : Nat) (pr : Nat) (pt : Nat) (pd : Int) (pb : Int) (fP : Int → Int) (fR : Int → Int) (fT : Int → Int) (v9 : Int) (hpd : 1 ≤ pd ∧ pd ≤ 4) (hpb : 0 ≤ pb ∧ pb ≤ 5) (hv : -2147483648 ≤ v9 ∧ v9 < 2147483648) : zzMet l yX6_fits cX6_fits 3 (Option.some .boolean) rm_X6_fits_4 z [.ref ph, .int (iI 4), .int (iI v9)] (wPlan z ph pa pr pt pd pb fP fR fT) (po_X6_fits_4 z ph pa pr pt pd pb fP fR fT v9) := by
  refine (cc_X6_fits l z ph pa pr pt pd pb fP fR fT 4 v9 hpd hpb (by omega) hv).mono ?_
  rintro _ _ ⟨q, hq, rfl, rfl⟩
  rw [plFits_4] at hq
  exact ⟨q, hq, rfl, rfl⟩
abbrev po_X6_fits_5 (z : zC) (ph : Nat) (pa : Nat) (pr : Nat) (pt : Nat) (pd : Int) (pb : Int) (fP : Int → Int) (fR : Int → Int) (fT : Int → Int) (v9 : Int) : Option Value → va_W → Prop := fun v w => ∃ (q : Int), ((q = 1 ∧ (0 ≤ v9 ∧ v9 ≤ 20)) ∨ (q = 0 ∧ ¬ (0 ≤ v9 ∧ v9 ≤ 20))) ∧ v = some (Value.int (iI q)) ∧ w = wPlan z ph pa pr pt pd pb fP fR fT
abbrev rm_X6_fits_5 : Room := { frames := 2, cells := 0, slots := 0, locals := 61 }
theorem plFits_5 (pd pb v9 : Int) : plFits pd pb 5 v9 ↔ 0 ≤ v9 ∧ v9 ≤ 20 := by unfold plFits plGreat; simp [zLEAST, zGREATEST]
theorem cc_X6_fits_5 (l : Launch) (z : zC) (ph : Nat) (pa : Nat) (pr : Nat) (pt : Nat) (pd : Int) (pb : Int) (fP : Int → Int) (fR : Int → Int) (fT : Int → Int) (v9 : Int) (hpd : 1 ≤ pd ∧ pd ≤ 4) (hpb : 0 ≤ pb ∧ pb ≤ 5) (hv : -2147483648 ≤ v9 ∧ v9 < 2147483648) : zzMet l yX6_fits cX6_fits 3 (Option.some .boolean) rm_X6_fits_5 z [.ref ph, .int (iI 5), .int (iI v9)] (wPlan z ph pa pr pt pd pb fP fR fT) (po_X6_fits_5 z ph pa pr pt pd pb fP fR fT v9) := by
  refine (cc_X6_fits l z ph pa pr pt pd pb fP fR fT 5 v9 hpd hpb (by omega) hv).mono ?_
  rintro _ _ ⟨q, hq, rfl, rfl⟩
  rw [plFits_5] at hq
  exact ⟨q, hq, rfl, rfl⟩
abbrev po_X6_fits_6 (z : zC) (ph : Nat) (pa : Nat) (pr : Nat) (pt : Nat) (pd : Int) (pb : Int) (fP : Int → Int) (fR : Int → Int) (fT : Int → Int) (v9 : Int) : Option Value → va_W → Prop := fun v w => ∃ (q : Int), ((q = 1 ∧ (1 ≤ v9 ∧ v9 ≤ 40)) ∨ (q = 0 ∧ ¬ (1 ≤ v9 ∧ v9 ≤ 40))) ∧ v = some (Value.int (iI q)) ∧ w = wPlan z ph pa pr pt pd pb fP fR fT
abbrev rm_X6_fits_6 : Room := { frames := 2, cells := 0, slots := 0, locals := 61 }
theorem plFits_6 (pd pb v9 : Int) : plFits pd pb 6 v9 ↔ 1 ≤ v9 ∧ v9 ≤ 40 := by unfold plFits plGreat; simp [zLEAST, zGREATEST]
theorem cc_X6_fits_6 (l : Launch) (z : zC) (ph : Nat) (pa : Nat) (pr : Nat) (pt : Nat) (pd : Int) (pb : Int) (fP : Int → Int) (fR : Int → Int) (fT : Int → Int) (v9 : Int) (hpd : 1 ≤ pd ∧ pd ≤ 4) (hpb : 0 ≤ pb ∧ pb ≤ 5) (hv : -2147483648 ≤ v9 ∧ v9 < 2147483648) : zzMet l yX6_fits cX6_fits 3 (Option.some .boolean) rm_X6_fits_6 z [.ref ph, .int (iI 6), .int (iI v9)] (wPlan z ph pa pr pt pd pb fP fR fT) (po_X6_fits_6 z ph pa pr pt pd pb fP fR fT v9) := by
  refine (cc_X6_fits l z ph pa pr pt pd pb fP fR fT 6 v9 hpd hpb (by omega) hv).mono ?_
  rintro _ _ ⟨q, hq, rfl, rfl⟩
  rw [plFits_6] at hq
  exact ⟨q, hq, rfl, rfl⟩
abbrev po_X6_fits_7 (z : zC) (ph : Nat) (pa : Nat) (pr : Nat) (pt : Nat) (pd : Int) (pb : Int) (fP : Int → Int) (fR : Int → Int) (fT : Int → Int) (v9 : Int) : Option Value → va_W → Prop := fun v w => ∃ (q : Int), ((q = 1 ∧ (1 ≤ v9 ∧ v9 ≤ 200)) ∨ (q = 0 ∧ ¬ (1 ≤ v9 ∧ v9 ≤ 200))) ∧ v = some (Value.int (iI q)) ∧ w = wPlan z ph pa pr pt pd pb fP fR fT
abbrev rm_X6_fits_7 : Room := { frames := 2, cells := 0, slots := 0, locals := 61 }
theorem plFits_7 (pd pb v9 : Int) : plFits pd pb 7 v9 ↔ 1 ≤ v9 ∧ v9 ≤ 200 := by unfold plFits plGreat; simp [zLEAST, zGREATEST]
theorem cc_X6_fits_7 (l : Launch) (z : zC) (ph : Nat) (pa : Nat) (pr : Nat) (pt : Nat) (pd : Int) (pb : Int) (fP : Int → Int) (fR : Int → Int) (fT : Int → Int) (v9 : Int) (hpd : 1 ≤ pd ∧ pd ≤ 4) (hpb : 0 ≤ pb ∧ pb ≤ 5) (hv : -2147483648 ≤ v9 ∧ v9 < 2147483648) : zzMet l yX6_fits cX6_fits 3 (Option.some .boolean) rm_X6_fits_7 z [.ref ph, .int (iI 7), .int (iI v9)] (wPlan z ph pa pr pt pd pb fP fR fT) (po_X6_fits_7 z ph pa pr pt pd pb fP fR fT v9) := by
  refine (cc_X6_fits l z ph pa pr pt pd pb fP fR fT 7 v9 hpd hpb (by omega) hv).mono ?_
  rintro _ _ ⟨q, hq, rfl, rfl⟩
  rw [plFits_7] at hq
  exact ⟨q, hq, rfl, rfl⟩
abbrev po_X6_fits_8 (z : zC) (ph : Nat) (pa : Nat) (pr : Nat) (pt : Nat) (pd : Int) (pb : Int) (fP : Int → Int) (fR : Int → Int) (fT : Int → Int) (v9 : Int) : Option Value → va_W → Prop := fun v w => ∃ (q : Int), ((q = 1 ∧ (0 ≤ v9 ∧ v9 ≤ 12)) ∨ (q = 0 ∧ ¬ (0 ≤ v9 ∧ v9 ≤ 12))) ∧ v = some (Value.int (iI q)) ∧ w = wPlan z ph pa pr pt pd pb fP fR fT
abbrev rm_X6_fits_8 : Room := { frames := 2, cells := 0, slots := 0, locals := 61 }
theorem plFits_8 (pd pb v9 : Int) : plFits pd pb 8 v9 ↔ 0 ≤ v9 ∧ v9 ≤ 12 := by unfold plFits plGreat; simp [zLEAST, zGREATEST]
theorem cc_X6_fits_8 (l : Launch) (z : zC) (ph : Nat) (pa : Nat) (pr : Nat) (pt : Nat) (pd : Int) (pb : Int) (fP : Int → Int) (fR : Int → Int) (fT : Int → Int) (v9 : Int) (hpd : 1 ≤ pd ∧ pd ≤ 4) (hpb : 0 ≤ pb ∧ pb ≤ 5) (hv : -2147483648 ≤ v9 ∧ v9 < 2147483648) : zzMet l yX6_fits cX6_fits 3 (Option.some .boolean) rm_X6_fits_8 z [.ref ph, .int (iI 8), .int (iI v9)] (wPlan z ph pa pr pt pd pb fP fR fT) (po_X6_fits_8 z ph pa pr pt pd pb fP fR fT v9) := by
  refine (cc_X6_fits l z ph pa pr pt pd pb fP fR fT 8 v9 hpd hpb (by omega) hv).mono ?_
  rintro _ _ ⟨q, hq, rfl, rfl⟩
  rw [plFits_8] at hq
  exact ⟨q, hq, rfl, rfl⟩
abbrev po_X6_fits_9 (z : zC) (ph : Nat) (pa : Nat) (pr : Nat) (pt : Nat) (pd : Int) (pb : Int) (fP : Int → Int) (fR : Int → Int) (fT : Int → Int) (v9 : Int) : Option Value → va_W → Prop := fun v w => ∃ (q : Int), ((q = 1 ∧ (0 ≤ v9 ∧ v9 ≤ 99)) ∨ (q = 0 ∧ ¬ (0 ≤ v9 ∧ v9 ≤ 99))) ∧ v = some (Value.int (iI q)) ∧ w = wPlan z ph pa pr pt pd pb fP fR fT
abbrev rm_X6_fits_9 : Room := { frames := 2, cells := 0, slots := 0, locals := 61 }
theorem plFits_9 (pd pb v9 : Int) : plFits pd pb 9 v9 ↔ 0 ≤ v9 ∧ v9 ≤ 99 := by unfold plFits plGreat; simp [zLEAST, zGREATEST]
theorem cc_X6_fits_9 (l : Launch) (z : zC) (ph : Nat) (pa : Nat) (pr : Nat) (pt : Nat) (pd : Int) (pb : Int) (fP : Int → Int) (fR : Int → Int) (fT : Int → Int) (v9 : Int) (hpd : 1 ≤ pd ∧ pd ≤ 4) (hpb : 0 ≤ pb ∧ pb ≤ 5) (hv : -2147483648 ≤ v9 ∧ v9 < 2147483648) : zzMet l yX6_fits cX6_fits 3 (Option.some .boolean) rm_X6_fits_9 z [.ref ph, .int (iI 9), .int (iI v9)] (wPlan z ph pa pr pt pd pb fP fR fT) (po_X6_fits_9 z ph pa pr pt pd pb fP fR fT v9) := by
  refine (cc_X6_fits l z ph pa pr pt pd pb fP fR fT 9 v9 hpd hpb (by omega) hv).mono ?_
  rintro _ _ ⟨q, hq, rfl, rfl⟩
  rw [plFits_9] at hq
  exact ⟨q, hq, rfl, rfl⟩
abbrev po_X6_fits_10 (z : zC) (ph : Nat) (pa : Nat) (pr : Nat) (pt : Nat) (pd : Int) (pb : Int) (fP : Int → Int) (fR : Int → Int) (fT : Int → Int) (v9 : Int) : Option Value → va_W → Prop := fun v w => ∃ (q : Int), ((q = 1 ∧ (0 ≤ v9 ∧ v9 ≤ 9999)) ∨ (q = 0 ∧ ¬ (0 ≤ v9 ∧ v9 ≤ 9999))) ∧ v = some (Value.int (iI q)) ∧ w = wPlan z ph pa pr pt pd pb fP fR fT
abbrev rm_X6_fits_10 : Room := { frames := 2, cells := 0, slots := 0, locals := 61 }
theorem plFits_10 (pd pb v9 : Int) : plFits pd pb 10 v9 ↔ 0 ≤ v9 ∧ v9 ≤ 9999 := by unfold plFits plGreat; simp [zLEAST, zGREATEST]
theorem cc_X6_fits_10 (l : Launch) (z : zC) (ph : Nat) (pa : Nat) (pr : Nat) (pt : Nat) (pd : Int) (pb : Int) (fP : Int → Int) (fR : Int → Int) (fT : Int → Int) (v9 : Int) (hpd : 1 ≤ pd ∧ pd ≤ 4) (hpb : 0 ≤ pb ∧ pb ≤ 5) (hv : -2147483648 ≤ v9 ∧ v9 < 2147483648) : zzMet l yX6_fits cX6_fits 3 (Option.some .boolean) rm_X6_fits_10 z [.ref ph, .int (iI 10), .int (iI v9)] (wPlan z ph pa pr pt pd pb fP fR fT) (po_X6_fits_10 z ph pa pr pt pd pb fP fR fT v9) := by
  refine (cc_X6_fits l z ph pa pr pt pd pb fP fR fT 10 v9 hpd hpb (by omega) hv).mono ?_
  rintro _ _ ⟨q, hq, rfl, rfl⟩
  rw [plFits_10] at hq
  exact ⟨q, hq, rfl, rfl⟩
abbrev po_X6_isFull (z : zC) (ph : Nat) (pa : Nat) (pr : Nat) (pt : Nat) (pd : Int) (pb : Int) (fP : Int → Int) (fR : Int → Int) (fT : Int → Int) : Option Value → va_W → Prop := fun v w => ∃ (q : Int), ((q = 1 ∧ (pb = 5)) ∨ (q = 0 ∧ ¬ (pb = 5))) ∧ v = some (Value.int (iI q)) ∧ w = wPlan z ph pa pr pt pd pb fP fR fT
abbrev rm_X6_isFull : Room := { frames := 1, cells := 0, slots := 0, locals := 40 }
set_option maxHeartbeats 4000000 in
set_option maxRecDepth 100000 in
theorem cc_X6_isFull (l : Launch) (z : zC) (ph : Nat) (pa : Nat) (pr : Nat) (pt : Nat) (pd : Int) (pb : Int) (fP : Int → Int) (fR : Int → Int) (fT : Int → Int) (hpb : 0 ≤ pb ∧ pb ≤ 5) : zzMet l yX6_isFull cX6_isFull 1 (Option.some .boolean) rm_X6_isFull z [.ref ph] (wPlan z ph pa pr pt pd pb fP fR fT) (po_X6_isFull z ph pa pr pt pd pb fP fR fT) := by
  refine zzMet.of (own := RX6) (ls0 := [(0, .ref ph)]) (by decide) rfl (Nat.le_of_ble_eq_true rfl) rfl ?_
  intro p e s m below meth c A C hr hnm
  refine zz_aload_n C 0 dX6_isFull_0 rfl rfl ?_
  refine zz_get C 0 (ci := 6) (k := 1) rfl rfl in_X6 (by decide) qw_297 rfl rfl dX6_isFull_1 ?_
  refine zz_iconst C dX6_isFull_4 ?_
  refine zz_icmp_lt (tgt := 12) C dX6_isFull_5 (by decide) (by unfold rI; omega) (by unfold rI; omega) (fun c5 => ?_) (fun c5 => ?_)
  · skip
    refine zz_iconst C dX6_isFull_12 ?_
    exact zz_zret C hr (by decide +kernel) dX6_isFull_13 ⟨0, Or.inr ⟨rfl, by omega⟩, rfl, rfl⟩
  · skip
    refine zz_iconst C dX6_isFull_8 ?_
    refine zz_goto (tgt := 13) C dX6_isFull_9 (by decide) ?_
    exact zz_zret C hr (by decide +kernel) dX6_isFull_13 ⟨1, Or.inl ⟨rfl, by omega⟩, rfl, rfl⟩
abbrev po_X6_isTerm (z : zC) (ph : Nat) (pa : Nat) (pr : Nat) (pt : Nat) (pd : Int) (pb : Int) (fP : Int → Int) (fR : Int → Int) (fT : Int → Int) (bond : Int) (what : Int) : Option Value → va_W → Prop := fun v w => ∃ (q : Int), ((q = 1 ∧ (0 ≤ bond ∧ bond < pb ∧ 0 ≤ what ∧ what < 7)) ∨ (q = 0 ∧ ¬ (0 ≤ bond ∧ bond < pb ∧ 0 ≤ what ∧ what < 7))) ∧ v = some (Value.int (iI q)) ∧ w = wPlan z ph pa pr pt pd pb fP fR fT
abbrev rm_X6_isTerm : Room := { frames := 1, cells := 0, slots := 0, locals := 40 }
set_option maxHeartbeats 4000000 in
set_option maxRecDepth 100000 in
theorem cc_X6_isTerm (l : Launch) (z : zC) (ph : Nat) (pa : Nat) (pr : Nat) (pt : Nat) (pd : Int) (pb : Int) (fP : Int → Int) (fR : Int → Int) (fT : Int → Int) (bond : Int) (what : Int) (hpb : 0 ≤ pb ∧ pb ≤ 5) (hbo : -2147483648 ≤ bond ∧ bond < 2147483648) (hwh : -2147483648 ≤ what ∧ what < 2147483648) : zzMet l yX6_isTerm cX6_isTerm 3 (Option.some .boolean) rm_X6_isTerm z [.ref ph, .int (iI bond), .int (iI what)] (wPlan z ph pa pr pt pd pb fP fR fT) (po_X6_isTerm z ph pa pr pt pd pb fP fR fT bond what) := by
  refine zzMet.of (own := RX6) (ls0 := [(0, .ref ph), (1, .int (iI bond)), (2, .int (iI what))]) (by decide) rfl (Nat.le_of_ble_eq_true rfl) rfl ?_
  intro p e s m below meth c A C hr hnm
  refine zz_iload_n C 1 dX6_isTerm_0 rfl rfl ?_
  refine zz_if_lt (tgt := 31) C dX6_isTerm_1 (by decide) (by unfold rI; omega) (fun c1 => ?_) (fun c1 => ?_)
  · skip
    refine zz_iconst C dX6_isTerm_31 ?_
    exact zz_zret C hr (by decide +kernel) dX6_isTerm_32 ⟨0, Or.inr ⟨rfl, by omega⟩, rfl, rfl⟩
  · skip
    refine zz_iload_n C 1 dX6_isTerm_4 rfl rfl ?_
    refine zz_aload_n C 0 dX6_isTerm_5 rfl rfl ?_
    refine zz_get C 0 (ci := 6) (k := 1) rfl rfl in_X6 (by decide) qw_297 rfl rfl dX6_isTerm_6 ?_
    refine zz_icmp_ge (tgt := 31) C dX6_isTerm_9 (by decide) (by unfold rI; omega) (by unfold rI; omega) (fun c9 => ?_) (fun c9 => ?_)
    · skip
      refine zz_iconst C dX6_isTerm_31 ?_
      exact zz_zret C hr (by decide +kernel) dX6_isTerm_32 ⟨0, Or.inr ⟨rfl, by omega⟩, rfl, rfl⟩
    · skip
      refine zz_iload_n C 1 dX6_isTerm_12 rfl rfl ?_
      refine zz_iconst C dX6_isTerm_13 ?_
      refine zz_icmp_ge (tgt := 31) C dX6_isTerm_14 (by decide) (by unfold rI; omega) (by unfold rI; omega) (fun c14 => ?_) (fun c14 => ?_)
      · skip
        refine zz_iconst C dX6_isTerm_31 ?_
        exact zz_zret C hr (by decide +kernel) dX6_isTerm_32 ⟨0, Or.inr ⟨rfl, by omega⟩, rfl, rfl⟩
      · skip
        refine zz_iload_n C 2 dX6_isTerm_17 rfl rfl ?_
        refine zz_if_lt (tgt := 31) C dX6_isTerm_18 (by decide) (by unfold rI; omega) (fun c18 => ?_) (fun c18 => ?_)
        · skip
          refine zz_iconst C dX6_isTerm_31 ?_
          exact zz_zret C hr (by decide +kernel) dX6_isTerm_32 ⟨0, Or.inr ⟨rfl, by omega⟩, rfl, rfl⟩
        · skip
          refine zz_iload_n C 2 dX6_isTerm_21 rfl rfl ?_
          refine zz_bipush C dX6_isTerm_22 (by decide +kernel) ?_
          refine zz_icmp_ge (tgt := 31) C dX6_isTerm_24 (by decide) (by unfold rI; omega) (by unfold rI; omega) (fun c24 => ?_) (fun c24 => ?_)
          · skip
            refine zz_iconst C dX6_isTerm_31 ?_
            exact zz_zret C hr (by decide +kernel) dX6_isTerm_32 ⟨0, Or.inr ⟨rfl, by omega⟩, rfl, rfl⟩
          · skip
            refine zz_iconst C dX6_isTerm_27 ?_
            refine zz_goto (tgt := 32) C dX6_isTerm_28 (by decide) ?_
            exact zz_zret C hr (by decide +kernel) dX6_isTerm_32 ⟨1, Or.inl ⟨rfl, by omega⟩, rfl, rfl⟩
abbrev po_X6_term (z : zC) (ph : Nat) (pa : Nat) (pr : Nat) (pt : Nat) (pd : Int) (pb : Int) (fP : Int → Int) (fR : Int → Int) (fT : Int → Int) (bond : Int) (what : Int) : Option Value → va_W → Prop := fun v w => v = some (Value.int (iI (plTerm pb fT bond what))) ∧ w = wPlan z ph pa pr pt pd pb fP fR fT
abbrev rm_X6_term : Room := { frames := 2, cells := 0, slots := 0, locals := 62 }
set_option maxHeartbeats 4000000 in
set_option maxRecDepth 100000 in
theorem cc_X6_term (l : Launch) (z : zC) (ph : Nat) (pa : Nat) (pr : Nat) (pt : Nat) (pd : Int) (pb : Int) (fP : Int → Int) (fR : Int → Int) (fT : Int → Int) (bond : Int) (what : Int) (hpb : 0 ≤ pb ∧ pb ≤ 5) (hbo : -2147483648 ≤ bond ∧ bond < 2147483648) (hwh : -2147483648 ≤ what ∧ what < 2147483648) : zzMet l yX6_term cX6_term 3 (Option.some .int) rm_X6_term z [.ref ph, .int (iI bond), .int (iI what)] (wPlan z ph pa pr pt pd pb fP fR fT) (po_X6_term z ph pa pr pt pd pb fP fR fT bond what) := by
  refine zzMet.of (own := RX6) (ls0 := [(0, .ref ph), (1, .int (iI bond)), (2, .int (iI what))]) (by decide) rfl (Nat.le_of_ble_eq_true rfl) rfl ?_
  intro p e s m below meth c A C hr hnm
  refine zz_aload_n C 0 dX6_term_0 rfl rfl ?_
  refine zz_iload_n C 1 dX6_term_1 rfl rfl ?_
  refine zz_iload_n C 2 dX6_term_2 rfl rfl ?_
  refine zz_callV (wr := ([] : va_W)) (st := []) C (cc_X6_isTerm l z ph pa pr pt pd pb fP fR fT bond what (by omega) (by omega) (by omega)) yk_X6_isTerm qw_408 ⟨by decide, by decide⟩ [0, 1, 2, 3] [] rfl rfl rfl rfl (by decide) 0 6 rfl rfl rfl rfl (Nat.le_of_ble_eq_true rfl) dX6_term_3 ⟨by decide, by decide⟩ ?_
  rintro _ _ ⟨q_3, hq_3, rfl, rfl⟩
  refine zz_st (st' := [.int (iI q_3)]) rfl (zz_ws (ws' := wPlan z ph pa pr pt pd pb fP fR fT) rfl ?_)
  refine zz_if_eq (tgt := 23) C dX6_term_6 (by decide) (by unfold rI; omega) (fun c6 => ?_) (fun c6 => ?_)
  · skip
    refine zz_iconst C dX6_term_23 ?_
    exact zz_iret C hr dX6_term_24 ⟨zz_vI (by unfold plTerm; split <;> first | rfl | (exfalso; omega)), rfl⟩
  · skip
    refine zz_aload_n C 0 dX6_term_9 rfl rfl ?_
    refine zz_get C 0 (ci := 6) (k := 4) rfl rfl in_X6 (by decide) qw_304 rfl rfl dX6_term_10 ?_
    refine zz_iload_n C 1 dX6_term_13 rfl rfl ?_
    refine zz_bipush C dX6_term_14 (by decide +kernel) ?_
    refine zz_imul C dX6_term_16 ?_
    refine zz_iload_n C 2 dX6_term_17 rfl rfl ?_
    refine zz_iadd C dX6_term_18 ?_
    refine zz_iald C 3 rfl (by omega) (by omega) (by decide) dX6_term_19 ?_
    refine zz_goto (tgt := 24) C dX6_term_20 (by decide) ?_
    exact zz_iret C hr dX6_term_24 ⟨zz_vI (by unfold plTerm; split <;> first | rfl | (exfalso; omega)), rfl⟩
abbrev po_X6_setTerm (z : zC) (ph : Nat) (pa : Nat) (pr : Nat) (pt : Nat) (pd : Int) (pb : Int) (fP : Int → Int) (fR : Int → Int) (fT : Int → Int) (bond : Int) (what : Int) (v9 : Int) : Option Value → va_W → Prop := fun v w => v = none ∧ w = wPlan z ph pa pr pt pd pb fP fR (zup fT (bond * 7 + what) v9)
abbrev rm_X6_setTerm : Room := { frames := 2, cells := 0, slots := 0, locals := 62 }
set_option maxHeartbeats 4000000 in
set_option maxRecDepth 100000 in
theorem cc_X6_setTerm (l : Launch) (z : zC) (ph : Nat) (pa : Nat) (pr : Nat) (pt : Nat) (pd : Int) (pb : Int) (fP : Int → Int) (fR : Int → Int) (fT : Int → Int) (bond : Int) (what : Int) (v9 : Int) (hpb : 0 ≤ pb ∧ pb ≤ 5) (hbo : 0 ≤ bond ∧ bond < pb) (hwh : 0 ≤ what ∧ what < 7) : zzMet l yX6_setTerm cX6_setTerm 4 none rm_X6_setTerm z [.ref ph, .int (iI bond), .int (iI what), .int (iI v9)] (wPlan z ph pa pr pt pd pb fP fR fT) (po_X6_setTerm z ph pa pr pt pd pb fP fR fT bond what v9) := by
  refine zzMet.of (own := RX6) (ls0 := [(0, .ref ph), (1, .int (iI bond)), (2, .int (iI what)), (3, .int (iI v9))]) (by decide) rfl (Nat.le_of_ble_eq_true rfl) rfl ?_
  intro p e s m below meth c A C hr hnm
  refine zz_aload_n C 0 dX6_setTerm_0 rfl rfl ?_
  refine zz_iload_n C 1 dX6_setTerm_1 rfl rfl ?_
  refine zz_iload_n C 2 dX6_setTerm_2 rfl rfl ?_
  refine zz_callV (wr := ([] : va_W)) (st := []) C (cc_X6_isTerm l z ph pa pr pt pd pb fP fR fT bond what (by omega) (by omega) (by omega)) yk_X6_isTerm qw_408 ⟨by decide, by decide⟩ [0, 1, 2, 3] [] rfl rfl rfl rfl (by decide) 0 6 rfl rfl rfl rfl (Nat.le_of_ble_eq_true rfl) dX6_setTerm_3 ⟨by decide, by decide⟩ ?_
  rintro _ _ ⟨q_3, hq_3, rfl, rfl⟩
  refine zz_st (st' := [.int (iI q_3)]) rfl (zz_ws (ws' := wPlan z ph pa pr pt pd pb fP fR fT) rfl ?_)
  refine zz_if_eq (tgt := 21) C dX6_setTerm_6 (by decide) (by unfold rI; omega) (fun c6 => ?_) (fun c6 => ?_)
  · skip
    exfalso; omega
  · skip
    refine zz_aload_n C 0 dX6_setTerm_9 rfl rfl ?_
    refine zz_get C 0 (ci := 6) (k := 4) rfl rfl in_X6 (by decide) qw_304 rfl rfl dX6_setTerm_10 ?_
    refine zz_iload_n C 1 dX6_setTerm_13 rfl rfl ?_
    refine zz_bipush C dX6_setTerm_14 (by decide +kernel) ?_
    refine zz_imul C dX6_setTerm_16 ?_
    refine zz_iload_n C 2 dX6_setTerm_17 rfl rfl ?_
    refine zz_iadd C dX6_setTerm_18 ?_
    refine zz_iload_n C 3 dX6_setTerm_19 rfl rfl ?_
    refine zz_iast (ws' := wPlan z ph pa pr pt pd pb fP fR (zup fT ((bond * 7) + what) v9)) C 3 rfl (by omega) (by omega) (by decide) rfl dX6_setTerm_20 ?_
    exact zz_vret C hr dX6_setTerm_21 ⟨rfl, rfl⟩
abbrev po_X6_isDate (z : zC) (ph : Nat) (pa : Nat) (pr : Nat) (pt : Nat) (pd : Int) (pb : Int) (fP : Int → Int) (fR : Int → Int) (fT : Int → Int) (date : Int) : Option Value → va_W → Prop := fun v w => ∃ (q : Int), ((q = 1 ∧ (1 ≤ date ∧ date ≤ pd)) ∨ (q = 0 ∧ ¬ (1 ≤ date ∧ date ≤ pd))) ∧ v = some (Value.int (iI q)) ∧ w = wPlan z ph pa pr pt pd pb fP fR fT
abbrev rm_X6_isDate : Room := { frames := 1, cells := 0, slots := 0, locals := 40 }
set_option maxHeartbeats 4000000 in
set_option maxRecDepth 100000 in
theorem cc_X6_isDate (l : Launch) (z : zC) (ph : Nat) (pa : Nat) (pr : Nat) (pt : Nat) (pd : Int) (pb : Int) (fP : Int → Int) (fR : Int → Int) (fT : Int → Int) (date : Int) (hpd : 1 ≤ pd ∧ pd ≤ 4) (hda : -2147483648 ≤ date ∧ date < 2147483648) : zzMet l yX6_isDate cX6_isDate 2 (Option.some .boolean) rm_X6_isDate z [.ref ph, .int (iI date)] (wPlan z ph pa pr pt pd pb fP fR fT) (po_X6_isDate z ph pa pr pt pd pb fP fR fT date) := by
  refine zzMet.of (own := RX6) (ls0 := [(0, .ref ph), (1, .int (iI date))]) (by decide) rfl (Nat.le_of_ble_eq_true rfl) rfl ?_
  intro p e s m below meth c A C hr hnm
  refine zz_iload_n C 1 dX6_isDate_0 rfl rfl ?_
  refine zz_iconst C dX6_isDate_1 ?_
  refine zz_icmp_lt (tgt := 22) C dX6_isDate_2 (by decide) (by unfold rI; omega) (by unfold rI; omega) (fun c2 => ?_) (fun c2 => ?_)
  · skip
    refine zz_iconst C dX6_isDate_22 ?_
    exact zz_zret C hr (by decide +kernel) dX6_isDate_23 ⟨0, Or.inr ⟨rfl, by omega⟩, rfl, rfl⟩
  · skip
    refine zz_iload_n C 1 dX6_isDate_5 rfl rfl ?_
    refine zz_aload_n C 0 dX6_isDate_6 rfl rfl ?_
    refine zz_get C 0 (ci := 6) (k := 0) rfl rfl in_X6 (by decide) qw_292 rfl rfl dX6_isDate_7 ?_
    refine zz_icmp_gt (tgt := 22) C dX6_isDate_10 (by decide) (by unfold rI; omega) (by unfold rI; omega) (fun c10 => ?_) (fun c10 => ?_)
    · skip
      refine zz_iconst C dX6_isDate_22 ?_
      exact zz_zret C hr (by decide +kernel) dX6_isDate_23 ⟨0, Or.inr ⟨rfl, by omega⟩, rfl, rfl⟩
    · skip
      refine zz_iload_n C 1 dX6_isDate_13 rfl rfl ?_
      refine zz_iconst C dX6_isDate_14 ?_
      refine zz_icmp_gt (tgt := 22) C dX6_isDate_15 (by decide) (by unfold rI; omega) (by unfold rI; omega) (fun c15 => ?_) (fun c15 => ?_)
      · skip
        refine zz_iconst C dX6_isDate_22 ?_
        exact zz_zret C hr (by decide +kernel) dX6_isDate_23 ⟨0, Or.inr ⟨rfl, by omega⟩, rfl, rfl⟩
      · skip
        refine zz_iconst C dX6_isDate_18 ?_
        refine zz_goto (tgt := 23) C dX6_isDate_19 (by decide) ?_
        exact zz_zret C hr (by decide +kernel) dX6_isDate_23 ⟨1, Or.inl ⟨rfl, by omega⟩, rfl, rfl⟩
abbrev po_X6_paidAt (z : zC) (ph : Nat) (pa : Nat) (pr : Nat) (pt : Nat) (pd : Int) (pb : Int) (fP : Int → Int) (fR : Int → Int) (fT : Int → Int) (date : Int) : Option Value → va_W → Prop := fun v w => v = some (Value.int (iI (plAt pd fP date))) ∧ w = wPlan z ph pa pr pt pd pb fP fR fT
abbrev rm_X6_paidAt : Room := { frames := 2, cells := 0, slots := 0, locals := 61 }
set_option maxHeartbeats 4000000 in
set_option maxRecDepth 100000 in
theorem cc_X6_paidAt (l : Launch) (z : zC) (ph : Nat) (pa : Nat) (pr : Nat) (pt : Nat) (pd : Int) (pb : Int) (fP : Int → Int) (fR : Int → Int) (fT : Int → Int) (date : Int) (hpd : 1 ≤ pd ∧ pd ≤ 4) (hpb : 0 ≤ pb ∧ pb ≤ 5) (hda : -2147483648 ≤ date ∧ date < 2147483648) : zzMet l yX6_paidAt cX6_paidAt 2 (Option.some .int) rm_X6_paidAt z [.ref ph, .int (iI date)] (wPlan z ph pa pr pt pd pb fP fR fT) (po_X6_paidAt z ph pa pr pt pd pb fP fR fT date) := by
  refine zzMet.of (own := RX6) (ls0 := [(0, .ref ph), (1, .int (iI date))]) (by decide) rfl (Nat.le_of_ble_eq_true rfl) rfl ?_
  intro p e s m below meth c A C hr hnm
  refine zz_aload_n C 0 dX6_paidAt_0 rfl rfl ?_
  refine zz_iload_n C 1 dX6_paidAt_1 rfl rfl ?_
  refine zz_callV (wr := ([] : va_W)) (st := []) C (cc_X6_isDate l z ph pa pr pt pd pb fP fR fT date (by omega) (by omega)) yk_X6_isDate qw_379 ⟨by decide, by decide⟩ [0, 1, 2, 3] [] rfl rfl rfl rfl (by decide) 0 6 rfl rfl rfl rfl (Nat.le_of_ble_eq_true rfl) dX6_paidAt_2 ⟨by decide, by decide⟩ ?_
  rintro _ _ ⟨q_2, hq_2, rfl, rfl⟩
  refine zz_st (st' := [.int (iI q_2)]) rfl (zz_ws (ws' := wPlan z ph pa pr pt pd pb fP fR fT) rfl ?_)
  refine zz_if_eq (tgt := 17) C dX6_paidAt_5 (by decide) (by unfold rI; omega) (fun c5 => ?_) (fun c5 => ?_)
  · skip
    refine zz_iconst C dX6_paidAt_17 ?_
    exact zz_iret C hr dX6_paidAt_18 ⟨zz_vI (by unfold plAt; split <;> first | rfl | (exfalso; omega)), rfl⟩
  · skip
    refine zz_aload_n C 0 dX6_paidAt_8 rfl rfl ?_
    refine zz_get C 0 (ci := 6) (k := 2) rfl rfl in_X6 (by decide) qw_302 rfl rfl dX6_paidAt_9 ?_
    refine zz_iload_n C 1 dX6_paidAt_12 rfl rfl ?_
    refine zz_iald C 1 rfl (by omega) (by omega) (by decide) dX6_paidAt_13 ?_
    refine zz_goto (tgt := 18) C dX6_paidAt_14 (by decide) ?_
    exact zz_iret C hr dX6_paidAt_18 ⟨zz_vI (by unfold plAt; split <;> first | rfl | (exfalso; omega)), rfl⟩
abbrev po_X6_rateAt (z : zC) (ph : Nat) (pa : Nat) (pr : Nat) (pt : Nat) (pd : Int) (pb : Int) (fP : Int → Int) (fR : Int → Int) (fT : Int → Int) (date : Int) : Option Value → va_W → Prop := fun v w => v = some (Value.int (iI (plAt pd fR date))) ∧ w = wPlan z ph pa pr pt pd pb fP fR fT
abbrev rm_X6_rateAt : Room := { frames := 2, cells := 0, slots := 0, locals := 61 }
set_option maxHeartbeats 4000000 in
set_option maxRecDepth 100000 in
theorem cc_X6_rateAt (l : Launch) (z : zC) (ph : Nat) (pa : Nat) (pr : Nat) (pt : Nat) (pd : Int) (pb : Int) (fP : Int → Int) (fR : Int → Int) (fT : Int → Int) (date : Int) (hpd : 1 ≤ pd ∧ pd ≤ 4) (hpb : 0 ≤ pb ∧ pb ≤ 5) (hda : -2147483648 ≤ date ∧ date < 2147483648) : zzMet l yX6_rateAt cX6_rateAt 2 (Option.some .int) rm_X6_rateAt z [.ref ph, .int (iI date)] (wPlan z ph pa pr pt pd pb fP fR fT) (po_X6_rateAt z ph pa pr pt pd pb fP fR fT date) := by
  refine zzMet.of (own := RX6) (ls0 := [(0, .ref ph), (1, .int (iI date))]) (by decide) rfl (Nat.le_of_ble_eq_true rfl) rfl ?_
  intro p e s m below meth c A C hr hnm
  refine zz_aload_n C 0 dX6_rateAt_0 rfl rfl ?_
  refine zz_iload_n C 1 dX6_rateAt_1 rfl rfl ?_
  refine zz_callV (wr := ([] : va_W)) (st := []) C (cc_X6_isDate l z ph pa pr pt pd pb fP fR fT date (by omega) (by omega)) yk_X6_isDate qw_379 ⟨by decide, by decide⟩ [0, 1, 2, 3] [] rfl rfl rfl rfl (by decide) 0 6 rfl rfl rfl rfl (Nat.le_of_ble_eq_true rfl) dX6_rateAt_2 ⟨by decide, by decide⟩ ?_
  rintro _ _ ⟨q_2, hq_2, rfl, rfl⟩
  refine zz_st (st' := [.int (iI q_2)]) rfl (zz_ws (ws' := wPlan z ph pa pr pt pd pb fP fR fT) rfl ?_)
  refine zz_if_eq (tgt := 17) C dX6_rateAt_5 (by decide) (by unfold rI; omega) (fun c5 => ?_) (fun c5 => ?_)
  · skip
    refine zz_iconst C dX6_rateAt_17 ?_
    exact zz_iret C hr dX6_rateAt_18 ⟨zz_vI (by unfold plAt; split <;> first | rfl | (exfalso; omega)), rfl⟩
  · skip
    refine zz_aload_n C 0 dX6_rateAt_8 rfl rfl ?_
    refine zz_get C 0 (ci := 6) (k := 3) rfl rfl in_X6 (by decide) qw_303 rfl rfl dX6_rateAt_9 ?_
    refine zz_iload_n C 1 dX6_rateAt_12 rfl rfl ?_
    refine zz_iald C 2 rfl (by omega) (by omega) (by decide) dX6_rateAt_13 ?_
    refine zz_goto (tgt := 18) C dX6_rateAt_14 (by decide) ?_
    exact zz_iret C hr dX6_rateAt_18 ⟨zz_vI (by unfold plAt; split <;> first | rfl | (exfalso; omega)), rfl⟩
abbrev po_X6_growth (z : zC) (ph : Nat) (pa : Nat) (pr : Nat) (pt : Nat) (pd : Int) (pb : Int) (fP : Int → Int) (fR : Int → Int) (fT : Int → Int) (date : Int) : Option Value → va_W → Prop := fun v w => v = some (Value.int (iI (20 + plAt pd fR date))) ∧ w = wPlan z ph pa pr pt pd pb fP fR fT
abbrev rm_X6_growth : Room := { frames := 3, cells := 0, slots := 0, locals := 82 }
set_option maxHeartbeats 4000000 in
set_option maxRecDepth 100000 in
theorem cc_X6_growth (l : Launch) (z : zC) (ph : Nat) (pa : Nat) (pr : Nat) (pt : Nat) (pd : Int) (pb : Int) (fP : Int → Int) (fR : Int → Int) (fT : Int → Int) (date : Int) (hpd : 1 ≤ pd ∧ pd ≤ 4) (hpb : 0 ≤ pb ∧ pb ≤ 5) (hda : -2147483648 ≤ date ∧ date < 2147483648) : zzMet l yX6_growth cX6_growth 2 (Option.some .int) rm_X6_growth z [.ref ph, .int (iI date)] (wPlan z ph pa pr pt pd pb fP fR fT) (po_X6_growth z ph pa pr pt pd pb fP fR fT date) := by
  refine zzMet.of (own := RX6) (ls0 := [(0, .ref ph), (1, .int (iI date))]) (by decide) rfl (Nat.le_of_ble_eq_true rfl) rfl ?_
  intro p e s m below meth c A C hr hnm
  refine zz_bipush C dX6_growth_0 (by decide +kernel) ?_
  refine zz_aload_n C 0 dX6_growth_2 rfl rfl ?_
  refine zz_iload_n C 1 dX6_growth_3 rfl rfl ?_
  refine zz_callV (wr := ([] : va_W)) (st := [.int (iI 20)]) C (cc_X6_rateAt l z ph pa pr pt pd pb fP fR fT date (by omega) (by omega) (by omega)) yk_X6_rateAt qw_637 ⟨by decide, by decide⟩ [0, 1, 2, 3] [] rfl rfl rfl rfl (by decide) 0 6 rfl rfl rfl rfl (Nat.le_of_ble_eq_true rfl) dX6_growth_4 ⟨by decide, by decide⟩ ?_
  rintro _ _ ⟨rfl, rfl⟩
  refine zz_st (st' := [.int (iI (plAt pd fR date)), .int (iI 20)]) rfl (zz_ws (ws' := wPlan z ph pa pr pt pd pb fP fR fT) rfl ?_)
  refine zz_iadd C dX6_growth_7 ?_
  exact zz_iret C hr dX6_growth_8 ⟨zz_vI rfl, rfl⟩
abbrev po_X6_setPaid (z : zC) (ph : Nat) (pa : Nat) (pr : Nat) (pt : Nat) (pd : Int) (pb : Int) (fP : Int → Int) (fR : Int → Int) (fT : Int → Int) (date : Int) (v9 : Int) : Option Value → va_W → Prop := fun v w => v = none ∧ w = wPlan z ph pa pr pt pd pb (zup fP date v9) fR fT
abbrev rm_X6_setPaid : Room := { frames := 2, cells := 0, slots := 0, locals := 61 }
set_option maxHeartbeats 4000000 in
set_option maxRecDepth 100000 in
theorem cc_X6_setPaid (l : Launch) (z : zC) (ph : Nat) (pa : Nat) (pr : Nat) (pt : Nat) (pd : Int) (pb : Int) (fP : Int → Int) (fR : Int → Int) (fT : Int → Int) (date : Int) (v9 : Int) (hpd : 1 ≤ pd ∧ pd ≤ 4) (hpb : 0 ≤ pb ∧ pb ≤ 5) (hda : 1 ≤ date ∧ date ≤ pd) : zzMet l yX6_setPaid cX6_setPaid 3 none rm_X6_setPaid z [.ref ph, .int (iI date), .int (iI v9)] (wPlan z ph pa pr pt pd pb fP fR fT) (po_X6_setPaid z ph pa pr pt pd pb fP fR fT date v9) := by
  refine zzMet.of (own := RX6) (ls0 := [(0, .ref ph), (1, .int (iI date)), (2, .int (iI v9))]) (by decide) rfl (Nat.le_of_ble_eq_true rfl) rfl ?_
  intro p e s m below meth c A C hr hnm
  refine zz_aload_n C 0 dX6_setPaid_0 rfl rfl ?_
  refine zz_iload_n C 1 dX6_setPaid_1 rfl rfl ?_
  refine zz_callV (wr := ([] : va_W)) (st := []) C (cc_X6_isDate l z ph pa pr pt pd pb fP fR fT date (by omega) (by omega)) yk_X6_isDate qw_379 ⟨by decide, by decide⟩ [0, 1, 2, 3] [] rfl rfl rfl rfl (by decide) 0 6 rfl rfl rfl rfl (Nat.le_of_ble_eq_true rfl) dX6_setPaid_2 ⟨by decide, by decide⟩ ?_
  rintro _ _ ⟨q_2, hq_2, rfl, rfl⟩
  refine zz_st (st' := [.int (iI q_2)]) rfl (zz_ws (ws' := wPlan z ph pa pr pt pd pb fP fR fT) rfl ?_)
  refine zz_if_eq (tgt := 15) C dX6_setPaid_5 (by decide) (by unfold rI; omega) (fun c5 => ?_) (fun c5 => ?_)
  · skip
    exfalso; omega
  · skip
    refine zz_aload_n C 0 dX6_setPaid_8 rfl rfl ?_
    refine zz_get C 0 (ci := 6) (k := 2) rfl rfl in_X6 (by decide) qw_302 rfl rfl dX6_setPaid_9 ?_
    refine zz_iload_n C 1 dX6_setPaid_12 rfl rfl ?_
    refine zz_iload_n C 2 dX6_setPaid_13 rfl rfl ?_
    refine zz_iast (ws' := wPlan z ph pa pr pt pd pb (zup fP date v9) fR fT) C 1 rfl (by omega) (by omega) (by decide) rfl dX6_setPaid_14 ?_
    exact zz_vret C hr dX6_setPaid_15 ⟨rfl, rfl⟩
abbrev po_X6_setRate (z : zC) (ph : Nat) (pa : Nat) (pr : Nat) (pt : Nat) (pd : Int) (pb : Int) (fP : Int → Int) (fR : Int → Int) (fT : Int → Int) (date : Int) (v9 : Int) : Option Value → va_W → Prop := fun v w => v = none ∧ w = wPlan z ph pa pr pt pd pb fP (zup fR date v9) fT
abbrev rm_X6_setRate : Room := { frames := 2, cells := 0, slots := 0, locals := 61 }
set_option maxHeartbeats 4000000 in
set_option maxRecDepth 100000 in
theorem cc_X6_setRate (l : Launch) (z : zC) (ph : Nat) (pa : Nat) (pr : Nat) (pt : Nat) (pd : Int) (pb : Int) (fP : Int → Int) (fR : Int → Int) (fT : Int → Int) (date : Int) (v9 : Int) (hpd : 1 ≤ pd ∧ pd ≤ 4) (hpb : 0 ≤ pb ∧ pb ≤ 5) (hda : 1 ≤ date ∧ date ≤ pd) : zzMet l yX6_setRate cX6_setRate 3 none rm_X6_setRate z [.ref ph, .int (iI date), .int (iI v9)] (wPlan z ph pa pr pt pd pb fP fR fT) (po_X6_setRate z ph pa pr pt pd pb fP fR fT date v9) := by
  refine zzMet.of (own := RX6) (ls0 := [(0, .ref ph), (1, .int (iI date)), (2, .int (iI v9))]) (by decide) rfl (Nat.le_of_ble_eq_true rfl) rfl ?_
  intro p e s m below meth c A C hr hnm
  refine zz_aload_n C 0 dX6_setRate_0 rfl rfl ?_
  refine zz_iload_n C 1 dX6_setRate_1 rfl rfl ?_
  refine zz_callV (wr := ([] : va_W)) (st := []) C (cc_X6_isDate l z ph pa pr pt pd pb fP fR fT date (by omega) (by omega)) yk_X6_isDate qw_379 ⟨by decide, by decide⟩ [0, 1, 2, 3] [] rfl rfl rfl rfl (by decide) 0 6 rfl rfl rfl rfl (Nat.le_of_ble_eq_true rfl) dX6_setRate_2 ⟨by decide, by decide⟩ ?_
  rintro _ _ ⟨q_2, hq_2, rfl, rfl⟩
  refine zz_st (st' := [.int (iI q_2)]) rfl (zz_ws (ws' := wPlan z ph pa pr pt pd pb fP fR fT) rfl ?_)
  refine zz_if_eq (tgt := 15) C dX6_setRate_5 (by decide) (by unfold rI; omega) (fun c5 => ?_) (fun c5 => ?_)
  · skip
    exfalso; omega
  · skip
    refine zz_aload_n C 0 dX6_setRate_8 rfl rfl ?_
    refine zz_get C 0 (ci := 6) (k := 3) rfl rfl in_X6 (by decide) qw_303 rfl rfl dX6_setRate_9 ?_
    refine zz_iload_n C 1 dX6_setRate_12 rfl rfl ?_
    refine zz_iload_n C 2 dX6_setRate_13 rfl rfl ?_
    refine zz_iast (ws' := wPlan z ph pa pr pt pd pb fP (zup fR date v9) fT) C 2 rfl (by omega) (by omega) (by decide) rfl dX6_setRate_14 ?_
    exact zz_vret C hr dX6_setRate_15 ⟨rfl, rfl⟩
abbrev po_X6_yieldAt (z : zC) (ph : Nat) (pa : Nat) (pr : Nat) (pt : Nat) (pd : Int) (pb : Int) (fP : Int → Int) (fR : Int → Int) (fT : Int → Int) (bond : Int) (date : Int) : Option Value → va_W → Prop := fun v w => v = some (Value.int (iI (plYield pb fT bond date))) ∧ w = wPlan z ph pa pr pt pd pb fP fR fT
abbrev rm_X6_yieldAt : Room := { frames := 3, cells := 0, slots := 0, locals := 84 }
set_option maxHeartbeats 4000000 in
set_option maxRecDepth 100000 in
theorem cc_X6_yieldAt (l : Launch) (z : zC) (ph : Nat) (pa : Nat) (pr : Nat) (pt : Nat) (pd : Int) (pb : Int) (fP : Int → Int) (fR : Int → Int) (fT : Int → Int) (bond : Int) (date : Int) (hpb : 0 ≤ pb ∧ pb ≤ 5) (hfT : ∀ i : Int, 0 ≤ fT i ∧ fT i ≤ 200) (hbo : -2147483648 ≤ bond ∧ bond < 2147483648) (hda : -2147483648 ≤ date ∧ date < 2147483648) : zzMet l yX6_yieldAt cX6_yieldAt 5 (Option.some .int) rm_X6_yieldAt z [.ref ph, .int (iI bond), .int (iI date)] (wPlan z ph pa pr pt pd pb fP fR fT) (po_X6_yieldAt z ph pa pr pt pd pb fP fR fT bond date) := by
  refine zzMet.of (own := RX6) (ls0 := [(0, .ref ph), (1, .int (iI bond)), (2, .int (iI date))]) (by decide) rfl (Nat.le_of_ble_eq_true rfl) rfl ?_
  intro p e s m below meth c A C hr hnm
  have t0 := plTerm_rng pb hfT bond 0
  have t1 := plTerm_rng pb hfT bond 1
  have t2 := plTerm_rng pb hfT bond 2
  have t5 := plTerm_rng pb hfT bond 5
  have tl := plLast_rng pb hfT bond
  refine zz_aload_n C 0 dX6_yieldAt_0 rfl rfl ?_
  refine zz_iload_n C 1 dX6_yieldAt_1 rfl rfl ?_
  refine zz_iconst C dX6_yieldAt_2 ?_
  refine zz_callV (wr := ([] : va_W)) (st := []) C (cc_X6_term l z ph pa pr pt pd pb fP fR fT bond 5 (by omega) (by omega) (by omega)) yk_X6_term qw_631 ⟨by decide, by decide⟩ [0, 1, 2, 3] [] rfl rfl rfl rfl (by decide) 0 6 rfl rfl rfl rfl (Nat.le_of_ble_eq_true rfl) dX6_yieldAt_3 ⟨by decide, by decide⟩ ?_
  rintro _ _ ⟨rfl, rfl⟩
  refine zz_st (st' := [.int (iI (plTerm pb fT bond 5))]) rfl (zz_ws (ws' := wPlan z ph pa pr pt pd pb fP fR fT) rfl ?_)
  refine zz_istore_n (ls' := [(3, .int (iI (plTerm pb fT bond 5))), (0, .ref ph), (1, .int (iI bond)), (2, .int (iI date))]) C dX6_yieldAt_6 rfl (by decide) rfl ?_
  refine zz_iload_n C 0 dX6_yieldAt_7 rfl rfl ?_
  refine zz_if_le (tgt := 15) C dX6_yieldAt_8 (by decide) (by unfold rI; omega) (fun c8 => ?_) (fun c8 => ?_)
  · skip
    refine zz_aload_n C 1 dX6_yieldAt_15 rfl rfl ?_
    refine zz_iload_n C 2 dX6_yieldAt_16 rfl rfl ?_
    refine zz_iconst C dX6_yieldAt_17 ?_
    refine zz_callV (wr := ([] : va_W)) (st := []) C (cc_X6_term l z ph pa pr pt pd pb fP fR fT bond 2 (by omega) (by omega) (by omega)) yk_X6_term qw_631 ⟨by decide, by decide⟩ [0, 1, 2, 3] [] rfl rfl rfl rfl (by decide) 0 6 rfl rfl rfl rfl (Nat.le_of_ble_eq_true rfl) dX6_yieldAt_18 ⟨by decide, by decide⟩ ?_
    rintro _ _ ⟨rfl, rfl⟩
    refine zz_st (st' := [.int (iI (plTerm pb fT bond 2))]) rfl (zz_ws (ws' := wPlan z ph pa pr pt pd pb fP fR fT) rfl ?_)
    have Jn21 : ∀ (last : Int), (last = plLast pb fT bond) → zzW p l e rm_X6_yieldAt s m ([.ref ph, .int (iI bond), .int (iI date)] : List Value).toArray below meth c z A 5 (MQ below (zQ z A (po_X6_yieldAt z ph pa pr pt pd pb fP fR fT bond date)) ([.ref ph, .int (iI bond), .int (iI date)] : List Value).toArray s 0 0 A) 0 0 (wPlan z ph pa pr pt pd pb fP fR fT) [(0, .ref ph), (1, .int (iI bond)), (2, .int (iI date)), (3, .int (iI (plTerm pb fT bond 5)))] [.int (iI last)] 21 := by
      intro last hla
      refine zz_istore (ls' := [(4, .int (iI last)), (0, .ref ph), (1, .int (iI bond)), (2, .int (iI date)), (3, .int (iI (plTerm pb fT bond 5)))]) C dX6_yieldAt_21 (by decide) rfl ?_
      refine zz_iload_n C 3 dX6_yieldAt_23 rfl rfl ?_
      refine zz_iconst C dX6_yieldAt_24 ?_
      refine zz_icmp_lt (tgt := 34) C dX6_yieldAt_25 (by decide) (by unfold rI; omega) (by unfold rI; omega) (fun c25 => ?_) (fun c25 => ?_)
      · skip
        refine zz_iconst C dX6_yieldAt_34 ?_
        exact zz_iret C hr dX6_yieldAt_35 ⟨zz_vI (by unfold plYield; rw [if_pos (by omega)]), rfl⟩
      · skip
        refine zz_iload_n C 3 dX6_yieldAt_28 rfl rfl ?_
        refine zz_iload C 0 dX6_yieldAt_29 rfl ?_
        refine zz_icmp_le (tgt := 36) C dX6_yieldAt_31 (by decide) (by unfold rI; omega) (by unfold rI; omega) (fun c31 => ?_) (fun c31 => ?_)
        · skip
          refine zz_aload_n C 1 dX6_yieldAt_36 rfl rfl ?_
          refine zz_iload_n C 2 dX6_yieldAt_37 rfl rfl ?_
          refine zz_iconst C dX6_yieldAt_38 ?_
          refine zz_callV (wr := ([] : va_W)) (st := []) C (cc_X6_term l z ph pa pr pt pd pb fP fR fT bond 0 (by omega) (by omega) (by omega)) yk_X6_term qw_631 ⟨by decide, by decide⟩ [0, 1, 2, 3] [] rfl rfl rfl rfl (by decide) 0 6 rfl rfl rfl rfl (Nat.le_of_ble_eq_true rfl) dX6_yieldAt_39 ⟨by decide, by decide⟩ ?_
          rintro _ _ ⟨rfl, rfl⟩
          refine zz_st (st' := [.int (iI (plTerm pb fT bond 0))]) rfl (zz_ws (ws' := wPlan z ph pa pr pt pd pb fP fR fT) rfl ?_)
          refine zz_iload_n C 3 dX6_yieldAt_42 rfl rfl ?_
          refine zz_iload C 0 dX6_yieldAt_43 rfl ?_
          refine zz_icmp_ne (tgt := 57) C dX6_yieldAt_45 (by decide) (by unfold rI; omega) (by unfold rI; omega) (fun c45 => ?_) (fun c45 => ?_)
          · skip
            refine zz_iconst C dX6_yieldAt_57 ?_
            have Jn58 : ∀ (ex9 : Int), (ex9 = if date = plLast pb fT bond then plTerm pb fT bond 1 else 0) → zzW p l e rm_X6_yieldAt s m ([.ref ph, .int (iI bond), .int (iI date)] : List Value).toArray below meth c z A 5 (MQ below (zQ z A (po_X6_yieldAt z ph pa pr pt pd pb fP fR fT bond date)) ([.ref ph, .int (iI bond), .int (iI date)] : List Value).toArray s 0 0 A) 0 0 (wPlan z ph pa pr pt pd pb fP fR fT) [(0, .ref ph), (1, .int (iI bond)), (2, .int (iI date)), (3, .int (iI (plTerm pb fT bond 5))), (4, .int (iI last))] [.int (iI ex9), .int (iI (plTerm pb fT bond 0))] 58 := by
              intro ex9 hex
              refine zz_iadd C dX6_yieldAt_58 ?_
              exact zz_iret C hr dX6_yieldAt_59 ⟨zz_vI (by unfold plYield; rw [if_neg (by omega), hex]), rfl⟩
            refine zz_loc (ls' := [(0, .ref ph), (1, .int (iI bond)), (2, .int (iI date)), (3, .int (iI (plTerm pb fT bond 5))), (4, .int (iI last))]) [1, 2, 3, 4, 0] rfl ?_
            exact Jn58 0 (by split <;> first | rfl | (exfalso; omega))
          · skip
            refine zz_aload_n C 1 dX6_yieldAt_48 rfl rfl ?_
            refine zz_iload_n C 2 dX6_yieldAt_49 rfl rfl ?_
            refine zz_iconst C dX6_yieldAt_50 ?_
            refine zz_callV (wr := ([] : va_W)) (st := [.int (iI (plTerm pb fT bond 0))]) C (cc_X6_term l z ph pa pr pt pd pb fP fR fT bond 1 (by omega) (by omega) (by omega)) yk_X6_term qw_631 ⟨by decide, by decide⟩ [0, 1, 2, 3] [] rfl rfl rfl rfl (by decide) 0 6 rfl rfl rfl rfl (Nat.le_of_ble_eq_true rfl) dX6_yieldAt_51 ⟨by decide, by decide⟩ ?_
            rintro _ _ ⟨rfl, rfl⟩
            refine zz_st (st' := [.int (iI (plTerm pb fT bond 1)), .int (iI (plTerm pb fT bond 0))]) rfl (zz_ws (ws' := wPlan z ph pa pr pt pd pb fP fR fT) rfl ?_)
            refine zz_goto (tgt := 58) C dX6_yieldAt_54 (by decide) ?_
            have Jn58 : ∀ (ex9 : Int), (ex9 = if date = plLast pb fT bond then plTerm pb fT bond 1 else 0) → zzW p l e rm_X6_yieldAt s m ([.ref ph, .int (iI bond), .int (iI date)] : List Value).toArray below meth c z A 5 (MQ below (zQ z A (po_X6_yieldAt z ph pa pr pt pd pb fP fR fT bond date)) ([.ref ph, .int (iI bond), .int (iI date)] : List Value).toArray s 0 0 A) 0 0 (wPlan z ph pa pr pt pd pb fP fR fT) [(0, .ref ph), (1, .int (iI bond)), (2, .int (iI date)), (3, .int (iI (plTerm pb fT bond 5))), (4, .int (iI last))] [.int (iI ex9), .int (iI (plTerm pb fT bond 0))] 58 := by
              intro ex9 hex
              refine zz_iadd C dX6_yieldAt_58 ?_
              exact zz_iret C hr dX6_yieldAt_59 ⟨zz_vI (by unfold plYield; rw [if_neg (by omega), hex]), rfl⟩
            refine zz_loc (ls' := [(0, .ref ph), (1, .int (iI bond)), (2, .int (iI date)), (3, .int (iI (plTerm pb fT bond 5))), (4, .int (iI last))]) [1, 2, 3, 4, 0] rfl ?_
            exact Jn58 (plTerm pb fT bond 1) (by split <;> first | rfl | (exfalso; omega))
        · skip
          refine zz_iconst C dX6_yieldAt_34 ?_
          exact zz_iret C hr dX6_yieldAt_35 ⟨zz_vI (by unfold plYield; rw [if_pos (by omega)]), rfl⟩
    refine zz_loc (ls' := [(0, .ref ph), (1, .int (iI bond)), (2, .int (iI date)), (3, .int (iI (plTerm pb fT bond 5)))]) [1, 2, 3, 0] rfl ?_
    exact Jn21 (plTerm pb fT bond 2) (by unfold plLast; split <;> first | rfl | (exfalso; omega))
  · skip
    refine zz_iload_n C 0 dX6_yieldAt_11 rfl rfl ?_
    refine zz_goto (tgt := 21) C dX6_yieldAt_12 (by decide) ?_
    have Jn21 : ∀ (last : Int), (last = plLast pb fT bond) → zzW p l e rm_X6_yieldAt s m ([.ref ph, .int (iI bond), .int (iI date)] : List Value).toArray below meth c z A 5 (MQ below (zQ z A (po_X6_yieldAt z ph pa pr pt pd pb fP fR fT bond date)) ([.ref ph, .int (iI bond), .int (iI date)] : List Value).toArray s 0 0 A) 0 0 (wPlan z ph pa pr pt pd pb fP fR fT) [(0, .ref ph), (1, .int (iI bond)), (2, .int (iI date)), (3, .int (iI (plTerm pb fT bond 5)))] [.int (iI last)] 21 := by
      intro last hla
      refine zz_istore (ls' := [(4, .int (iI last)), (0, .ref ph), (1, .int (iI bond)), (2, .int (iI date)), (3, .int (iI (plTerm pb fT bond 5)))]) C dX6_yieldAt_21 (by decide) rfl ?_
      refine zz_iload_n C 3 dX6_yieldAt_23 rfl rfl ?_
      refine zz_iconst C dX6_yieldAt_24 ?_
      refine zz_icmp_lt (tgt := 34) C dX6_yieldAt_25 (by decide) (by unfold rI; omega) (by unfold rI; omega) (fun c25 => ?_) (fun c25 => ?_)
      · skip
        refine zz_iconst C dX6_yieldAt_34 ?_
        exact zz_iret C hr dX6_yieldAt_35 ⟨zz_vI (by unfold plYield; rw [if_pos (by omega)]), rfl⟩
      · skip
        refine zz_iload_n C 3 dX6_yieldAt_28 rfl rfl ?_
        refine zz_iload C 0 dX6_yieldAt_29 rfl ?_
        refine zz_icmp_le (tgt := 36) C dX6_yieldAt_31 (by decide) (by unfold rI; omega) (by unfold rI; omega) (fun c31 => ?_) (fun c31 => ?_)
        · skip
          refine zz_aload_n C 1 dX6_yieldAt_36 rfl rfl ?_
          refine zz_iload_n C 2 dX6_yieldAt_37 rfl rfl ?_
          refine zz_iconst C dX6_yieldAt_38 ?_
          refine zz_callV (wr := ([] : va_W)) (st := []) C (cc_X6_term l z ph pa pr pt pd pb fP fR fT bond 0 (by omega) (by omega) (by omega)) yk_X6_term qw_631 ⟨by decide, by decide⟩ [0, 1, 2, 3] [] rfl rfl rfl rfl (by decide) 0 6 rfl rfl rfl rfl (Nat.le_of_ble_eq_true rfl) dX6_yieldAt_39 ⟨by decide, by decide⟩ ?_
          rintro _ _ ⟨rfl, rfl⟩
          refine zz_st (st' := [.int (iI (plTerm pb fT bond 0))]) rfl (zz_ws (ws' := wPlan z ph pa pr pt pd pb fP fR fT) rfl ?_)
          refine zz_iload_n C 3 dX6_yieldAt_42 rfl rfl ?_
          refine zz_iload C 0 dX6_yieldAt_43 rfl ?_
          refine zz_icmp_ne (tgt := 57) C dX6_yieldAt_45 (by decide) (by unfold rI; omega) (by unfold rI; omega) (fun c45 => ?_) (fun c45 => ?_)
          · skip
            refine zz_iconst C dX6_yieldAt_57 ?_
            have Jn58 : ∀ (ex9 : Int), (ex9 = if date = plLast pb fT bond then plTerm pb fT bond 1 else 0) → zzW p l e rm_X6_yieldAt s m ([.ref ph, .int (iI bond), .int (iI date)] : List Value).toArray below meth c z A 5 (MQ below (zQ z A (po_X6_yieldAt z ph pa pr pt pd pb fP fR fT bond date)) ([.ref ph, .int (iI bond), .int (iI date)] : List Value).toArray s 0 0 A) 0 0 (wPlan z ph pa pr pt pd pb fP fR fT) [(0, .ref ph), (1, .int (iI bond)), (2, .int (iI date)), (3, .int (iI (plTerm pb fT bond 5))), (4, .int (iI last))] [.int (iI ex9), .int (iI (plTerm pb fT bond 0))] 58 := by
              intro ex9 hex
              refine zz_iadd C dX6_yieldAt_58 ?_
              exact zz_iret C hr dX6_yieldAt_59 ⟨zz_vI (by unfold plYield; rw [if_neg (by omega), hex]), rfl⟩
            refine zz_loc (ls' := [(0, .ref ph), (1, .int (iI bond)), (2, .int (iI date)), (3, .int (iI (plTerm pb fT bond 5))), (4, .int (iI last))]) [1, 2, 3, 4, 0] rfl ?_
            exact Jn58 0 (by split <;> first | rfl | (exfalso; omega))
          · skip
            refine zz_aload_n C 1 dX6_yieldAt_48 rfl rfl ?_
            refine zz_iload_n C 2 dX6_yieldAt_49 rfl rfl ?_
            refine zz_iconst C dX6_yieldAt_50 ?_
            refine zz_callV (wr := ([] : va_W)) (st := [.int (iI (plTerm pb fT bond 0))]) C (cc_X6_term l z ph pa pr pt pd pb fP fR fT bond 1 (by omega) (by omega) (by omega)) yk_X6_term qw_631 ⟨by decide, by decide⟩ [0, 1, 2, 3] [] rfl rfl rfl rfl (by decide) 0 6 rfl rfl rfl rfl (Nat.le_of_ble_eq_true rfl) dX6_yieldAt_51 ⟨by decide, by decide⟩ ?_
            rintro _ _ ⟨rfl, rfl⟩
            refine zz_st (st' := [.int (iI (plTerm pb fT bond 1)), .int (iI (plTerm pb fT bond 0))]) rfl (zz_ws (ws' := wPlan z ph pa pr pt pd pb fP fR fT) rfl ?_)
            refine zz_goto (tgt := 58) C dX6_yieldAt_54 (by decide) ?_
            have Jn58 : ∀ (ex9 : Int), (ex9 = if date = plLast pb fT bond then plTerm pb fT bond 1 else 0) → zzW p l e rm_X6_yieldAt s m ([.ref ph, .int (iI bond), .int (iI date)] : List Value).toArray below meth c z A 5 (MQ below (zQ z A (po_X6_yieldAt z ph pa pr pt pd pb fP fR fT bond date)) ([.ref ph, .int (iI bond), .int (iI date)] : List Value).toArray s 0 0 A) 0 0 (wPlan z ph pa pr pt pd pb fP fR fT) [(0, .ref ph), (1, .int (iI bond)), (2, .int (iI date)), (3, .int (iI (plTerm pb fT bond 5))), (4, .int (iI last))] [.int (iI ex9), .int (iI (plTerm pb fT bond 0))] 58 := by
              intro ex9 hex
              refine zz_iadd C dX6_yieldAt_58 ?_
              exact zz_iret C hr dX6_yieldAt_59 ⟨zz_vI (by unfold plYield; rw [if_neg (by omega), hex]), rfl⟩
            refine zz_loc (ls' := [(0, .ref ph), (1, .int (iI bond)), (2, .int (iI date)), (3, .int (iI (plTerm pb fT bond 5))), (4, .int (iI last))]) [1, 2, 3, 4, 0] rfl ?_
            exact Jn58 (plTerm pb fT bond 1) (by split <;> first | rfl | (exfalso; omega))
        · skip
          refine zz_iconst C dX6_yieldAt_34 ?_
          exact zz_iret C hr dX6_yieldAt_35 ⟨zz_vI (by unfold plYield; rw [if_pos (by omega)]), rfl⟩
    refine zz_loc (ls' := [(0, .ref ph), (1, .int (iI bond)), (2, .int (iI date)), (3, .int (iI (plTerm pb fT bond 5)))]) [1, 2, 3, 0] rfl ?_
    exact Jn21 (plTerm pb fT bond 5) (by unfold plLast; split <;> first | rfl | (exfalso; omega))
abbrev po_X6_begin (z : zC) (ph : Nat) (pa : Nat) (pr : Nat) (pt : Nat) (pd : Int) (pb : Int) (fP : Int → Int) (fR : Int → Int) (fT : Int → Int) (t9 : Int) : Option Value → va_W → Prop := fun v w => ∃ (gP : Int → Int), ∃ (gR : Int → Int), (∀ i : Int, gP i = if 0 ≤ i ∧ i < 5 then 0 else fP i) ∧ (∀ i : Int, gR i = if 0 ≤ i ∧ i < 5 then 0 else fR i) ∧ v = none ∧ w = wPlan z ph pa pr pt t9 0 gP gR fT
abbrev rm_X6_begin : Room := { frames := 1, cells := 0, slots := 0, locals := 40 }
set_option maxHeartbeats 4000000 in
set_option maxRecDepth 100000 in
theorem cc_X6_begin (l : Launch) (z : zC) (ph : Nat) (pa : Nat) (pr : Nat) (pt : Nat) (pd : Int) (pb : Int) (fP : Int → Int) (fR : Int → Int) (fT : Int → Int) (t9 : Int) (ht9 : 1 ≤ t9 ∧ t9 ≤ 4) : zzMet l yX6_begin cX6_begin 3 none rm_X6_begin z [.ref ph, .int (iI t9)] (wPlan z ph pa pr pt pd pb fP fR fT) (po_X6_begin z ph pa pr pt pd pb fP fR fT t9) := by
  refine zzMet.of (own := RX6) (ls0 := [(0, .ref ph), (1, .int (iI t9))]) (by decide) rfl (Nat.le_of_ble_eq_true rfl) rfl ?_
  intro p e s m below meth c A C hr hnm
  refine zz_aload_n C 0 dX6_begin_0 rfl rfl ?_
  refine zz_iload_n C 1 dX6_begin_1 rfl rfl ?_
  refine zz_put (ty := .int) (ws' := wPlan z ph pa pr pt t9 pb fP fR fT) C 0 (ci := 6) (k := 0) rfl rfl in_X6 tyX6 tyX6_ok nmX6 (by decide) qw_292 rfl rfl (by decide +kernel) rfl rfl (Nat.le_of_ble_eq_true rfl) rfl dX6_begin_2 ?_
  refine zz_aload_n C 0 dX6_begin_5 rfl rfl ?_
  refine zz_iconst C dX6_begin_6 ?_
  refine zz_put (ty := .int) (ws' := wPlan z ph pa pr pt t9 0 fP fR fT) C 0 (ci := 6) (k := 1) rfl rfl in_X6 tyX6 tyX6_ok nmX6 (by decide) qw_297 rfl rfl (by decide +kernel) rfl rfl (Nat.le_of_ble_eq_true rfl) rfl dX6_begin_7 ?_
  refine zz_iconst C dX6_begin_10 ?_
  refine zz_istore_n (ls' := [(2, .int (iI 0)), (0, .ref ph), (1, .int (iI t9))]) C dX6_begin_11 rfl (by decide) rfl ?_
  have Lp12 : ∀ (fu9 : Nat) (k : Int) (gP : Int → Int) (gR : Int → Int), (0 ≤ k ∧ k ≤ 5) → (∀ i : Int, gP i = if 0 ≤ i ∧ i < k then 0 else fP i) → (∀ i : Int, gR i = if 0 ≤ i ∧ i < k then 0 else fR i) → (5 - k).toNat < fu9 → zzW p l e rm_X6_begin s m ([.ref ph, .int (iI t9)] : List Value).toArray below meth c z A 3 (MQ below (zQ z A (po_X6_begin z ph pa pr pt pd pb fP fR fT t9)) ([.ref ph, .int (iI t9)] : List Value).toArray s 0 0 A) 0 0 (wPlan z ph pa pr pt t9 0 gP gR fT) [(0, .ref ph), (1, .int (iI t9)), (2, .int (iI k))] [] 12 := by
    intro fu9
    induction fu9 with
    | zero => intro k gP gR hk hgP hgR h9; exact absurd h9 (Nat.not_lt_zero _)
    | succ fu9 ih12 =>
      intro k gP gR hk hgP hgR hm12
      refine zz_iload_n C 2 dX6_begin_12 rfl rfl ?_
      refine zz_aload_n C 0 dX6_begin_13 rfl rfl ?_
      refine zz_get C 0 (ci := 6) (k := 2) rfl rfl in_X6 (by decide) qw_302 rfl rfl dX6_begin_14 ?_
      refine zz_ilen C 1 rfl dX6_begin_17 ?_
      refine zz_icmp_ge (tgt := 41) C dX6_begin_18 (by decide) (by unfold rI; omega) (by unfold rI; omega) (fun c18 => ?_) (fun c18 => ?_)
      · skip
        have hk5 : k = 5 := by omega
        subst hk5
        exact zz_vret C hr dX6_begin_41 ⟨gP, gR, hgP, hgR, rfl, rfl⟩
      · skip
        refine zz_aload_n C 0 dX6_begin_21 rfl rfl ?_
        refine zz_get C 0 (ci := 6) (k := 2) rfl rfl in_X6 (by decide) qw_302 rfl rfl dX6_begin_22 ?_
        refine zz_iload_n C 2 dX6_begin_25 rfl rfl ?_
        refine zz_iconst C dX6_begin_26 ?_
        refine zz_iast (ws' := wPlan z ph pa pr pt t9 0 (zup gP k 0) gR fT) C 1 rfl (by omega) (by omega) (by decide) rfl dX6_begin_27 ?_
        refine zz_aload_n C 0 dX6_begin_28 rfl rfl ?_
        refine zz_get C 0 (ci := 6) (k := 3) rfl rfl in_X6 (by decide) qw_303 rfl rfl dX6_begin_29 ?_
        refine zz_iload_n C 2 dX6_begin_32 rfl rfl ?_
        refine zz_iconst C dX6_begin_33 ?_
        refine zz_iast (ws' := wPlan z ph pa pr pt t9 0 (zup gP k 0) (zup gR k 0) fT) C 2 rfl (by omega) (by omega) (by decide) rfl dX6_begin_34 ?_
        refine zz_iinc (ls' := [(2, .int (iI (k + 1))), (0, .ref ph), (1, .int (iI t9))]) C 2 dX6_begin_35 rfl (by decide) rfl ?_
        refine zz_goto (tgt := 12) C dX6_begin_38 (by decide) ?_
        refine zz_loc (ls' := [(0, .ref ph), (1, .int (iI t9)), (2, .int (iI (k + 1)))]) [1, 2, 0] rfl ?_
        exact ih12 (k + 1) (zup gP k 0) (zup gR k 0) (by omega) (fun i => zz_fill hgP hk.1 i) (fun i => zz_fill hgR hk.1 i) (by omega)
  refine zz_loc (ls' := [(0, .ref ph), (1, .int (iI t9)), (2, .int (iI 0))]) [1, 2, 0] rfl ?_
  exact Lp12 _ 0 fP fR (by omega) (fun i => by rw [if_neg (by omega)]) (fun i => by rw [if_neg (by omega)]) (Nat.lt_succ_self _)
abbrev po_X6_removeBond (z : zC) (ph : Nat) (pa : Nat) (pr : Nat) (pt : Nat) (pd : Int) (pb : Int) (fP : Int → Int) (fR : Int → Int) (fT : Int → Int) (bond : Int) : Option Value → va_W → Prop := fun v w => ∃ (gT : Int → Int), (∀ i : Int, gT i = if bond * 7 ≤ i ∧ i < 28 then fT (i + 7) else fT i) ∧ v = none ∧ w = wPlan z ph pa pr pt pd (pb - 1) fP fR gT
abbrev rm_X6_removeBond : Room := { frames := 3, cells := 0, slots := 0, locals := 83 }
set_option maxHeartbeats 4000000 in
set_option maxRecDepth 100000 in
theorem cc_X6_removeBond (l : Launch) (z : zC) (ph : Nat) (pa : Nat) (pr : Nat) (pt : Nat) (pd : Int) (pb : Int) (fP : Int → Int) (fR : Int → Int) (fT : Int → Int) (bond : Int) (hpd : 1 ≤ pd ∧ pd ≤ 4) (hpb : 0 ≤ pb ∧ pb ≤ 5) (hbo : 0 ≤ bond ∧ bond < pb) : zzMet l yX6_removeBond cX6_removeBond 3 none rm_X6_removeBond z [.ref ph, .int (iI bond)] (wPlan z ph pa pr pt pd pb fP fR fT) (po_X6_removeBond z ph pa pr pt pd pb fP fR fT bond) := by
  refine zzMet.of (own := RX6) (ls0 := [(0, .ref ph), (1, .int (iI bond))]) (by decide) rfl (Nat.le_of_ble_eq_true rfl) rfl ?_
  intro p e s m below meth c A C hr hnm
  refine zz_aload_n C 0 dX6_removeBond_0 rfl rfl ?_
  refine zz_iconst C dX6_removeBond_1 ?_
  refine zz_iload_n C 1 dX6_removeBond_2 rfl rfl ?_
  refine zz_callV (wr := ([] : va_W)) (st := []) C (cc_X6_fits_4 l z ph pa pr pt pd pb fP fR fT bond (by omega) (by omega) (by omega)) yk_X6_fits qw_433 ⟨by decide, by decide⟩ [0, 1, 2, 3] [] rfl rfl rfl rfl (by decide) 0 6 rfl rfl rfl rfl (Nat.le_of_ble_eq_true rfl) dX6_removeBond_3 ⟨by decide, by decide⟩ ?_
  rintro _ _ ⟨q_3, hq_3, rfl, rfl⟩
  refine zz_st (st' := [.int (iI q_3)]) rfl (zz_ws (ws' := wPlan z ph pa pr pt pd pb fP fR fT) rfl ?_)
  refine zz_if_ne (tgt := 10) C dX6_removeBond_6 (by decide) (by unfold rI; omega) (fun c6 => ?_) (fun c6 => ?_)
  · skip
    refine zz_iload_n C 1 dX6_removeBond_10 rfl rfl ?_
    refine zz_bipush C dX6_removeBond_11 (by decide +kernel) ?_
    refine zz_imul C dX6_removeBond_13 ?_
    refine zz_istore_n (ls' := [(2, .int (iI (bond * 7))), (0, .ref ph), (1, .int (iI bond))]) C dX6_removeBond_14 rfl (by decide) rfl ?_
    have Lp15 : ∀ (fu9 : Nat) (k : Int) (gT : Int → Int), (bond * 7 ≤ k ∧ k ≤ 28) → (∀ i : Int, gT i = if bond * 7 ≤ i ∧ i < k then fT (i + 7) else fT i) → (28 - k).toNat < fu9 → zzW p l e rm_X6_removeBond s m ([.ref ph, .int (iI bond)] : List Value).toArray below meth c z A 3 (MQ below (zQ z A (po_X6_removeBond z ph pa pr pt pd pb fP fR fT bond)) ([.ref ph, .int (iI bond)] : List Value).toArray s 0 0 A) 0 0 (wPlan z ph pa pr pt pd pb fP fR gT) [(0, .ref ph), (1, .int (iI bond)), (2, .int (iI k))] [] 15 := by
      intro fu9
      induction fu9 with
      | zero => intro k gT hk hgT h9; exact absurd h9 (Nat.not_lt_zero _)
      | succ fu9 ih15 =>
        intro k gT hk hgT hm15
        refine zz_iload_n C 2 dX6_removeBond_15 rfl rfl ?_
        refine zz_bipush C dX6_removeBond_16 (by decide +kernel) ?_
        refine zz_iadd C dX6_removeBond_18 ?_
        refine zz_aload_n C 0 dX6_removeBond_19 rfl rfl ?_
        refine zz_get C 0 (ci := 6) (k := 4) rfl rfl in_X6 (by decide) qw_304 rfl rfl dX6_removeBond_20 ?_
        refine zz_ilen C 3 rfl dX6_removeBond_23 ?_
        refine zz_icmp_ge (tgt := 48) C dX6_removeBond_24 (by decide) (by unfold rI; omega) (by unfold rI; omega) (fun c24 => ?_) (fun c24 => ?_)
        · skip
          refine zz_aload_n C 0 dX6_removeBond_48 rfl rfl ?_
          refine zz_dup C dX6_removeBond_49 rfl ?_
          refine zz_get C 0 (ci := 6) (k := 1) rfl rfl in_X6 (by decide) qw_297 rfl rfl dX6_removeBond_50 ?_
          refine zz_iconst C dX6_removeBond_53 ?_
          refine zz_isub C dX6_removeBond_54 ?_
          refine zz_put (ty := .int) (ws' := wPlan z ph pa pr pt pd (pb - 1) fP fR gT) C 0 (ci := 6) (k := 1) rfl rfl in_X6 tyX6 tyX6_ok nmX6 (by decide) qw_297 rfl rfl (by decide +kernel) rfl rfl (Nat.le_of_ble_eq_true rfl) rfl dX6_removeBond_55 ?_
          have hk5 : k = 28 := by omega
          subst hk5
          exact zz_vret C hr dX6_removeBond_58 ⟨gT, hgT, rfl, rfl⟩
        · skip
          refine zz_aload_n C 0 dX6_removeBond_27 rfl rfl ?_
          refine zz_get C 0 (ci := 6) (k := 4) rfl rfl in_X6 (by decide) qw_304 rfl rfl dX6_removeBond_28 ?_
          refine zz_iload_n C 2 dX6_removeBond_31 rfl rfl ?_
          refine zz_aload_n C 0 dX6_removeBond_32 rfl rfl ?_
          refine zz_get C 0 (ci := 6) (k := 4) rfl rfl in_X6 (by decide) qw_304 rfl rfl dX6_removeBond_33 ?_
          refine zz_iload_n C 2 dX6_removeBond_36 rfl rfl ?_
          refine zz_bipush C dX6_removeBond_37 (by decide +kernel) ?_
          refine zz_iadd C dX6_removeBond_39 ?_
          refine zz_iald C 3 rfl (by omega) (by omega) (by decide) dX6_removeBond_40 ?_
          refine zz_iast (ws' := wPlan z ph pa pr pt pd pb fP fR (zup gT k (gT (k + 7)))) C 3 rfl (by omega) (by omega) (by decide) rfl dX6_removeBond_41 ?_
          refine zz_iinc (ls' := [(2, .int (iI (k + 1))), (0, .ref ph), (1, .int (iI bond))]) C 2 dX6_removeBond_42 rfl (by decide) rfl ?_
          refine zz_goto (tgt := 15) C dX6_removeBond_45 (by decide) ?_
          refine zz_loc (ls' := [(0, .ref ph), (1, .int (iI bond)), (2, .int (iI (k + 1)))]) [1, 2, 0] rfl ?_
          exact ih15 (k + 1) (zup gT k (gT (k + 7))) (by omega) (fun i => zz_shift hgT hk.1 i) (by omega)
    refine zz_loc (ls' := [(0, .ref ph), (1, .int (iI bond)), (2, .int (iI (bond * 7)))]) [1, 2, 0] rfl ?_
    exact Lp15 _ (bond * 7) fT (by omega) (fun i => by rw [if_neg (by omega)]) (Nat.lt_succ_self _)
  · skip
    exfalso; omega
abbrev po_X6_addBond (z : zC) (ph : Nat) (pa : Nat) (pr : Nat) (pt : Nat) (pd : Int) (pb : Int) (fP : Int → Int) (fR : Int → Int) (fT : Int → Int) (v1 : Int) (v2 : Int) (v3 : Int) (v4 : Int) : Option Value → va_W → Prop := fun v w => v = none ∧ w = wPlan z ph pa pr pt pd (pb + 1) fP fR (zup (zup (zup (zup (zup (zup (zup fT (pb * 7 + 0) v1) (pb * 7 + 1) v2) (pb * 7 + 2) v3) (pb * 7 + 3) v4) (pb * 7 + 4) 10) (pb * 7 + 5) 0) (pb * 7 + 6) 0)
abbrev rm_X6_addBond : Room := { frames := 3, cells := 0, slots := 0, locals := 85 }
set_option maxHeartbeats 4000000 in
set_option maxRecDepth 100000 in
theorem cc_X6_addBond (l : Launch) (z : zC) (ph : Nat) (pa : Nat) (pr : Nat) (pt : Nat) (pd : Int) (pb : Int) (fP : Int → Int) (fR : Int → Int) (fT : Int → Int) (v1 : Int) (v2 : Int) (v3 : Int) (v4 : Int) (hpb : 0 ≤ pb ∧ pb < 5) : zzMet l yX6_addBond cX6_addBond 5 none rm_X6_addBond z [.ref ph, .int (iI v1), .int (iI v2), .int (iI v3), .int (iI v4)] (wPlan z ph pa pr pt pd pb fP fR fT) (po_X6_addBond z ph pa pr pt pd pb fP fR fT v1 v2 v3 v4) := by
  refine zzMet.of (own := RX6) (ls0 := [(0, .ref ph), (1, .int (iI v1)), (2, .int (iI v2)), (3, .int (iI v3)), (4, .int (iI v4))]) (by decide) rfl (Nat.le_of_ble_eq_true rfl) rfl ?_
  intro p e s m below meth c A C hr hnm
  refine zz_aload_n C 0 dX6_addBond_0 rfl rfl ?_
  refine zz_callV (wr := ([] : va_W)) (st := []) C (cc_X6_isFull l z ph pa pr pt pd pb fP fR fT (by omega)) yk_X6_isFull qw_403 ⟨by decide, by decide⟩ [0, 1, 2, 3] [] rfl rfl rfl rfl (by decide) 0 6 rfl rfl rfl rfl (Nat.le_of_ble_eq_true rfl) dX6_addBond_1 ⟨by decide, by decide⟩ ?_
  rintro _ _ ⟨q_1, hq_1, rfl, rfl⟩
  refine zz_st (st' := [.int (iI q_1)]) rfl (zz_ws (ws' := wPlan z ph pa pr pt pd pb fP fR fT) rfl ?_)
  refine zz_if_eq (tgt := 8) C dX6_addBond_4 (by decide) (by unfold rI; omega) (fun c4 => ?_) (fun c4 => ?_)
  · skip
    refine zz_aload_n C 0 dX6_addBond_8 rfl rfl ?_
    refine zz_dup C dX6_addBond_9 rfl ?_
    refine zz_get C 0 (ci := 6) (k := 1) rfl rfl in_X6 (by decide) qw_297 rfl rfl dX6_addBond_10 ?_
    refine zz_iconst C dX6_addBond_13 ?_
    refine zz_iadd C dX6_addBond_14 ?_
    refine zz_put (ty := .int) (ws' := wPlan z ph pa pr pt pd (pb + 1) fP fR fT) C 0 (ci := 6) (k := 1) rfl rfl in_X6 tyX6 tyX6_ok nmX6 (by decide) qw_297 rfl rfl (by decide +kernel) rfl rfl (Nat.le_of_ble_eq_true rfl) rfl dX6_addBond_15 ?_
    refine zz_aload_n C 0 dX6_addBond_18 rfl rfl ?_
    refine zz_aload_n C 0 dX6_addBond_19 rfl rfl ?_
    refine zz_get C 0 (ci := 6) (k := 1) rfl rfl in_X6 (by decide) qw_297 rfl rfl dX6_addBond_20 ?_
    refine zz_iconst C dX6_addBond_23 ?_
    refine zz_isub C dX6_addBond_24 ?_
    refine zz_iconst C dX6_addBond_25 ?_
    refine zz_iload_n C 1 dX6_addBond_26 rfl rfl ?_
    refine zz_callV (wr := ([] : va_W)) (st := []) C (cc_X6_setTerm l z ph pa pr pt pd (pb + 1) fP fR fT ((pb + 1) - 1) 0 v1 (by omega) (by omega) (by omega)) yk_X6_setTerm qw_404 ⟨by decide, by decide⟩ [0, 1, 2, 3] [] rfl rfl rfl rfl (by decide) 0 6 rfl rfl rfl rfl (Nat.le_of_ble_eq_true rfl) dX6_addBond_27 ⟨by decide, by decide⟩ ?_
    rintro _ _ ⟨rfl, rfl⟩
    refine zz_st (st' := []) rfl (zz_ws (ws' := wPlan z ph pa pr pt pd (pb + 1) fP fR (zup fT (((pb + 1) - 1) * 7 + 0) v1)) rfl ?_)
    refine zz_aload_n C 0 dX6_addBond_30 rfl rfl ?_
    refine zz_aload_n C 0 dX6_addBond_31 rfl rfl ?_
    refine zz_get C 0 (ci := 6) (k := 1) rfl rfl in_X6 (by decide) qw_297 rfl rfl dX6_addBond_32 ?_
    refine zz_iconst C dX6_addBond_35 ?_
    refine zz_isub C dX6_addBond_36 ?_
    refine zz_iconst C dX6_addBond_37 ?_
    refine zz_iload_n C 2 dX6_addBond_38 rfl rfl ?_
    refine zz_callV (wr := ([] : va_W)) (st := []) C (cc_X6_setTerm l z ph pa pr pt pd (pb + 1) fP fR (zup fT (((pb + 1) - 1) * 7 + 0) v1) ((pb + 1) - 1) 1 v2 (by omega) (by omega) (by omega)) yk_X6_setTerm qw_404 ⟨by decide, by decide⟩ [0, 1, 2, 3] [] rfl rfl rfl rfl (by decide) 0 6 rfl rfl rfl rfl (Nat.le_of_ble_eq_true rfl) dX6_addBond_39 ⟨by decide, by decide⟩ ?_
    rintro _ _ ⟨rfl, rfl⟩
    refine zz_st (st' := []) rfl (zz_ws (ws' := wPlan z ph pa pr pt pd (pb + 1) fP fR (zup (zup fT (((pb + 1) - 1) * 7 + 0) v1) (((pb + 1) - 1) * 7 + 1) v2)) rfl ?_)
    refine zz_aload_n C 0 dX6_addBond_42 rfl rfl ?_
    refine zz_aload_n C 0 dX6_addBond_43 rfl rfl ?_
    refine zz_get C 0 (ci := 6) (k := 1) rfl rfl in_X6 (by decide) qw_297 rfl rfl dX6_addBond_44 ?_
    refine zz_iconst C dX6_addBond_47 ?_
    refine zz_isub C dX6_addBond_48 ?_
    refine zz_iconst C dX6_addBond_49 ?_
    refine zz_iload_n C 3 dX6_addBond_50 rfl rfl ?_
    refine zz_callV (wr := ([] : va_W)) (st := []) C (cc_X6_setTerm l z ph pa pr pt pd (pb + 1) fP fR (zup (zup fT (((pb + 1) - 1) * 7 + 0) v1) (((pb + 1) - 1) * 7 + 1) v2) ((pb + 1) - 1) 2 v3 (by omega) (by omega) (by omega)) yk_X6_setTerm qw_404 ⟨by decide, by decide⟩ [0, 1, 2, 3] [] rfl rfl rfl rfl (by decide) 0 6 rfl rfl rfl rfl (Nat.le_of_ble_eq_true rfl) dX6_addBond_51 ⟨by decide, by decide⟩ ?_
    rintro _ _ ⟨rfl, rfl⟩
    refine zz_st (st' := []) rfl (zz_ws (ws' := wPlan z ph pa pr pt pd (pb + 1) fP fR (zup (zup (zup fT (((pb + 1) - 1) * 7 + 0) v1) (((pb + 1) - 1) * 7 + 1) v2) (((pb + 1) - 1) * 7 + 2) v3)) rfl ?_)
    refine zz_aload_n C 0 dX6_addBond_54 rfl rfl ?_
    refine zz_aload_n C 0 dX6_addBond_55 rfl rfl ?_
    refine zz_get C 0 (ci := 6) (k := 1) rfl rfl in_X6 (by decide) qw_297 rfl rfl dX6_addBond_56 ?_
    refine zz_iconst C dX6_addBond_59 ?_
    refine zz_isub C dX6_addBond_60 ?_
    refine zz_iconst C dX6_addBond_61 ?_
    refine zz_iload C 4 dX6_addBond_62 rfl ?_
    refine zz_callV (wr := ([] : va_W)) (st := []) C (cc_X6_setTerm l z ph pa pr pt pd (pb + 1) fP fR (zup (zup (zup fT (((pb + 1) - 1) * 7 + 0) v1) (((pb + 1) - 1) * 7 + 1) v2) (((pb + 1) - 1) * 7 + 2) v3) ((pb + 1) - 1) 3 v4 (by omega) (by omega) (by omega)) yk_X6_setTerm qw_404 ⟨by decide, by decide⟩ [0, 1, 2, 3] [] rfl rfl rfl rfl (by decide) 0 6 rfl rfl rfl rfl (Nat.le_of_ble_eq_true rfl) dX6_addBond_64 ⟨by decide, by decide⟩ ?_
    rintro _ _ ⟨rfl, rfl⟩
    refine zz_st (st' := []) rfl (zz_ws (ws' := wPlan z ph pa pr pt pd (pb + 1) fP fR (zup (zup (zup (zup fT (((pb + 1) - 1) * 7 + 0) v1) (((pb + 1) - 1) * 7 + 1) v2) (((pb + 1) - 1) * 7 + 2) v3) (((pb + 1) - 1) * 7 + 3) v4)) rfl ?_)
    refine zz_aload_n C 0 dX6_addBond_67 rfl rfl ?_
    refine zz_aload_n C 0 dX6_addBond_68 rfl rfl ?_
    refine zz_get C 0 (ci := 6) (k := 1) rfl rfl in_X6 (by decide) qw_297 rfl rfl dX6_addBond_69 ?_
    refine zz_iconst C dX6_addBond_72 ?_
    refine zz_isub C dX6_addBond_73 ?_
    refine zz_iconst C dX6_addBond_74 ?_
    refine zz_bipush C dX6_addBond_75 (by decide +kernel) ?_
    refine zz_callV (wr := ([] : va_W)) (st := []) C (cc_X6_setTerm l z ph pa pr pt pd (pb + 1) fP fR (zup (zup (zup (zup fT (((pb + 1) - 1) * 7 + 0) v1) (((pb + 1) - 1) * 7 + 1) v2) (((pb + 1) - 1) * 7 + 2) v3) (((pb + 1) - 1) * 7 + 3) v4) ((pb + 1) - 1) 4 10 (by omega) (by omega) (by omega)) yk_X6_setTerm qw_404 ⟨by decide, by decide⟩ [0, 1, 2, 3] [] rfl rfl rfl rfl (by decide) 0 6 rfl rfl rfl rfl (Nat.le_of_ble_eq_true rfl) dX6_addBond_77 ⟨by decide, by decide⟩ ?_
    rintro _ _ ⟨rfl, rfl⟩
    refine zz_st (st' := []) rfl (zz_ws (ws' := wPlan z ph pa pr pt pd (pb + 1) fP fR (zup (zup (zup (zup (zup fT (((pb + 1) - 1) * 7 + 0) v1) (((pb + 1) - 1) * 7 + 1) v2) (((pb + 1) - 1) * 7 + 2) v3) (((pb + 1) - 1) * 7 + 3) v4) (((pb + 1) - 1) * 7 + 4) 10)) rfl ?_)
    refine zz_aload_n C 0 dX6_addBond_80 rfl rfl ?_
    refine zz_aload_n C 0 dX6_addBond_81 rfl rfl ?_
    refine zz_get C 0 (ci := 6) (k := 1) rfl rfl in_X6 (by decide) qw_297 rfl rfl dX6_addBond_82 ?_
    refine zz_iconst C dX6_addBond_85 ?_
    refine zz_isub C dX6_addBond_86 ?_
    refine zz_iconst C dX6_addBond_87 ?_
    refine zz_iconst C dX6_addBond_88 ?_
    refine zz_callV (wr := ([] : va_W)) (st := []) C (cc_X6_setTerm l z ph pa pr pt pd (pb + 1) fP fR (zup (zup (zup (zup (zup fT (((pb + 1) - 1) * 7 + 0) v1) (((pb + 1) - 1) * 7 + 1) v2) (((pb + 1) - 1) * 7 + 2) v3) (((pb + 1) - 1) * 7 + 3) v4) (((pb + 1) - 1) * 7 + 4) 10) ((pb + 1) - 1) 5 0 (by omega) (by omega) (by omega)) yk_X6_setTerm qw_404 ⟨by decide, by decide⟩ [0, 1, 2, 3] [] rfl rfl rfl rfl (by decide) 0 6 rfl rfl rfl rfl (Nat.le_of_ble_eq_true rfl) dX6_addBond_89 ⟨by decide, by decide⟩ ?_
    rintro _ _ ⟨rfl, rfl⟩
    refine zz_st (st' := []) rfl (zz_ws (ws' := wPlan z ph pa pr pt pd (pb + 1) fP fR (zup (zup (zup (zup (zup (zup fT (((pb + 1) - 1) * 7 + 0) v1) (((pb + 1) - 1) * 7 + 1) v2) (((pb + 1) - 1) * 7 + 2) v3) (((pb + 1) - 1) * 7 + 3) v4) (((pb + 1) - 1) * 7 + 4) 10) (((pb + 1) - 1) * 7 + 5) 0)) rfl ?_)
    refine zz_aload_n C 0 dX6_addBond_92 rfl rfl ?_
    refine zz_aload_n C 0 dX6_addBond_93 rfl rfl ?_
    refine zz_get C 0 (ci := 6) (k := 1) rfl rfl in_X6 (by decide) qw_297 rfl rfl dX6_addBond_94 ?_
    refine zz_iconst C dX6_addBond_97 ?_
    refine zz_isub C dX6_addBond_98 ?_
    refine zz_bipush C dX6_addBond_99 (by decide +kernel) ?_
    refine zz_iconst C dX6_addBond_101 ?_
    refine zz_callV (wr := ([] : va_W)) (st := []) C (cc_X6_setTerm l z ph pa pr pt pd (pb + 1) fP fR (zup (zup (zup (zup (zup (zup fT (((pb + 1) - 1) * 7 + 0) v1) (((pb + 1) - 1) * 7 + 1) v2) (((pb + 1) - 1) * 7 + 2) v3) (((pb + 1) - 1) * 7 + 3) v4) (((pb + 1) - 1) * 7 + 4) 10) (((pb + 1) - 1) * 7 + 5) 0) ((pb + 1) - 1) 6 0 (by omega) (by omega) (by omega)) yk_X6_setTerm qw_404 ⟨by decide, by decide⟩ [0, 1, 2, 3] [] rfl rfl rfl rfl (by decide) 0 6 rfl rfl rfl rfl (Nat.le_of_ble_eq_true rfl) dX6_addBond_102 ⟨by decide, by decide⟩ ?_
    rintro _ _ ⟨rfl, rfl⟩
    refine zz_st (st' := []) rfl (zz_ws (ws' := wPlan z ph pa pr pt pd (pb + 1) fP fR (zup (zup (zup (zup (zup (zup (zup fT (((pb + 1) - 1) * 7 + 0) v1) (((pb + 1) - 1) * 7 + 1) v2) (((pb + 1) - 1) * 7 + 2) v3) (((pb + 1) - 1) * 7 + 3) v4) (((pb + 1) - 1) * 7 + 4) 10) (((pb + 1) - 1) * 7 + 5) 0) (((pb + 1) - 1) * 7 + 6) 0)) rfl ?_)
    exact zz_vret C hr dX6_addBond_105 ⟨rfl, (by rw [show pb + 1 - 1 = pb by omega])⟩
  · skip
    exfalso; omega
abbrev po_X6_copyFrom (z : zC) (ph : Nat) (pa : Nat) (pr : Nat) (pt : Nat) (pd : Int) (pb : Int) (fP : Int → Int) (fR : Int → Int) (fT : Int → Int) (oph : Nat) (opa : Nat) (opr : Nat) (opt : Nat) (opd : Int) (opb : Int) (ofP : Int → Int) (ofR : Int → Int) (ofT : Int → Int) : Option Value → va_W → Prop := fun v w => v = none ∧ w = (wPlan z ph pa pr pt opd opb (zcpy ofP fP 5) (zcpy ofR fR 5) (zcpy ofT fT 35)) ++ (wPlan z oph opa opr opt opd opb ofP ofR ofT)
abbrev rm_X6_copyFrom : Room := { frames := 1, cells := 0, slots := 0, locals := 40 }
set_option maxHeartbeats 4000000 in
set_option maxRecDepth 100000 in
theorem cc_X6_copyFrom (l : Launch) (z : zC) (ph : Nat) (pa : Nat) (pr : Nat) (pt : Nat) (pd : Int) (pb : Int) (fP : Int → Int) (fR : Int → Int) (fT : Int → Int) (oph : Nat) (opa : Nat) (opr : Nat) (opt : Nat) (opd : Int) (opb : Int) (ofP : Int → Int) (ofR : Int → Int) (ofT : Int → Int)  : zzMet l yX6_copyFrom cX6_copyFrom 2 none rm_X6_copyFrom z [.ref ph, .ref oph] ((wPlan z ph pa pr pt pd pb fP fR fT) ++ (wPlan z oph opa opr opt opd opb ofP ofR ofT)) (po_X6_copyFrom z ph pa pr pt pd pb fP fR fT oph opa opr opt opd opb ofP ofR ofT) := by
  refine zzMet.of (own := RX6) (ls0 := [(0, .ref ph), (1, .ref oph)]) (by decide) rfl (Nat.le_of_ble_eq_true rfl) rfl ?_
  intro p e s m below meth c A C hr hnm
  refine zz_aload_n C 0 dX6_copyFrom_0 rfl rfl ?_
  refine zz_aload_n C 1 dX6_copyFrom_1 rfl rfl ?_
  refine zz_get C 4 (ci := 6) (k := 0) rfl rfl in_X6 (by decide) qw_292 rfl rfl dX6_copyFrom_2 ?_
  refine zz_put (ty := .int) (ws' := (wPlan z ph pa pr pt opd pb fP fR fT) ++ (wPlan z oph opa opr opt opd opb ofP ofR ofT)) C 0 (ci := 6) (k := 0) rfl rfl in_X6 tyX6 tyX6_ok nmX6 (by decide) qw_292 rfl rfl (by decide +kernel) rfl rfl (Nat.le_of_ble_eq_true rfl) rfl dX6_copyFrom_5 ?_
  refine zz_aload_n C 0 dX6_copyFrom_8 rfl rfl ?_
  refine zz_aload_n C 1 dX6_copyFrom_9 rfl rfl ?_
  refine zz_get C 4 (ci := 6) (k := 1) rfl rfl in_X6 (by decide) qw_297 rfl rfl dX6_copyFrom_10 ?_
  refine zz_put (ty := .int) (ws' := (wPlan z ph pa pr pt opd opb fP fR fT) ++ (wPlan z oph opa opr opt opd opb ofP ofR ofT)) C 0 (ci := 6) (k := 1) rfl rfl in_X6 tyX6 tyX6_ok nmX6 (by decide) qw_297 rfl rfl (by decide +kernel) rfl rfl (Nat.le_of_ble_eq_true rfl) rfl dX6_copyFrom_13 ?_
  refine zz_aload_n C 1 dX6_copyFrom_16 rfl rfl ?_
  refine zz_get C 4 (ci := 6) (k := 2) rfl rfl in_X6 (by decide) qw_302 rfl rfl dX6_copyFrom_17 ?_
  refine zz_iconst C dX6_copyFrom_20 ?_
  refine zz_aload_n C 0 dX6_copyFrom_21 rfl rfl ?_
  refine zz_get C 0 (ci := 6) (k := 2) rfl rfl in_X6 (by decide) qw_302 rfl rfl dX6_copyFrom_22 ?_
  refine zz_iconst C dX6_copyFrom_25 ?_
  refine zz_iconst C dX6_copyFrom_26 ?_
  refine zz_acopy (ws' := (wPlan z ph pa pr pt opd opb (zcpy ofP fP 5) fR fT) ++ (wPlan z oph opa opr opt opd opb ofP ofR ofT)) C 5 1 rfl rfl qw_459 (by decide) (by decide) (by decide) rfl (by decide) (Nat.le_of_ble_eq_true rfl) dX6_copyFrom_27 ?_
  refine zz_aload_n C 1 dX6_copyFrom_30 rfl rfl ?_
  refine zz_get C 4 (ci := 6) (k := 3) rfl rfl in_X6 (by decide) qw_303 rfl rfl dX6_copyFrom_31 ?_
  refine zz_iconst C dX6_copyFrom_34 ?_
  refine zz_aload_n C 0 dX6_copyFrom_35 rfl rfl ?_
  refine zz_get C 0 (ci := 6) (k := 3) rfl rfl in_X6 (by decide) qw_303 rfl rfl dX6_copyFrom_36 ?_
  refine zz_iconst C dX6_copyFrom_39 ?_
  refine zz_iconst C dX6_copyFrom_40 ?_
  refine zz_acopy (ws' := (wPlan z ph pa pr pt opd opb (zcpy ofP fP 5) (zcpy ofR fR 5) fT) ++ (wPlan z oph opa opr opt opd opb ofP ofR ofT)) C 6 2 rfl rfl qw_459 (by decide) (by decide) (by decide) rfl (by decide) (Nat.le_of_ble_eq_true rfl) dX6_copyFrom_41 ?_
  refine zz_aload_n C 1 dX6_copyFrom_44 rfl rfl ?_
  refine zz_get C 4 (ci := 6) (k := 4) rfl rfl in_X6 (by decide) qw_304 rfl rfl dX6_copyFrom_45 ?_
  refine zz_iconst C dX6_copyFrom_48 ?_
  refine zz_aload_n C 0 dX6_copyFrom_49 rfl rfl ?_
  refine zz_get C 0 (ci := 6) (k := 4) rfl rfl in_X6 (by decide) qw_304 rfl rfl dX6_copyFrom_50 ?_
  refine zz_iconst C dX6_copyFrom_53 ?_
  refine zz_bipush C dX6_copyFrom_54 (by decide +kernel) ?_
  refine zz_acopy (ws' := (wPlan z ph pa pr pt opd opb (zcpy ofP fP 5) (zcpy ofR fR 5) (zcpy ofT fT 35)) ++ (wPlan z oph opa opr opt opd opb ofP ofR ofT)) C 7 3 rfl rfl qw_459 (by decide) (by decide) (by decide) rfl (by decide) (Nat.le_of_ble_eq_true rfl) dX6_copyFrom_56 ?_
  exact zz_vret C hr dX6_copyFrom_59 ⟨rfl, rfl⟩
