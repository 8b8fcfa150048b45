def tellQ (f : Int → Int) (n : Int) (S : plT) (q w : Int) (S' : plT) : Prop := ∃ j : Nat, (∀ i : Nat, i < j → okN f n S i) ∧ S' = (clN f n S j).2 ∧ ((¬ sk f n (clN f n S j).1 < n ∧ q = (j : Int) ∧ w = 0) ∨ (sk f n (clN f n S j).1 < n ∧ sWr f n (clN f n S j).2.1 (clN f n S j).2.2.1 (clN f n S j).1 w ∧ q = -1))
theorem clN_suc (f : Int → Int) (n : Int) (S : plT) {k : Int} (h : 0 ≤ k) : clN f n S (k + 1).toNat = (sR f n (clN f n S k.toNat).1 + 1, opC (sK f n (clN f n S k.toNat).1) (sA f n (clN f n S k.toNat).1 0) (sA f n (clN f n S k.toNat).1 1) (sA f n (clN f n S k.toNat).1 2) (sA f n (clN f n S k.toNat).1 3) (clN f n S k.toNat).2) := by
  rw [show (k + 1).toNat = k.toNat + 1 by omega]
  rfl
theorem okN_of {f : Int → Int} {n d b : Int} {P R T : Int → Int} {S : plT} {i : Nat} (hc : (clN f n S i).2 = (d, b, P, R, T)) (h1 : sk f n (clN f n S i).1 < n) (h2 : stOk f n d b (clN f n S i).1) : okN f n S i := by
  unfold okN
  rw [hc]
  exact ⟨h1, h2⟩
theorem sWr_of {f : Int → Int} {n d b w : Int} {P R T : Int → Int} {S : plT} {i : Nat} (hc : (clN f n S i).2 = (d, b, P, R, T)) (h2 : sWr f n d b (clN f n S i).1 w) : sWr f n (clN f n S i).2.1 (clN f n S i).2.2.1 (clN f n S i).1 w := by
  rw [hc]
  exact h2
theorem okN_pos {f : Int → Int} {n : Int} {S : plT} {j : Nat} (hn : 0 ≤ n) (h : ∀ i : Nat, i < j → okN f n S i) : (j : Int) ≤ (clN f n S j).1 ∧ (clN f n S j).1 ≤ n := by
  induction j with
  | zero => exact ⟨by show ((0 : Nat) : Int) ≤ 0; omega, hn⟩
  | succ j ih =>
    have a := ih (fun i hi => h i (by omega))
    have b := (h j (by omega)).2
    have c := sR_rng (f := f) (n := n) (a := (clN f n S j).1) (by omega) a.2 (wkd_rng _ _ _).1 b.1
    have d := b.2.2.2.1
    show ((j + 1 : Nat) : Int) ≤ sR f n (clN f n S j).1 + 1 ∧ sR f n (clN f n S j).1 + 1 ≤ n
    omega
theorem tell_len {f : Int → Int} {n q w : Int} {S S' : plT} (hn : 0 ≤ n ∧ n ≤ 300) (h : tellQ f n S q w S') : -1 ≤ q ∧ q ≤ 300 := by
  obtain ⟨j, a, -, b⟩ := h
  have c := okN_pos hn.1 a
  rcases b with b | b <;> omega
abbrev po_X8_tellTo (z : zC) (th : Nat) (tb : Nat) (tn : Nat) (tz : Int) (tf : Int) (tk : Int) (ta : Int) (te : Int) (fB : Int → Int) (fN : Int → Int) (ph : Nat) (pa : Nat) (pr : Nat) (pt : Nat) (pd : Int) (pb : Int) (fP : Int → Int) (fR : Int → Int) (fT : Int → Int) : Option Value → va_W → Prop := fun v w => ∃ (q : Int), ∃ (gA : Int), ∃ (gK : Int), ∃ (gE : Int), ∃ (gF : Int), ∃ (gN : Int → Int), ∃ (gd : Int), ∃ (gb : Int), ∃ (gP : Int → Int), ∃ (gR : Int → Int), ∃ (gT : Int → Int), (tellQ fB tz (pd, pb, fP, fR, fT) q gF (gd, gb, gP, gR, gT)) ∧ v = some (Value.int (iI q)) ∧ w = (wText z th tb tn tz gF gK gA gE fB gN) ++ (wPlan z ph pa pr pt gd gb gP gR gT)
abbrev rm_X8_tellTo : Room := { frames := 8, cells := 0, slots := 0, locals := 190 }
set_option maxHeartbeats 4000000 in
set_option maxRecDepth 100000 in
theorem cc_X8_tellTo (l : Launch) (z : zC) (th : Nat) (tb : Nat) (tn : Nat) (tz : Int) (tf : Int) (tk : Int) (ta : Int) (te : Int) (fB : Int → Int) (fN : Int → Int) (ph : Nat) (pa : Nat) (pr : Nat) (pt : Nat) (pd : Int) (pb : Int) (fP : Int → Int) (fR : Int → Int) (fT : Int → Int) (htz : 0 ≤ tz ∧ tz ≤ 300) (hby : ∀ i : Int, 0 ≤ fB i ∧ fB i < 256) (hpd : 1 ≤ pd ∧ pd ≤ 4) (hpb : 0 ≤ pb ∧ pb ≤ 5) : zzMet l yX8_tellTo cX8_tellTo 3 (Option.some .int) rm_X8_tellTo z [.ref th, .ref ph] ((wText z th tb tn tz tf tk ta te fB fN) ++ (wPlan z ph pa pr pt pd pb fP fR fT)) (po_X8_tellTo z th tb tn tz tf tk ta te fB fN ph pa pr pt pd pb fP fR fT) := by
  refine zzMet.of (own := RX8) (ls0 := [(0, .ref th), (1, .ref ph)]) (by decide) rfl (Nat.le_of_ble_eq_true rfl) rfl ?_
  intro p e s m below meth c A C hr hnm
  refine zz_aload_n C 0 dX8_tellTo_0 rfl rfl ?_
  refine zz_iconst C dX8_tellTo_1 ?_
  refine zz_put (ty := .int) (ws' := (wText z th tb tn tz 0 tk ta te fB fN) ++ (wPlan z ph pa pr pt pd pb fP fR fT)) C 0 (ci := 8) (k := 1) rfl rfl in_X8 tyX8 tyX8_ok nmX8 (by decide) qw_40 rfl rfl (by decide +kernel) rfl rfl (Nat.le_of_ble_eq_true rfl) rfl dX8_tellTo_2 ?_
  refine zz_aload_n C 0 dX8_tellTo_5 rfl rfl ?_
  refine zz_iconst C dX8_tellTo_6 ?_
  refine zz_put (ty := .int) (ws' := (wText z th tb tn tz 0 tk ta 0 fB fN) ++ (wPlan z ph pa pr pt pd pb fP fR fT)) C 0 (ci := 8) (k := 6) rfl rfl in_X8 tyX8 tyX8_ok nmX8 (by decide) qw_46 rfl rfl (by decide +kernel) rfl rfl (Nat.le_of_ble_eq_true rfl) rfl dX8_tellTo_7 ?_
  refine zz_iconst C dX8_tellTo_10 ?_
  refine zz_istore_n (ls' := [(2, .int (iI 0)), (0, .ref th), (1, .ref ph)]) C dX8_tellTo_11 rfl (by decide) rfl ?_
  refine zz_aload_n C 1 dX8_tellTo_12 rfl rfl ?_
  refine zz_callV (wr := wPlan z ph pa pr pt pd pb fP fR fT) (st := []) C (cc_X8_readToken l z th tb tn tz 0 tk ta 0 fB fN (by omega) (by omega) (by omega)) yk_X8_readToken qw_466 ⟨by decide, by decide⟩ [0, 1, 2] [3, 4, 5, 6] rfl rfl rfl rfl (by decide) 0 8 rfl rfl rfl rfl (Nat.le_of_ble_eq_true rfl) dX8_tellTo_13 ⟨by decide, by decide⟩ ?_
  rintro _ _ ⟨gA_13, gK_13, gE_13, hA_13, hR_13, hgA_13, rfl, rfl⟩
  refine zz_st (st' := []) rfl (zz_ws (ws' := (wPlan z ph pa pr pt pd pb fP fR fT) ++ (wText z th tb tn tz 0 gK_13 gA_13 gE_13 fB fN)) rfl ?_)
  have Lp16 : ∀ (fu9 : Nat) (sc : Int) (ga : Int) (gk : Int) (ge : Int) (gf : Int) (gN : Int → Int) (gd : Int) (gb : Int) (gP : Int → Int) (gR : Int → Int) (gT : Int → Int), (0 ≤ sc) → ((clN fB tz (pd, pb, fP, fR, fT) sc.toNat).2 = (gd, gb, gP, gR, gT)) → (0 ≤ (clN fB tz (pd, pb, fP, fR, fT) sc.toNat).1 ∧ (clN fB tz (pd, pb, fP, fR, fT) sc.toNat).1 ≤ tz ∧ sc ≤ (clN fB tz (pd, pb, fP, fR, fT) sc.toNat).1) → (ga = sk fB tz (clN fB tz (pd, pb, fP, fR, fT) sc.toNat).1) → (tokR fB tz ga gk ge) → (∀ i : Nat, i < sc.toNat → okN fB tz (pd, pb, fP, fR, fT) i) → (1 ≤ gd ∧ gd ≤ 4) → (0 ≤ gb ∧ gb ≤ 5) → (gf = 0) → (301 - sc).toNat < fu9 → zzW p l e rm_X8_tellTo s m ([.ref th, .ref ph] : List Value).toArray below meth c z A 3 (MQ below (zQ z A (po_X8_tellTo z th tb tn tz tf tk ta te fB fN ph pa pr pt pd pb fP fR fT)) ([.ref th, .ref ph] : List Value).toArray s 0 0 A) 0 0 ((wPlan z ph pa pr pt gd gb gP gR gT) ++ (wText z th tb tn tz gf gk ga ge fB gN)) [(0, .ref th), (1, .ref ph), (2, .int (iI sc))] [] 16 := by
    intro fu9
    induction fu9 with
    | zero => intro sc ga gk ge gf gN gd gb gP gR gT hsc hcl hpo hga hR hok hd hb hf h9; exact absurd h9 (Nat.not_lt_zero _)
    | succ fu9 ih16 =>
      intro sc ga gk ge gf gN gd gb gP gR gT hsc hcl hpo hga hR hok hd hb hf hm16
      have hte := tok_end hR
      have hrg := rn_spec blk fB hpo.2.1
      have hgr := tok_rng hR (by rw [hga]; exact hrg.2.1)
      refine zz_aload_n C 0 dX8_tellTo_16 rfl rfl ?_
      refine zz_get C 4 (ci := 8) (k := 4) rfl rfl in_X8 (by decide) qw_44 rfl rfl dX8_tellTo_17 ?_
      refine zz_if_eq (tgt := 50) C dX8_tellTo_20 (by decide) (by unfold rI; omega) (fun c20 => ?_) (fun c20 => ?_)
      · skip
        refine zz_iload_n C 2 dX8_tellTo_50 rfl rfl ?_
        refine zz_sub (ws' := (wText z th tb tn tz gf gk ga ge fB gN) ++ (wPlan z ph pa pr pt gd gb gP gR gT)) [4, 5, 6, 0, 1, 2, 3] rfl rfl ?_
        exact zz_iret C hr dX8_tellTo_51 ⟨_, _, _, _, _, _, _, _, _, _, _, ⟨sc.toNat, hok, hcl.symm, Or.inl ⟨by rw [← hga]; exact (hte.resolve_right (fun h => h.1 c20)).2, by omega, hf⟩⟩, rfl, rfl⟩
      · skip
        have hlt : ga < tz := (hte.resolve_left (fun h => c20 h.1)).2
        refine zz_iload_n C 2 dX8_tellTo_23 rfl rfl ?_
        refine zz_sipush C dX8_tellTo_24 (by decide +kernel) ?_
        refine zz_icmp_gt (tgt := 50) C dX8_tellTo_27 (by decide) (by unfold rI; omega) (by unfold rI; omega) (fun c27 => ?_) (fun c27 => ?_)
        · skip
          exfalso; omega
        · skip
          refine zz_aload_n C 0 dX8_tellTo_30 rfl rfl ?_
          refine zz_aload_n C 1 dX8_tellTo_31 rfl rfl ?_
          refine zz_callV (wr := ([] : va_W)) (st := []) C (cc_X8_tellStatement l z th tb tn tz gf gk ga ge fB gN ph pa pr pt gd gb gP gR gT ((clN fB tz (pd, pb, fP, fR, fT) sc.toNat).1) (by omega) (by omega) hd hb ⟨hpo.1, hpo.2.1⟩ hga hR) yk_X8_tellStatement qw_491 ⟨by decide, by decide⟩ [4, 5, 6, 0, 1, 2, 3] [] rfl rfl rfl rfl (by decide) 0 8 rfl rfl rfl rfl (Nat.le_of_ble_eq_true rfl) dX8_tellTo_32 ⟨by decide, by decide⟩ ?_
          rintro _ _ ⟨q_32, gA_32, gK_32, gE_32, gF_32, gN_32, gd_32, gb_32, gP_32, gR_32, gT_32, hq_32, rfl, rfl⟩
          refine zz_st (st' := [.int (iI q_32)]) rfl (zz_ws (ws' := (wText z th tb tn tz gF_32 gK_32 gA_32 gE_32 fB gN_32) ++ (wPlan z ph pa pr pt gd_32 gb_32 gP_32 gR_32 gT_32)) rfl ?_)
          refine zz_if_ne (tgt := 40) C dX8_tellTo_35 (by decide) (by unfold rI; omega) (fun c35 => ?_) (fun c35 => ?_)
          · skip
            have hs9 := hq_32.resolve_right (fun h => by omega)
            have hso9 := hs9.2.1
            have hsa9 := st_args hso9
            have hsr9 := sR_rng hpo.1 hpo.2.1 (wkd_rng _ _ _).1 hso9.1
            have hop9 : (1 ≤ gd_32 ∧ gd_32 ≤ 4) ∧ (0 ≤ gb_32 ∧ gb_32 ≤ 5) := by have h9 := opC_rng (k := sK fB tz (clN fB tz (pd, pb, fP, fR, fT) sc.toNat).1) (v0 := sA fB tz (clN fB tz (pd, pb, fP, fR, fT) sc.toNat).1 0) (v1 := sA fB tz (clN fB tz (pd, pb, fP, fR, fT) sc.toNat).1 1) (v2 := sA fB tz (clN fB tz (pd, pb, fP, fR, fT) sc.toNat).1 2) (v3 := sA fB tz (clN fB tz (pd, pb, fP, fR, fT) sc.toNat).1 3) (S := (gd, gb, gP, gR, gT)) hd hb hsa9.2.1 (fun h => (hsa9.2.2.2.2.1 h).1); rw [← hs9.2.2.2.2] at h9; exact h9
            refine zz_iinc (ls' := [(2, .int (iI (sc + 1))), (0, .ref th), (1, .ref ph)]) C 2 dX8_tellTo_40 rfl (by decide) rfl ?_
            refine zz_aload_n C 1 dX8_tellTo_43 rfl rfl ?_
            refine zz_callV (wr := wPlan z ph pa pr pt gd_32 gb_32 gP_32 gR_32 gT_32) (st := []) C (cc_X8_readToken l z th tb tn tz gF_32 gK_32 gA_32 gE_32 fB gN_32 (by omega) (by omega) (by have := hso9.2.2.2.1; rw [hs9.2.2.1]; omega)) yk_X8_readToken qw_466 ⟨by decide, by decide⟩ [0, 1, 2] [3, 4, 5, 6] rfl rfl rfl rfl (by decide) 0 8 rfl rfl rfl rfl (Nat.le_of_ble_eq_true rfl) dX8_tellTo_44 ⟨by decide, by decide⟩ ?_
            rintro _ _ ⟨gA_44, gK_44, gE_44, hA_44, hR_44, hgA_44, rfl, rfl⟩
            refine zz_st (st' := []) rfl (zz_ws (ws' := (wPlan z ph pa pr pt gd_32 gb_32 gP_32 gR_32 gT_32) ++ (wText z th tb tn tz gF_32 gK_44 gA_44 gE_44 fB gN_32)) rfl ?_)
            have he9 := clN_suc fB tz (pd, pb, fP, fR, fT) hsc
            have hcl9 : (clN fB tz (pd, pb, fP, fR, fT) (sc + 1).toNat).2 = (gd_32, gb_32, gP_32, gR_32, gT_32) := by rw [he9]; show opC _ _ _ _ _ (clN fB tz (pd, pb, fP, fR, fT) sc.toNat).2 = _; rw [hcl]; exact hs9.2.2.2.2.symm
            have hp9 : (clN fB tz (pd, pb, fP, fR, fT) (sc + 1).toNat).1 = gE_32 := by rw [he9]; exact hs9.2.2.1.symm
            have hpo9 : 0 ≤ (clN fB tz (pd, pb, fP, fR, fT) (sc + 1).toNat).1 ∧ (clN fB tz (pd, pb, fP, fR, fT) (sc + 1).toNat).1 ≤ tz ∧ sc + 1 ≤ (clN fB tz (pd, pb, fP, fR, fT) (sc + 1).toNat).1 := by rw [hp9, hs9.2.2.1]; have := hso9.2.2.2.1; omega
            have hga9 : gA_44 = sk fB tz (clN fB tz (pd, pb, fP, fR, fT) (sc + 1).toNat).1 := by rw [hp9]; exact hA_44
            have hok9 : ∀ i : Nat, i < (sc + 1).toNat → okN fB tz (pd, pb, fP, fR, fT) i := fun i hi => by by_cases e9 : i = sc.toNat; rw [e9]; exact okN_of hcl (by rw [← hga]; exact hlt) hso9; exact hok i (by omega)
            refine zz_goto (tgt := 16) C dX8_tellTo_47 (by decide) ?_
            refine zz_loc (ls' := [(0, .ref th), (1, .ref ph), (2, .int (iI (sc + 1)))]) [1, 2, 0] rfl ?_
            exact ih16 (sc + 1) gA_44 gK_44 gE_44 gF_32 gN_32 gd_32 gb_32 gP_32 gR_32 gT_32 (by omega) hcl9 hpo9 hga9 hR_44 hok9 hop9.1 hop9.2 (by rw [hs9.2.2.2.1]; exact hf) (by omega)
          · skip
            have hs9 := hq_32.resolve_left (fun h => by omega)
            refine zz_iconst C dX8_tellTo_38 ?_
            exact zz_iret C hr dX8_tellTo_39 ⟨_, _, _, _, _, _, _, _, _, _, _, ⟨sc.toNat, hok, by rw [hs9.2.2]; exact hcl.symm, Or.inr ⟨by rw [← hga]; exact hlt, sWr_of hcl hs9.2.1, rfl⟩⟩, rfl, rfl⟩
  refine zz_loc (ls' := [(0, .ref th), (1, .ref ph), (2, .int (iI 0))]) [1, 2, 0] rfl ?_
  exact Lp16 _ 0 gA_13 gK_13 gE_13 0 fN pd pb fP fR fT (by omega) rfl (by show (0 : Int) ≤ 0 ∧ (0 : Int) ≤ tz ∧ (0 : Int) ≤ 0; omega) hA_13 hR_13 (fun i h => by simp at h) hpd hpb rfl (Nat.lt_succ_self _)
abbrev po_X9_tell (z : zC) (lh : Nat) (lb : Nat) (lc : Nat) (lr : Nat) (lm : Int) (lf : Int) (lk : Int) (lq : Int) (ph : Nat) (pa : Nat) (pr : Nat) (pt : Nat) (pd : Int) (pb : Int) (fP : Int → Int) (fR : Int → Int) (fT : Int → Int) (oph : Nat) (opa : Nat) (opr : Nat) (opt : Nat) (opd : Int) (opb : Int) (ofP : Int → Int) (ofR : Int → Int) (ofT : Int → Int) (th : Nat) (tb : Nat) (tn : Nat) (tz : Int) (tf : Int) (tk : Int) (ta : Int) (te : Int) (fB : Int → Int) (fN : Int → Int) : Option Value → va_W → Prop := fun v w => ∃ (q : Int), ∃ (gA : Int), ∃ (gK : Int), ∃ (gE : Int), ∃ (gF : Int), ∃ (gN : Int → Int), ∃ (xh : Nat), ∃ (xa : Nat), ∃ (xr : Nat), ∃ (xt : Nat), ∃ (xd : Int), ∃ (xb : Int), ∃ (xP : Int → Int), ∃ (xR : Int → Int), ∃ (xT : Int → Int), ∃ (yh : Nat), ∃ (ya : Nat), ∃ (yr : Nat), ∃ (yt : Nat), ∃ (yd : Int), ∃ (yb : Int), ∃ (yP : Int → Int), ∃ (yR : Int → Int), ∃ (yT : Int → Int), ∃ (gk9 : Int), ∃ (gq9 : Int), (∃ S' : plT, tellQ fB tz (pd, pb, zcpy fP ofP 5, zcpy fR ofR 5, zcpy fT ofT 35) q gF S' ∧ ((q ≠ -1 ∧ (xh, xa, xr, xt) = (oph, opa, opr, opt) ∧ (yh, ya, yr, yt) = (ph, pa, pr, pt) ∧ (xd, xb, xP, xR, xT) = S' ∧ (yd, yb, yP, yR, yT) = (pd, pb, fP, fR, fT) ∧ gk9 = 0 ∧ gq9 = 0) ∨ (q = -1 ∧ (xh, xa, xr, xt) = (ph, pa, pr, pt) ∧ (yh, ya, yr, yt) = (oph, opa, opr, opt) ∧ (xd, xb, xP, xR, xT) = (pd, pb, fP, fR, fT) ∧ (yd, yb, yP, yR, yT) = S' ∧ gk9 = lk ∧ gq9 = lq))) ∧ v = some (Value.int (iI q)) ∧ w = (wLM z lh th lb lc lr xh yh lm gF gk9 gq9) ++ (wPlan z xh xa xr xt xd xb xP xR xT) ++ (wPlan z yh ya yr yt yd yb yP yR yT) ++ (wText z th tb tn 0 gF gK gA gE fB gN)
abbrev rm_X9_tell : Room := { frames := 9, cells := 0, slots := 0, locals := 212 }
set_option maxHeartbeats 4000000 in
set_option maxRecDepth 100000 in
theorem cc_X9_tell (l : Launch) (z : zC) (lh : Nat) (lb : Nat) (lc : Nat) (lr : Nat) (lm : Int) (lf : Int) (lk : Int) (lq : Int) (ph : Nat) (pa : Nat) (pr : Nat) (pt : Nat) (pd : Int) (pb : Int) (fP : Int → Int) (fR : Int → Int) (fT : Int → Int) (oph : Nat) (opa : Nat) (opr : Nat) (opt : Nat) (opd : Int) (opb : Int) (ofP : Int → Int) (ofR : Int → Int) (ofT : Int → Int) (th : Nat) (tb : Nat) (tn : Nat) (tz : Int) (tf : Int) (tk : Int) (ta : Int) (te : Int) (fB : Int → Int) (fN : Int → Int) (htz : 0 ≤ tz ∧ tz ≤ 300) (hby : ∀ i : Int, 0 ≤ fB i ∧ fB i < 256) (hpd : 1 ≤ pd ∧ pd ≤ 4) (hpb : 0 ≤ pb ∧ pb ≤ 5) : zzMet l yX9_tell cX9_tell 3 (Option.some .int) rm_X9_tell z [.ref lh] ((wLM z lh th lb lc lr ph oph lm lf lk lq) ++ (wPlan z ph pa pr pt pd pb fP fR fT) ++ (wPlan z oph opa opr opt opd opb ofP ofR ofT) ++ (wText z th tb tn tz tf tk ta te fB fN)) (po_X9_tell z lh lb lc lr lm lf lk lq ph pa pr pt pd pb fP fR fT oph opa opr opt opd opb ofP ofR ofT th tb tn tz tf tk ta te fB fN) := by
  refine zzMet.of (own := RX9) (ls0 := [(0, .ref lh)]) (by decide) rfl (Nat.le_of_ble_eq_true rfl) rfl ?_
  intro p e s m below meth c A C hr hnm
  refine zz_aload_n C 0 dX9_tell_0 rfl rfl ?_
  refine zz_get C 0 (ci := 9) (k := 5) rfl rfl in_X9 (by decide) qw_321 rfl rfl dX9_tell_1 ?_
  refine zz_aload_n C 0 dX9_tell_4 rfl rfl ?_
  refine zz_get C 0 (ci := 9) (k := 4) rfl rfl in_X9 (by decide) qw_320 rfl rfl dX9_tell_5 ?_
  refine zz_callV (wr := (wLM z lh th lb lc lr ph oph lm lf lk lq) ++ (wText z th tb tn tz tf tk ta te fB fN)) (st := []) C (cc_X6_copyFrom l z oph opa opr opt opd opb ofP ofR ofT ph pa pr pt pd pb fP fR fT ) yk_X6_copyFrom qw_455 ⟨by decide, by decide⟩ [5, 6, 7, 8, 1, 2, 3, 4] [0, 9, 10, 11] rfl rfl rfl rfl (by decide) 0 6 rfl rfl rfl rfl (Nat.le_of_ble_eq_true rfl) dX9_tell_8 ⟨by decide, by decide⟩ ?_
  rintro _ _ ⟨rfl, rfl⟩
  refine zz_st (st' := []) rfl (zz_ws (ws' := (wLM z lh th lb lc lr ph oph lm lf lk lq) ++ (wText z th tb tn tz tf tk ta te fB fN) ++ (wPlan z oph opa opr opt pd pb (zcpy fP ofP 5) (zcpy fR ofR 5) (zcpy fT ofT 35)) ++ (wPlan z ph pa pr pt pd pb fP fR fT)) rfl ?_)
  refine zz_aload_n C 0 dX9_tell_11 rfl rfl ?_
  refine zz_get C 0 (ci := 9) (k := 0) rfl rfl in_X9 (by decide) qw_316 rfl rfl dX9_tell_12 ?_
  refine zz_aload_n C 0 dX9_tell_15 rfl rfl ?_
  refine zz_get C 0 (ci := 9) (k := 5) rfl rfl in_X9 (by decide) qw_321 rfl rfl dX9_tell_16 ?_
  refine zz_callV (wr := (wLM z lh th lb lc lr ph oph lm lf lk lq) ++ (wPlan z ph pa pr pt pd pb fP fR fT)) (st := []) C (cc_X8_tellTo l z th tb tn tz tf tk ta te fB fN oph opa opr opt pd pb (zcpy fP ofP 5) (zcpy fR ofR 5) (zcpy fT ofT 35) (by omega) (by omega) (by omega) (by omega)) yk_X8_tellTo qw_462 ⟨by decide, by decide⟩ [1, 2, 3, 4, 5, 6, 7] [0, 8, 9, 10, 11] rfl rfl rfl rfl (by decide) 0 8 rfl rfl rfl rfl (Nat.le_of_ble_eq_true rfl) dX9_tell_19 ⟨by decide, by decide⟩ ?_
  rintro _ _ ⟨q_19, gA_19, gK_19, gE_19, gF_19, gN_19, gd_19, gb_19, gP_19, gR_19, gT_19, hq_19, rfl, rfl⟩
  refine zz_st (st' := [.int (iI q_19)]) rfl (zz_ws (ws' := (wLM z lh th lb lc lr ph oph lm lf lk lq) ++ (wPlan z ph pa pr pt pd pb fP fR fT) ++ (wText z th tb tn tz gF_19 gK_19 gA_19 gE_19 fB gN_19) ++ (wPlan z oph opa opr opt gd_19 gb_19 gP_19 gR_19 gT_19)) rfl ?_)
  have hq9 := hq_19
  refine zz_istore_n (ls' := [(1, .int (iI q_19)), (0, .ref lh)]) C dX9_tell_22 rfl (by decide) rfl ?_
  refine zz_aload_n C 1 dX9_tell_23 rfl rfl ?_
  refine zz_aload_n C 1 dX9_tell_24 rfl rfl ?_
  refine zz_get C 0 (ci := 9) (k := 0) rfl rfl in_X9 (by decide) qw_316 rfl rfl dX9_tell_25 ?_
  refine zz_get C 5 (ci := 8) (k := 1) rfl rfl in_X8 (by decide) qw_41 rfl rfl dX9_tell_28 ?_
  refine zz_put (ty := .int) (ws' := (wLM z lh th lb lc lr ph oph lm gF_19 lk lq) ++ (wPlan z ph pa pr pt pd pb fP fR fT) ++ (wText z th tb tn tz gF_19 gK_19 gA_19 gE_19 fB gN_19) ++ (wPlan z oph opa opr opt gd_19 gb_19 gP_19 gR_19 gT_19)) C 0 (ci := 9) (k := 7) rfl rfl in_X9 tyX9 tyX9_ok nmX9 (by decide) qw_323 rfl rfl (by decide +kernel) rfl rfl (Nat.le_of_ble_eq_true rfl) rfl dX9_tell_31 ?_
  refine zz_aload_n C 1 dX9_tell_34 rfl rfl ?_
  refine zz_get C 0 (ci := 9) (k := 0) rfl rfl in_X9 (by decide) qw_316 rfl rfl dX9_tell_35 ?_
  refine zz_iconst C dX9_tell_38 ?_
  refine zz_put (ty := .int) (ws' := (wLM z lh th lb lc lr ph oph lm gF_19 lk lq) ++ (wPlan z ph pa pr pt pd pb fP fR fT) ++ (wText z th tb tn 0 gF_19 gK_19 gA_19 gE_19 fB gN_19) ++ (wPlan z oph opa opr opt gd_19 gb_19 gP_19 gR_19 gT_19)) C 5 (ci := 8) (k := 0) rfl rfl in_X8 tyX8 tyX8_ok nmX8 (by decide) qw_39 rfl rfl (by decide +kernel) rfl rfl (Nat.le_of_ble_eq_true rfl) rfl dX9_tell_39 ?_
  refine zz_iload_n C 0 dX9_tell_42 rfl rfl ?_
  refine zz_iconst C dX9_tell_43 ?_
  refine zz_icmp_eq (tgt := 69) C dX9_tell_44 (by decide) (by obtain ⟨j9, -, -, h9⟩ := hq9; rcases h9 with h9 | h9; unfold rI; have := tell_len htz hq_19; omega; unfold rI; omega) (by unfold rI; omega) (fun c44 => ?_) (fun c44 => ?_)
  · skip
    refine zz_iload_n C 0 dX9_tell_69 rfl rfl ?_
    refine zz_sub (ws' := (wLM z lh th lb lc lr ph oph lm gF_19 lk lq) ++ (wPlan z ph pa pr pt pd pb fP fR fT) ++ (wPlan z oph opa opr opt gd_19 gb_19 gP_19 gR_19 gT_19) ++ (wText z th tb tn 0 gF_19 gK_19 gA_19 gE_19 fB gN_19)) [0, 1, 2, 3, 4, 8, 9, 10, 11, 5, 6, 7] rfl rfl ?_
    exact zz_iret C hr dX9_tell_70 ⟨_, gA_19, gK_19, gE_19, gF_19, gN_19, ph, pa, pr, pt, pd, pb, fP, fR, fT, oph, opa, opr, opt, gd_19, gb_19, gP_19, gR_19, gT_19, lk, lq, ⟨_, hq_19, by first | exact Or.inl ⟨c44, rfl, rfl, rfl, rfl, rfl, rfl⟩ | exact Or.inr ⟨c44, rfl, rfl, rfl, rfl, rfl, rfl⟩⟩, rfl, rfl⟩
  · skip
    refine zz_aload_n C 1 dX9_tell_47 rfl rfl ?_
    refine zz_get C 0 (ci := 9) (k := 4) rfl rfl in_X9 (by decide) qw_320 rfl rfl dX9_tell_48 ?_
    refine zz_astore_n (ls' := [(2, .ref ph), (1, .int (iI q_19)), (0, .ref lh)]) C dX9_tell_51 rfl (by decide) rfl ?_
    refine zz_aload_n C 2 dX9_tell_52 rfl rfl ?_
    refine zz_aload_n C 2 dX9_tell_53 rfl rfl ?_
    refine zz_get C 0 (ci := 9) (k := 5) rfl rfl in_X9 (by decide) qw_321 rfl rfl dX9_tell_54 ?_
    refine zz_put (ty := .object "LiabilityMatcher$Plan") (ws' := (wLM z lh th lb lc lr oph oph lm gF_19 lk lq) ++ (wPlan z ph pa pr pt pd pb fP fR fT) ++ (wText z th tb tn 0 gF_19 gK_19 gA_19 gE_19 fB gN_19) ++ (wPlan z oph opa opr opt gd_19 gb_19 gP_19 gR_19 gT_19)) C 0 (ci := 9) (k := 4) rfl rfl in_X9 tyX9 tyX9_ok nmX9 (by decide) qw_320 rfl rfl (by decide +kernel) rfl rfl (Nat.le_of_ble_eq_true rfl) rfl dX9_tell_57 ?_
    refine zz_aload_n C 2 dX9_tell_60 rfl rfl ?_
    refine zz_aload_n C 0 dX9_tell_61 rfl rfl ?_
    refine zz_put (ty := .object "LiabilityMatcher$Plan") (ws' := (wLM z lh th lb lc lr oph ph lm gF_19 lk lq) ++ (wPlan z ph pa pr pt pd pb fP fR fT) ++ (wText z th tb tn 0 gF_19 gK_19 gA_19 gE_19 fB gN_19) ++ (wPlan z oph opa opr opt gd_19 gb_19 gP_19 gR_19 gT_19)) C 0 (ci := 9) (k := 5) rfl rfl in_X9 tyX9 tyX9_ok nmX9 (by decide) qw_321 rfl rfl (by decide +kernel) rfl rfl (Nat.le_of_ble_eq_true rfl) rfl dX9_tell_62 ?_
    refine zz_aload_n C 2 dX9_tell_65 rfl rfl ?_
    refine zz_callV (wr := (wPlan z ph pa pr pt pd pb fP fR fT) ++ (wText z th tb tn 0 gF_19 gK_19 gA_19 gE_19 fB gN_19) ++ (wPlan z oph opa opr opt gd_19 gb_19 gP_19 gR_19 gT_19)) (st := []) C (cc_X9_forgetAnswers l z lh th lb lc lr oph ph lm gF_19 lk lq ) yk_X9_forgetAnswers qw_367 ⟨by decide, by decide⟩ [0] [1, 2, 3, 4, 5, 6, 7, 8, 9, 10, 11] rfl rfl rfl rfl (by decide) 0 9 rfl rfl rfl rfl (Nat.le_of_ble_eq_true rfl) dX9_tell_66 ⟨by decide, by decide⟩ ?_
    rintro _ _ ⟨rfl, rfl⟩
    refine zz_st (st' := []) rfl (zz_ws (ws' := (wPlan z ph pa pr pt pd pb fP fR fT) ++ (wText z th tb tn 0 gF_19 gK_19 gA_19 gE_19 fB gN_19) ++ (wPlan z oph opa opr opt gd_19 gb_19 gP_19 gR_19 gT_19) ++ (wLM z lh th lb lc lr oph ph lm gF_19 0 0)) rfl ?_)
    refine zz_iload_n C 1 dX9_tell_69 rfl rfl ?_
    refine zz_sub (ws' := (wLM z lh th lb lc lr oph ph lm gF_19 0 0) ++ (wPlan z oph opa opr opt gd_19 gb_19 gP_19 gR_19 gT_19) ++ (wPlan z ph pa pr pt pd pb fP fR fT) ++ (wText z th tb tn 0 gF_19 gK_19 gA_19 gE_19 fB gN_19)) [11, 7, 8, 9, 10, 0, 1, 2, 3, 4, 5, 6] rfl rfl ?_
    exact zz_iret C hr dX9_tell_70 ⟨_, gA_19, gK_19, gE_19, gF_19, gN_19, oph, opa, opr, opt, gd_19, gb_19, gP_19, gR_19, gT_19, ph, pa, pr, pt, pd, pb, fP, fR, fT, 0, 0, ⟨_, hq_19, by first | exact Or.inl ⟨c44, rfl, rfl, rfl, rfl, rfl, rfl⟩ | exact Or.inr ⟨c44, rfl, rfl, rfl, rfl, rfl, rfl⟩⟩, rfl, rfl⟩
