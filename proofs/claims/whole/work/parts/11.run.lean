def plG (pd : Int) (fR : Int → Int) (i : Int) : Int := 20 + plAt pd fR i
def plNet (pd pb : Int) (fP fT : Int → Int) (date : Int) : Int := -plAt pd fP date + zsum (fun b => plTerm pb fT b 6 * plYield pb fT b date) pb
def plBal (pd pb : Int) (fP fR fT : Int → Int) (start : Int) : Int → Int := bal start (plG pd fR) (plNet pd pb fP fT)
def plCar (pd : Int) (fR : Int → Int) (a j : Int) : Int := p20 a * grw (plG pd fR) a j
theorem plAt_rng {pd hi : Int} {f : Int → Int} (h : ∀ i : Int, 0 ≤ f i ∧ f i ≤ hi) (date : Int) : 0 ≤ plAt pd f date ∧ plAt pd f date ≤ hi := by
  unfold plAt
  have := h date
  split <;> omega
theorem plG_rng (pd : Int) {fR : Int → Int} (h : ∀ i : Int, 0 ≤ fR i ∧ fR i ≤ 6) (i : Int) : 20 ≤ plG pd fR i ∧ plG pd fR i ≤ 26 := by
  unfold plG
  have := plAt_rng (pd := pd) h i
  omega
theorem plYield_rng (pb : Int) {fT : Int → Int} (h : ∀ i : Int, 0 ≤ fT i ∧ fT i ≤ 200) (bond date : Int) : 0 ≤ plYield pb fT bond date ∧ plYield pb fT bond date ≤ 400 := by
  unfold plYield
  have h0 := plTerm_rng pb h bond 0
  have h1 := plTerm_rng pb h bond 1
  repeat' split
  all_goals omega
theorem plHY_rng (pb : Int) {fT : Int → Int} (h : ∀ i : Int, 0 ≤ fT i ∧ fT i ≤ 200) (bond date : Int) : 0 ≤ plTerm pb fT bond 6 * plYield pb fT bond date ∧ plTerm pb fT bond 6 * plYield pb fT bond date ≤ 80000 :=
  mul_pos_rng (plTerm_rng pb h bond 6) (plYield_rng pb h bond date)
theorem plNet_rng {pd pb : Int} {fP fT : Int → Int} (hb : 0 ≤ pb ∧ pb ≤ 5) (hP : ∀ i : Int, 0 ≤ fP i ∧ fP i ≤ 200) (hT : ∀ i : Int, 0 ≤ fT i ∧ fT i ≤ 200) (date : Int) : -1000000 ≤ plNet pd pb fP fT date ∧ plNet pd pb fP fT date ≤ 1000000 := by
  unfold plNet
  have h1 := plAt_rng (pd := pd) hP date
  have h2 := zsum_rng (fun b => plHY_rng pb hT b date) hb.1
  have h3 : pb * 80000 ≤ 400000 := by omega
  omega
theorem plBal_rng {pd pb : Int} {fP fR fT : Int → Int} {start : Int} (hb : 0 ≤ pb ∧ pb ≤ 5) (hP : ∀ i : Int, 0 ≤ fP i ∧ fP i ≤ 200) (hR : ∀ i : Int, 0 ≤ fR i ∧ fR i ≤ 6) (hT : ∀ i : Int, 0 ≤ fT i ∧ fT i ≤ 200) (hs : 0 ≤ start ∧ start ≤ 9999) {k : Int} (h0 : 0 ≤ k) (h4 : k ≤ 4) : -1300000000000 ≤ plBal pd pb fP fR fT start k ∧ plBal pd pb fP fR fT start k ≤ 1300000000000 :=
  bal_rng hs (fun i => by have := plG_rng pd hR i; omega) (plNet_rng hb hP hT) h0 h4
theorem plBal_step {pd pb : Int} {fP fR fT gU gL : Int → Int} {start k : Int} (hk : 1 ≤ k) (hU : gU (k - 1) = plBal pd pb fP fR fT start (k - 1)) (hL : gL (k - 1) = p20 (k - 1)) : gU (k - 1) * (20 + plAt pd fR k) + zup gL k (gL (k - 1) * 20) k * plNet pd pb fP fT k = plBal pd pb fP fR fT start k := by
  have h1 := bal_succ start (plG pd fR) (plNet pd pb fP fT) (k := k - 1) (by omega)
  have h2 := p20_succ (k := k - 1) (by omega)
  rw [show k - 1 + 1 = k by omega] at h1 h2
  rw [zup_eq, hU, hL, ← h2]
  unfold plBal
  rw [h1]
  rfl
theorem plCar_self (pd : Int) (fR : Int → Int) (a : Int) : plCar pd fR a a = p20 a := by unfold plCar; rw [grw_self, Int.mul_one]
theorem plCar_succ {pd : Int} {fR : Int → Int} {a k : Int} (h : a < k) : plCar pd fR a k = plCar pd fR a (k - 1) * (20 + plAt pd fR k) := by
  unfold plCar
  have := grw_succ (plG pd fR) (a := a) (b := k - 1) (by omega)
  rw [show k - 1 + 1 = k by omega] at this
  rw [this, Int.mul_assoc]
  rfl
theorem plCar_rng {pd : Int} {fR : Int → Int} (hR : ∀ i : Int, 0 ≤ fR i ∧ fR i ≤ 6) {a j : Int} (h0 : 0 ≤ a) (h1 : a ≤ j) (h4 : j ≤ 4) : 1 ≤ plCar pd fR a j ∧ plCar pd fR a j ≤ 456976 := carr_rng (plG_rng pd hR) h0 h1 h4
theorem lack_rL {a b : Int} (ha : -1300000000000 ≤ a ∧ a ≤ 1300000000000) (hb : 0 ≤ b ∧ b ≤ 456976) : rL (a * b) := by
  have := mul_abs (a := a) (A := 1300000000000) (b := b) (B := 456976) (by omega) (by omega)
  unfold rL
  omega

abbrev po_X4_netAt (z : zC) (ph : Nat) (pa : Nat) (pr : Nat) (pt : Nat) (pd : Int) (pb : Int) (fP : Int → Int) (fR : Int → Int) (fT : Int → Int) (date : Int) : Option Value → va_W → Prop := fun v w => v = some (Value.long (iL (plNet pd pb fP fT date))) ∧ w = wPlan z ph pa pr pt pd pb fP fR fT
abbrev rm_X4_netAt : Room := { frames := 4, cells := 0, slots := 0, locals := 108 }
set_option maxHeartbeats 4000000 in
set_option maxRecDepth 100000 in
theorem cc_X4_netAt (l : Launch) (z : zC) (ph : Nat) (pa : Nat) (pr : Nat) (pt : Nat) (pd : Int) (pb : Int) (fP : Int → Int) (fR : Int → Int) (fT : Int → Int) (date : Int) (hpd : 1 ≤ pd ∧ pd ≤ 4) (hpb : 0 ≤ pb ∧ pb ≤ 5) (hfP : ∀ i : Int, 0 ≤ fP i ∧ fP i ≤ 200) (hfT : ∀ i : Int, 0 ≤ fT i ∧ fT i ≤ 200) (hda : -2147483648 ≤ date ∧ date < 2147483648) : zzMet l yX4_netAt cX4_netAt 5 (Option.some .long) rm_X4_netAt z [.ref ph, .int (iI date)] (wPlan z ph pa pr pt pd pb fP fR fT) (po_X4_netAt z ph pa pr pt pd pb fP fR fT date) := by
  refine zzMet.of (own := RX4) (ls0 := [(0, .ref ph), (1, .int (iI date))]) (by decide) rfl (Nat.le_of_ble_eq_true rfl) rfl ?_
  intro p e s m below meth c A C hr hnm
  have hpa := plAt_rng (pd := pd) hfP date
  refine zz_aload_n C 0 dX4_netAt_0 rfl rfl ?_
  refine zz_iload_n C 1 dX4_netAt_1 rfl rfl ?_
  refine zz_callV (wr := ([] : va_W)) (st := []) C (cc_X6_paidAt l z ph pa pr pt pd pb fP fR fT date (by omega) (by omega) (by omega)) yk_X6_paidAt qw_826 ⟨by decide, by decide⟩ [0, 1, 2, 3] [] rfl rfl rfl rfl (by decide) 0 6 rfl rfl rfl rfl (Nat.le_of_ble_eq_true rfl) dX4_netAt_2 ⟨by decide, by decide⟩ ?_
  rintro _ _ ⟨rfl, rfl⟩
  refine zz_st (st' := [.int (iI (plAt pd fP date))]) rfl (zz_ws (ws' := wPlan z ph pa pr pt pd pb fP fR fT) rfl ?_)
  refine zz_ineg C dX4_netAt_5 ?_
  refine zz_i2l C dX4_netAt_6 (by unfold rI; omega) ?_
  refine zz_lstore_n (ls' := [(2, .long (iL (-(plAt pd fP date)))), (0, .ref ph), (1, .int (iI date))]) C dX4_netAt_7 rfl (by decide) rfl ?_
  refine zz_iconst C dX4_netAt_8 ?_
  refine zz_istore (ls' := [(4, .int (iI 0)), (2, .long (iL (-(plAt pd fP date)))), (0, .ref ph), (1, .int (iI date))]) C dX4_netAt_9 (by decide) rfl ?_
  have Lp11 : ∀ (fu9 : Nat) (k : Int) (nt : Int), (0 ≤ k ∧ k ≤ pb) → (nt = -plAt pd fP date + zsum (fun b => plTerm pb fT b 6 * plYield pb fT b date) k) → (pb - k).toNat < fu9 → zzW p l e rm_X4_netAt s m ([.ref ph, .int (iI date)] : List Value).toArray below meth c z A 5 (MQ below (zQ z A (po_X4_netAt z ph pa pr pt pd pb fP fR fT date)) ([.ref ph, .int (iI date)] : List Value).toArray s 0 0 A) 0 0 (wPlan z ph pa pr pt pd pb fP fR fT) [(0, .ref ph), (1, .int (iI date)), (2, .long (iL nt)), (4, .int (iI k))] [] 11 := by
    intro fu9
    induction fu9 with
    | zero => intro k nt hk hnt h9; exact absurd h9 (Nat.not_lt_zero _)
    | succ fu9 ih11 =>
      intro k nt hk hnt hm11
      refine zz_iload C 3 dX4_netAt_11 rfl ?_
      refine zz_aload_n C 0 dX4_netAt_13 rfl rfl ?_
      refine zz_get C 0 (ci := 6) (k := 1) rfl rfl in_X6 (by decide) qw_299 rfl rfl dX4_netAt_14 ?_
      refine zz_icmp_ge (tgt := 46) C dX4_netAt_17 (by decide) (by unfold rI; omega) (by unfold rI; omega) (fun c17 => ?_) (fun c17 => ?_)
      · skip
        refine zz_lload_n C 2 dX4_netAt_46 rfl rfl ?_
        have hk5 : k = pb := by omega
        subst hk5
        exact zz_lret C hr dX4_netAt_47 ⟨zz_vL hnt, rfl⟩
      · skip
        refine zz_lload_n C 2 dX4_netAt_20 rfl rfl ?_
        refine zz_aload_n C 0 dX4_netAt_21 rfl rfl ?_
        refine zz_iload C 3 dX4_netAt_22 rfl ?_
        refine zz_bipush C dX4_netAt_24 (by decide +kernel) ?_
        refine zz_callV (wr := ([] : va_W)) (st := [.long (iL nt)]) C (cc_X6_term l z ph pa pr pt pd pb fP fR fT k 6 (by omega) (by omega) (by omega)) yk_X6_term qw_827 ⟨by decide, by decide⟩ [0, 1, 2, 3] [] rfl rfl rfl rfl (by decide) 0 6 rfl rfl rfl rfl (Nat.le_of_ble_eq_true rfl) dX4_netAt_26 ⟨by decide, by decide⟩ ?_
        rintro _ _ ⟨rfl, rfl⟩
        refine zz_st (st' := [.int (iI (plTerm pb fT k 6)), .long (iL nt)]) rfl (zz_ws (ws' := wPlan z ph pa pr pt pd pb fP fR fT) rfl ?_)
        refine zz_aload_n C 0 dX4_netAt_29 rfl rfl ?_
        refine zz_iload C 3 dX4_netAt_30 rfl ?_
        refine zz_iload_n C 1 dX4_netAt_32 rfl rfl ?_
        refine zz_callV (wr := ([] : va_W)) (st := [.int (iI (plTerm pb fT k 6)), .long (iL nt)]) C (cc_X6_yieldAt l z ph pa pr pt pd pb fP fR fT k date (by omega) (by omega) (by omega) (by omega)) yk_X6_yieldAt qw_828 ⟨by decide, by decide⟩ [0, 1, 2, 3] [] rfl rfl rfl rfl (by decide) 0 6 rfl rfl rfl rfl (Nat.le_of_ble_eq_true rfl) dX4_netAt_33 ⟨by decide, by decide⟩ ?_
        rintro _ _ ⟨rfl, rfl⟩
        refine zz_st (st' := [.int (iI (plYield pb fT k date)), .int (iI (plTerm pb fT k 6)), .long (iL nt)]) rfl (zz_ws (ws' := wPlan z ph pa pr pt pd pb fP fR fT) rfl ?_)
        refine zz_imul C dX4_netAt_36 ?_
        have hy37 := plHY_rng pb hfT k date
        refine zz_i2l C dX4_netAt_37 (by unfold rI; omega) ?_
        refine zz_ladd C dX4_netAt_38 ?_
        refine zz_lstore_n (ls' := [(2, .long (iL (nt + ((plTerm pb fT k 6) * (plYield pb fT k date))))), (0, .ref ph), (1, .int (iI date)), (4, .int (iI k))]) C dX4_netAt_39 rfl (by decide) rfl ?_
        refine zz_iinc (ls' := [(4, .int (iI (k + 1))), (2, .long (iL (nt + ((plTerm pb fT k 6) * (plYield pb fT k date))))), (0, .ref ph), (1, .int (iI date))]) C 3 dX4_netAt_40 rfl (by decide) rfl ?_
        refine zz_goto (tgt := 11) C dX4_netAt_43 (by decide) ?_
        refine zz_loc (ls' := [(0, .ref ph), (1, .int (iI date)), (2, .long (iL (nt + ((plTerm pb fT k 6) * (plYield pb fT k date))))), (4, .int (iI (k + 1)))]) [2, 3, 1, 0] rfl ?_
        exact ih11 (k + 1) (nt + ((plTerm pb fT k 6) * (plYield pb fT k date))) (by omega) (by rw [zsum_succ _ hk.1, hnt]; omega) (by omega)
  refine zz_loc (ls' := [(0, .ref ph), (1, .int (iI date)), (2, .long (iL (-(plAt pd fP date)))), (4, .int (iI 0))]) [2, 3, 1, 0] rfl ?_
  exact Lp11 _ 0 (-(plAt pd fP date)) (by omega) (by rw [zsum_0]; omega) (Nat.lt_succ_self _)
abbrev po_X4_follow (z : zC) (rh : Nat) (ru : Nat) (rl : Nat) (rf : Int) (rn : Int) (rd : Int) (fU : Int → Int) (fL : Int → Int) (ph : Nat) (pa : Nat) (pr : Nat) (pt : Nat) (pd : Int) (pb : Int) (fP : Int → Int) (fR : Int → Int) (fT : Int → Int) (st9 : Int) : Option Value → va_W → Prop := fun v w => ∃ (qf : Int), ∃ (gU : Int → Int), ∃ (gL : Int → Int), (∀ j : Int, 0 ≤ j → j ≤ pd → gU j = plBal pd pb fP fR fT st9 j) ∧ (∀ j : Int, 0 ≤ j → j ≤ pd → gL j = p20 j) ∧ (fstNeg (plBal pd pb fP fR fT st9) pd qf) ∧ v = none ∧ w = (wRun z rh ru rl qf rn rd gU gL) ++ (wPlan z ph pa pr pt pd pb fP fR fT)
abbrev rm_X4_follow : Room := { frames := 5, cells := 0, slots := 0, locals := 132 }
set_option maxHeartbeats 4000000 in
set_option maxRecDepth 100000 in
theorem cc_X4_follow (l : Launch) (z : zC) (rh : Nat) (ru : Nat) (rl : Nat) (rf : Int) (rn : Int) (rd : Int) (fU : Int → Int) (fL : Int → Int) (ph : Nat) (pa : Nat) (pr : Nat) (pt : Nat) (pd : Int) (pb : Int) (fP : Int → Int) (fR : Int → Int) (fT : Int → Int) (st9 : Int) (hpd : 1 ≤ pd ∧ pd ≤ 4) (hpb : 0 ≤ pb ∧ pb ≤ 5) (hfP : ∀ i : Int, 0 ≤ fP i ∧ fP i ≤ 200) (hfR : ∀ i : Int, 0 ≤ fR i ∧ fR i ≤ 6) (hfT : ∀ i : Int, 0 ≤ fT i ∧ fT i ≤ 200) (hst : 0 ≤ st9 ∧ st9 ≤ 9999) : zzMet l yX4_follow cX4_follow 4 none rm_X4_follow z [.ref rh, .ref ph, .int (iI st9)] ((wRun z rh ru rl rf rn rd fU fL) ++ (wPlan z ph pa pr pt pd pb fP fR fT)) (po_X4_follow z rh ru rl rf rn rd fU fL ph pa pr pt pd pb fP fR fT st9) := by
  refine zzMet.of (own := RX4) (ls0 := [(0, .ref rh), (1, .ref ph), (2, .int (iI st9))]) (by decide) rfl (Nat.le_of_ble_eq_true rfl) rfl ?_
  intro p e s m below meth c A C hr hnm
  refine zz_aload_n C 0 dX4_follow_0 rfl rfl ?_
  refine zz_iconst C dX4_follow_1 ?_
  refine zz_put (ty := .int) (ws' := (wRun z rh ru rl 0 rn rd fU fL) ++ (wPlan z ph pa pr pt pd pb fP fR fT)) C 0 (ci := 4) (k := 0) rfl rfl in_X4 tyX4 tyX4_ok nmX4 (by decide) qw_265 rfl rfl (by decide +kernel) rfl rfl (Nat.le_of_ble_eq_true rfl) rfl dX4_follow_2 ?_
  refine zz_aload_n C 0 dX4_follow_5 rfl rfl ?_
  refine zz_get C 0 (ci := 4) (k := 3) rfl rfl in_X4 (by decide) qw_271 rfl rfl dX4_follow_6 ?_
  refine zz_iconst C dX4_follow_9 ?_
  refine zz_iload_n C 2 dX4_follow_10 rfl rfl ?_
  refine zz_i2l C dX4_follow_11 (by unfold rI; omega) ?_
  refine zz_last (ws' := (wRun z rh ru rl 0 rn rd (zup fU 0 st9) fL) ++ (wPlan z ph pa pr pt pd pb fP fR fT)) C 1 rfl (by omega) (by omega) (by decide) rfl dX4_follow_12 ?_
  refine zz_aload_n C 0 dX4_follow_13 rfl rfl ?_
  refine zz_get C 0 (ci := 4) (k := 4) rfl rfl in_X4 (by decide) qw_273 rfl rfl dX4_follow_14 ?_
  refine zz_iconst C dX4_follow_17 ?_
  refine zz_lconst (a := 1) C dX4_follow_18 (by decide +kernel) ?_
  refine zz_last (ws' := (wRun z rh ru rl 0 rn rd (zup fU 0 st9) (zup fL 0 1)) ++ (wPlan z ph pa pr pt pd pb fP fR fT)) C 2 rfl (by omega) (by omega) (by decide) rfl dX4_follow_19 ?_
  refine zz_iconst C dX4_follow_20 ?_
  refine zz_istore_n (ls' := [(3, .int (iI 1)), (0, .ref rh), (1, .ref ph), (2, .int (iI st9))]) C dX4_follow_21 rfl (by decide) rfl ?_
  have Lp22 : ∀ (fu9 : Nat) (k : Int) (qf : Int) (gU : Int → Int) (gL : Int → Int), (1 ≤ k ∧ k ≤ pd + 1) → (∀ j : Int, 0 ≤ j → j < k → gU j = plBal pd pb fP fR fT st9 j) → (∀ j : Int, 0 ≤ j → j < k → gL j = p20 j) → (fstNeg (plBal pd pb fP fR fT st9) (k - 1) qf) → (0 ≤ qf ∧ qf ≤ 4) → (pd + 1 - k).toNat < fu9 → zzW p l e rm_X4_follow s m ([.ref rh, .ref ph, .int (iI st9)] : List Value).toArray below meth c z A 4 (MQ below (zQ z A (po_X4_follow z rh ru rl rf rn rd fU fL ph pa pr pt pd pb fP fR fT st9)) ([.ref rh, .ref ph, .int (iI st9)] : List Value).toArray s 0 0 A) 0 0 ((wRun z rh ru rl qf rn rd gU gL) ++ (wPlan z ph pa pr pt pd pb fP fR fT)) [(0, .ref rh), (1, .ref ph), (2, .int (iI st9)), (3, .int (iI k))] [] 22 := by
    intro fu9
    induction fu9 with
    | zero => intro k qf gU gL hk hU hL hf hqf h9; exact absurd h9 (Nat.not_lt_zero _)
    | succ fu9 ih22 =>
      intro k qf gU gL hk hU hL hf hqf hm22
      refine zz_iload_n C 3 dX4_follow_22 rfl rfl ?_
      refine zz_aload_n C 1 dX4_follow_23 rfl rfl ?_
      refine zz_get C 3 (ci := 6) (k := 0) rfl rfl in_X6 (by decide) qw_294 rfl rfl dX4_follow_24 ?_
      refine zz_icmp_gt (tgt := 111) C dX4_follow_27 (by decide) (by unfold rI; omega) (by unfold rI; omega) (fun c27 => ?_) (fun c27 => ?_)
      · skip
        have hk5 : k = pd + 1 := by omega
        subst hk5
        rw [show pd + 1 - 1 = pd by omega] at hf
        exact zz_vret C hr dX4_follow_111 ⟨qf, gU, gL, fun j h1 h2 => hU j h1 (by omega), fun j h1 h2 => hL j h1 (by omega), hf, rfl, rfl⟩
      · skip
        have hg30 := plAt_rng (pd := pd) hfR k
        have hs9 := plBal_step (pd := pd) (pb := pb) (fP := fP) (fR := fR) (fT := fT) (start := st9) (gU := gU) (gL := gL) hk.1 (hU (k - 1) (by omega) (by omega)) (hL (k - 1) (by omega) (by omega))
        have hb9 := plBal_rng (pd := pd) hpb hfP hfR hfT hst (k := k) (by omega) (by omega)
        refine zz_aload_n C 0 dX4_follow_30 rfl rfl ?_
        refine zz_get C 0 (ci := 4) (k := 4) rfl rfl in_X4 (by decide) qw_273 rfl rfl dX4_follow_31 ?_
        refine zz_iload_n C 3 dX4_follow_34 rfl rfl ?_
        refine zz_aload_n C 0 dX4_follow_35 rfl rfl ?_
        refine zz_get C 0 (ci := 4) (k := 4) rfl rfl in_X4 (by decide) qw_273 rfl rfl dX4_follow_36 ?_
        refine zz_iload_n C 3 dX4_follow_39 rfl rfl ?_
        refine zz_iconst C dX4_follow_40 ?_
        refine zz_isub C dX4_follow_41 ?_
        refine zz_lald C 2 rfl (by omega) (by omega) (by decide) dX4_follow_42 ?_
        refine zz_ldc2 (a := 20) C qw_821 (by decide +kernel) dX4_follow_43 ?_
        refine zz_lmul C dX4_follow_46 ?_
        refine zz_last (ws' := (wRun z rh ru rl qf rn rd gU (zup gL k ((gL (k - 1)) * 20))) ++ (wPlan z ph pa pr pt pd pb fP fR fT)) C 2 rfl (by omega) (by omega) (by decide) rfl dX4_follow_47 ?_
        refine zz_aload_n C 0 dX4_follow_48 rfl rfl ?_
        refine zz_get C 0 (ci := 4) (k := 3) rfl rfl in_X4 (by decide) qw_271 rfl rfl dX4_follow_49 ?_
        refine zz_iload_n C 3 dX4_follow_52 rfl rfl ?_
        refine zz_aload_n C 0 dX4_follow_53 rfl rfl ?_
        refine zz_get C 0 (ci := 4) (k := 3) rfl rfl in_X4 (by decide) qw_271 rfl rfl dX4_follow_54 ?_
        refine zz_iload_n C 3 dX4_follow_57 rfl rfl ?_
        refine zz_iconst C dX4_follow_58 ?_
        refine zz_isub C dX4_follow_59 ?_
        refine zz_lald C 1 rfl (by omega) (by omega) (by decide) dX4_follow_60 ?_
        refine zz_aload_n C 1 dX4_follow_61 rfl rfl ?_
        refine zz_iload_n C 3 dX4_follow_62 rfl rfl ?_
        refine zz_callV (wr := wRun z rh ru rl qf rn rd gU (zup gL k ((gL (k - 1)) * 20))) (st := [.long (iL (gU (k - 1))), .int (iI k), .ref ru]) C (cc_X6_growth l z ph pa pr pt pd pb fP fR fT k (by omega) (by omega) (by omega)) yk_X6_growth qw_822 ⟨by decide, by decide⟩ [3, 4, 5, 6] [0, 1, 2] rfl rfl rfl rfl (by decide) 0 6 rfl rfl rfl rfl (Nat.le_of_ble_eq_true rfl) dX4_follow_63 ⟨by decide, by decide⟩ ?_
        rintro _ _ ⟨rfl, rfl⟩
        refine zz_st (st' := [.int (iI (20 + plAt pd fR k)), .long (iL (gU (k - 1))), .int (iI k), .ref ru]) rfl (zz_ws (ws' := (wRun z rh ru rl qf rn rd gU (zup gL k ((gL (k - 1)) * 20))) ++ (wPlan z ph pa pr pt pd pb fP fR fT)) rfl ?_)
        refine zz_i2l C dX4_follow_66 (by unfold rI; omega) ?_
        refine zz_lmul C dX4_follow_67 ?_
        refine zz_aload_n C 0 dX4_follow_68 rfl rfl ?_
        refine zz_get C 0 (ci := 4) (k := 4) rfl rfl in_X4 (by decide) qw_273 rfl rfl dX4_follow_69 ?_
        refine zz_iload_n C 3 dX4_follow_72 rfl rfl ?_
        refine zz_lald C 2 rfl (by omega) (by omega) (by decide) dX4_follow_73 ?_
        refine zz_aload_n C 1 dX4_follow_74 rfl rfl ?_
        refine zz_iload_n C 3 dX4_follow_75 rfl rfl ?_
        refine zz_callS (wr := wRun z rh ru rl qf rn rd gU (zup gL k ((gL (k - 1)) * 20))) (st := [.long (iL ((zup gL k ((gL (k - 1)) * 20)) k)), .long (iL ((gU (k - 1)) * (20 + plAt pd fR k))), .int (iI k), .ref ru]) C (cc_X4_netAt l z ph pa pr pt pd pb fP fR fT k (by omega) (by omega) (by omega) (by omega) (by omega)) yk_X4_netAt qw_823 ⟨by decide, by decide⟩ [3, 4, 5, 6] [0, 1, 2] rfl rfl rfl rfl (by decide) rfl rfl (Nat.le_of_ble_eq_true rfl) dX4_follow_76 ⟨by decide, by decide⟩ ?_
        rintro _ _ ⟨rfl, rfl⟩
        refine zz_st (st' := [.long (iL (plNet pd pb fP fT k)), .long (iL ((zup gL k ((gL (k - 1)) * 20)) k)), .long (iL ((gU (k - 1)) * (20 + plAt pd fR k))), .int (iI k), .ref ru]) rfl (zz_ws (ws' := (wRun z rh ru rl qf rn rd gU (zup gL k ((gL (k - 1)) * 20))) ++ (wPlan z ph pa pr pt pd pb fP fR fT)) rfl ?_)
        refine zz_lmul C dX4_follow_79 ?_
        refine zz_ladd C dX4_follow_80 ?_
        refine zz_last (ws' := (wRun z rh ru rl qf rn rd (zup gU k (((gU (k - 1)) * (20 + plAt pd fR k)) + (((zup gL k ((gL (k - 1)) * 20)) k) * (plNet pd pb fP fT k)))) (zup gL k ((gL (k - 1)) * 20))) ++ (wPlan z ph pa pr pt pd pb fP fR fT)) C 1 rfl (by omega) (by omega) (by decide) rfl dX4_follow_81 ?_
        refine zz_aload_n C 0 dX4_follow_82 rfl rfl ?_
        refine zz_get C 0 (ci := 4) (k := 3) rfl rfl in_X4 (by decide) qw_271 rfl rfl dX4_follow_83 ?_
        refine zz_iload_n C 3 dX4_follow_86 rfl rfl ?_
        refine zz_lald C 1 rfl (by omega) (by omega) (by decide) dX4_follow_87 ?_
        refine zz_lconst (a := 0) C dX4_follow_88 (by decide +kernel) ?_
        refine zz_lcmp_ge (tgt := 105) C dX4_follow_89 dX4_follow_90 (by decide) (by rw [zup_eq, hs9]; unfold rL; omega) (by unfold rL; omega) (fun c89 => ?_) (fun c89 => ?_)
        · skip
          rw [zup_eq, hs9] at c89
          have hf2 := fstNeg_ok (n := k + 1 - 1) hf (by omega) c89
          refine zz_iinc (ls' := [(3, .int (iI (k + 1))), (0, .ref rh), (1, .ref ph), (2, .int (iI st9))]) C 3 dX4_follow_105 rfl (by decide) rfl ?_
          refine zz_goto (tgt := 22) C dX4_follow_108 (by decide) ?_
          refine zz_loc (ls' := [(0, .ref rh), (1, .ref ph), (2, .int (iI st9)), (3, .int (iI (k + 1)))]) [1, 2, 3, 0] rfl ?_
          exact ih22 (k + 1) qf (zup gU k (((gU (k - 1)) * (20 + plAt pd fR k)) + (((zup gL k ((gL (k - 1)) * 20)) k) * (plNet pd pb fP fT k)))) (zup gL k ((gL (k - 1)) * 20)) (by omega) (zup_all hU hs9) (zup_all hL (by rw [hL (k - 1) (by omega) (by omega)]; exact p20_pred hk.1)) hf2 (by omega) (by omega)
        · skip
          rw [zup_eq, hs9] at c89
          refine zz_aload_n C 0 dX4_follow_93 rfl rfl ?_
          refine zz_get C 0 (ci := 4) (k := 0) rfl rfl in_X4 (by decide) qw_265 rfl rfl dX4_follow_94 ?_
          refine zz_if_ne (tgt := 105) C dX4_follow_97 (by decide) (by unfold rI; omega) (fun c97 => ?_) (fun c97 => ?_)
          · skip
            have hf2 := fstNeg_keep (n := k + 1 - 1) hf (by omega) c97
            refine zz_iinc (ls' := [(3, .int (iI (k + 1))), (0, .ref rh), (1, .ref ph), (2, .int (iI st9))]) C 3 dX4_follow_105 rfl (by decide) rfl ?_
            refine zz_goto (tgt := 22) C dX4_follow_108 (by decide) ?_
            refine zz_loc (ls' := [(0, .ref rh), (1, .ref ph), (2, .int (iI st9)), (3, .int (iI (k + 1)))]) [1, 2, 3, 0] rfl ?_
            exact ih22 (k + 1) qf (zup gU k (((gU (k - 1)) * (20 + plAt pd fR k)) + (((zup gL k ((gL (k - 1)) * 20)) k) * (plNet pd pb fP fT k)))) (zup gL k ((gL (k - 1)) * 20)) (by omega) (zup_all hU hs9) (zup_all hL (by rw [hL (k - 1) (by omega) (by omega)]; exact p20_pred hk.1)) hf2 (by omega) (by omega)
          · skip
            have hf2 := fstNeg_new (n := k + 1 - 1) hf (by omega) hk.1 c97 c89
            refine zz_aload_n C 0 dX4_follow_100 rfl rfl ?_
            refine zz_iload_n C 3 dX4_follow_101 rfl rfl ?_
            refine zz_put (ty := .int) (ws' := (wRun z rh ru rl k rn rd (zup gU k (((gU (k - 1)) * (20 + plAt pd fR k)) + (((zup gL k ((gL (k - 1)) * 20)) k) * (plNet pd pb fP fT k)))) (zup gL k ((gL (k - 1)) * 20))) ++ (wPlan z ph pa pr pt pd pb fP fR fT)) C 0 (ci := 4) (k := 0) rfl rfl in_X4 tyX4 tyX4_ok nmX4 (by decide) qw_265 rfl rfl (by decide +kernel) rfl rfl (Nat.le_of_ble_eq_true rfl) rfl dX4_follow_102 ?_
            refine zz_iinc (ls' := [(3, .int (iI (k + 1))), (0, .ref rh), (1, .ref ph), (2, .int (iI st9))]) C 3 dX4_follow_105 rfl (by decide) rfl ?_
            refine zz_goto (tgt := 22) C dX4_follow_108 (by decide) ?_
            refine zz_loc (ls' := [(0, .ref rh), (1, .ref ph), (2, .int (iI st9)), (3, .int (iI (k + 1)))]) [1, 2, 3, 0] rfl ?_
            exact ih22 (k + 1) k (zup gU k (((gU (k - 1)) * (20 + plAt pd fR k)) + (((zup gL k ((gL (k - 1)) * 20)) k) * (plNet pd pb fP fT k)))) (zup gL k ((gL (k - 1)) * 20)) (by omega) (zup_all hU hs9) (zup_all hL (by rw [hL (k - 1) (by omega) (by omega)]; exact p20_pred hk.1)) hf2 (by omega) (by omega)
  refine zz_loc (ls' := [(0, .ref rh), (1, .ref ph), (2, .int (iI st9)), (3, .int (iI 1))]) [1, 2, 3, 0] rfl ?_
  exact Lp22 _ 1 0 (zup fU 0 st9) (zup fL 0 1) (by omega) (fun j h1 h2 => by rw [show j = 0 by omega, zup_eq]; rfl) (fun j h1 h2 => by rw [show j = 0 by omega, zup_eq]; rfl) (fstNeg_0 _) (by omega) (Nat.lt_succ_self _)
abbrev po_X4_findLack (z : zC) (rh : Nat) (ru : Nat) (rl : Nat) (rf : Int) (rn : Int) (rd : Int) (fU : Int → Int) (fL : Int → Int) (ph : Nat) (pa : Nat) (pr : Nat) (pt : Nat) (pd : Int) (pb : Int) (fP : Int → Int) (fR : Int → Int) (fT : Int → Int) (st9 : Int) (bh : Int) : Option Value → va_W → Prop := fun v w => ∃ (qn : Int), ∃ (qd : Int), (isLack (plBal pd pb fP fR fT st9) (plCar pd fR bh) bh pd qn qd) ∧ (1 ≤ qd ∧ qd ≤ 456976) ∧ (0 ≤ qn ∧ qn ≤ 1300000000000) ∧ v = none ∧ w = (wRun z rh ru rl rf qn qd fU fL) ++ (wPlan z ph pa pr pt pd pb fP fR fT)
abbrev rm_X4_findLack : Room := { frames := 4, cells := 0, slots := 0, locals := 103 }
set_option maxHeartbeats 4000000 in
set_option maxRecDepth 100000 in
theorem cc_X4_findLack (l : Launch) (z : zC) (rh : Nat) (ru : Nat) (rl : Nat) (rf : Int) (rn : Int) (rd : Int) (fU : Int → Int) (fL : Int → Int) (ph : Nat) (pa : Nat) (pr : Nat) (pt : Nat) (pd : Int) (pb : Int) (fP : Int → Int) (fR : Int → Int) (fT : Int → Int) (st9 : Int) (bh : Int) (hpd : 1 ≤ pd ∧ pd ≤ 4) (hpb : 0 ≤ pb ∧ pb ≤ 5) (hfP : ∀ i : Int, 0 ≤ fP i ∧ fP i ≤ 200) (hfR : ∀ i : Int, 0 ≤ fR i ∧ fR i ≤ 6) (hfT : ∀ i : Int, 0 ≤ fT i ∧ fT i ≤ 200) (hst : 0 ≤ st9 ∧ st9 ≤ 9999) (hbh : 0 ≤ bh ∧ bh ≤ pd) (hU : ∀ j : Int, 0 ≤ j → j ≤ pd → fU j = plBal pd pb fP fR fT st9 j) (hL : ∀ j : Int, 0 ≤ j → j ≤ pd → fL j = p20 j) : zzMet l yX4_findLack cX4_findLack 6 none rm_X4_findLack z [.ref rh, .ref ph, .int (iI bh)] ((wRun z rh ru rl rf rn rd fU fL) ++ (wPlan z ph pa pr pt pd pb fP fR fT)) (po_X4_findLack z rh ru rl rf rn rd fU fL ph pa pr pt pd pb fP fR fT st9 bh) := by
  refine zzMet.of (own := RX4) (ls0 := [(0, .ref rh), (1, .ref ph), (2, .int (iI bh))]) (by decide) rfl (Nat.le_of_ble_eq_true rfl) rfl ?_
  intro p e s m below meth c A C hr hnm
  have hcp : ∀ j : Int, bh ≤ j → j ≤ 4 → 0 < plCar pd fR bh j := fun j h1 h2 => by have := plCar_rng (pd := pd) hfR (a := bh) (j := j) (by omega) h1 h2; omega
  refine zz_aload_n C 0 dX4_findLack_0 rfl rfl ?_
  refine zz_lconst (a := 0) C dX4_findLack_1 (by decide +kernel) ?_
  refine zz_put (ty := .long) (ws' := (wRun z rh ru rl rf 0 rd fU fL) ++ (wPlan z ph pa pr pt pd pb fP fR fT)) C 0 (ci := 4) (k := 1) rfl rfl in_X4 tyX4 tyX4_ok nmX4 (by decide) qw_267 rfl rfl (by decide +kernel) rfl rfl (Nat.le_of_ble_eq_true rfl) rfl dX4_findLack_2 ?_
  refine zz_aload_n C 0 dX4_findLack_5 rfl rfl ?_
  refine zz_lconst (a := 1) C dX4_findLack_6 (by decide +kernel) ?_
  refine zz_put (ty := .long) (ws' := (wRun z rh ru rl rf 0 1 fU fL) ++ (wPlan z ph pa pr pt pd pb fP fR fT)) C 0 (ci := 4) (k := 2) rfl rfl in_X4 tyX4 tyX4_ok nmX4 (by decide) qw_269 rfl rfl (by decide +kernel) rfl rfl (Nat.le_of_ble_eq_true rfl) rfl dX4_findLack_7 ?_
  refine zz_aload_n C 0 dX4_findLack_10 rfl rfl ?_
  refine zz_get C 0 (ci := 4) (k := 4) rfl rfl in_X4 (by decide) qw_273 rfl rfl dX4_findLack_11 ?_
  refine zz_iload_n C 2 dX4_findLack_14 rfl rfl ?_
  refine zz_lald C 2 rfl (by omega) (by omega) (by decide) dX4_findLack_15 ?_
  refine zz_lstore_n (ls' := [(3, .long (iL (fL bh))), (0, .ref rh), (1, .ref ph), (2, .int (iI bh))]) C dX4_findLack_16 rfl (by decide) rfl ?_
  refine zz_iload_n C 3 dX4_findLack_17 rfl rfl ?_
  refine zz_istore (ls' := [(5, .int (iI bh)), (3, .long (iL (fL bh))), (0, .ref rh), (1, .ref ph), (2, .int (iI bh))]) C dX4_findLack_18 (by decide) rfl ?_
  have Lp20 : ∀ (fu9 : Nat) (k : Int) (cv : Int) (qn : Int) (qd : Int), (bh ≤ k ∧ k ≤ pd + 1) → ((k = bh ∧ cv = plCar pd fR bh bh) ∨ (bh < k ∧ cv = plCar pd fR bh (k - 1))) → (isLack (plBal pd pb fP fR fT st9) (plCar pd fR bh) bh (k - 1) qn qd) → (1 ≤ qd ∧ qd ≤ 456976) → (0 ≤ qn ∧ qn ≤ 1300000000000) → (pd + 1 - k).toNat < fu9 → zzW p l e rm_X4_findLack s m ([.ref rh, .ref ph, .int (iI bh)] : List Value).toArray below meth c z A 6 (MQ below (zQ z A (po_X4_findLack z rh ru rl rf rn rd fU fL ph pa pr pt pd pb fP fR fT st9 bh)) ([.ref rh, .ref ph, .int (iI bh)] : List Value).toArray s 0 0 A) 0 0 ((wRun z rh ru rl rf qn qd fU fL) ++ (wPlan z ph pa pr pt pd pb fP fR fT)) [(0, .ref rh), (1, .ref ph), (2, .int (iI bh)), (3, .long (iL cv)), (5, .int (iI k))] [] 20 := by
    intro fu9
    induction fu9 with
    | zero => intro k cv qn qd hk hcv hlk hqd hqn h9; exact absurd h9 (Nat.not_lt_zero _)
    | succ fu9 ih20 =>
      intro k cv qn qd hk hcv hlk hqd hqn hm20
      refine zz_iload C 4 dX4_findLack_20 rfl ?_
      refine zz_aload_n C 1 dX4_findLack_22 rfl rfl ?_
      refine zz_get C 3 (ci := 6) (k := 0) rfl rfl in_X6 (by decide) qw_294 rfl rfl dX4_findLack_23 ?_
      refine zz_icmp_gt (tgt := 91) C dX4_findLack_26 (by decide) (by unfold rI; omega) (by unfold rI; omega) (fun c26 => ?_) (fun c26 => ?_)
      · skip
        have hk5 : k = pd + 1 := by omega
        subst hk5
        rw [show pd + 1 - 1 = pd by omega] at hlk
        exact zz_vret C hr dX4_findLack_91 ⟨qn, qd, hlk, hqd, hqn, rfl, rfl⟩
      · skip
        refine zz_iload C 4 dX4_findLack_29 rfl ?_
        refine zz_iload_n C 2 dX4_findLack_31 rfl rfl ?_
        refine zz_icmp_le (tgt := 45) C dX4_findLack_32 (by decide) (by unfold rI; omega) (by unfold rI; omega) (fun c32 => ?_) (fun c32 => ?_)
        · skip
          have hcj : cv = plCar pd fR bh k := hcv.elim (fun h => by rw [h.2, h.1]) (fun h => by omega)
          have Jn45 : ∀ (c2 : Int), (c2 = plCar pd fR bh k) → zzW p l e rm_X4_findLack s m ([.ref rh, .ref ph, .int (iI bh)] : List Value).toArray below meth c z A 6 (MQ below (zQ z A (po_X4_findLack z rh ru rl rf rn rd fU fL ph pa pr pt pd pb fP fR fT st9 bh)) ([.ref rh, .ref ph, .int (iI bh)] : List Value).toArray s 0 0 A) 0 0 ((wRun z rh ru rl rf qn qd fU fL) ++ (wPlan z ph pa pr pt pd pb fP fR fT)) [(0, .ref rh), (1, .ref ph), (2, .int (iI bh)), (3, .long (iL c2)), (5, .int (iI k))] [] 45 := by
            intro c2 hc2
            have hb9 := plBal_rng (pd := pd) hpb hfP hfR hfT hst (k := k) (by omega) (by omega)
            have hu9 := hU k (by omega) (by omega)
            have hr9 := plCar_rng (pd := pd) hfR (a := bh) (j := k) (by omega) (by omega) (by omega)
            refine zz_aload_n C 0 dX4_findLack_45 rfl rfl ?_
            refine zz_get C 0 (ci := 4) (k := 3) rfl rfl in_X4 (by decide) qw_271 rfl rfl dX4_findLack_46 ?_
            refine zz_iload C 4 dX4_findLack_49 rfl ?_
            refine zz_lald C 1 rfl (by omega) (by omega) (by decide) dX4_findLack_51 ?_
            refine zz_lneg C dX4_findLack_52 ?_
            refine zz_aload_n C 0 dX4_findLack_53 rfl rfl ?_
            refine zz_get C 0 (ci := 4) (k := 2) rfl rfl in_X4 (by decide) qw_269 rfl rfl dX4_findLack_54 ?_
            refine zz_lmul C dX4_findLack_57 ?_
            refine zz_aload_n C 0 dX4_findLack_58 rfl rfl ?_
            refine zz_get C 0 (ci := 4) (k := 1) rfl rfl in_X4 (by decide) qw_267 rfl rfl dX4_findLack_59 ?_
            refine zz_lload_n C 3 dX4_findLack_62 rfl rfl ?_
            refine zz_lmul C dX4_findLack_63 ?_
            refine zz_lcmp_le (tgt := 85) C dX4_findLack_64 dX4_findLack_65 (by decide) (by rw [hu9]; exact lack_rL (by omega) (by omega)) (by rw [hc2]; exact lack_rL (by omega) (by omega)) (fun c64 => ?_) (fun c64 => ?_)
            · skip
              rw [hu9, hc2] at c64
              have hl2 := isLack_keep (n := k + 1 - 1) hlk (by omega) c64
              refine zz_iinc (ls' := [(5, .int (iI (k + 1))), (0, .ref rh), (1, .ref ph), (2, .int (iI bh)), (3, .long (iL c2))]) C 4 dX4_findLack_85 rfl (by decide) rfl ?_
              refine zz_goto (tgt := 20) C dX4_findLack_88 (by decide) ?_
              refine zz_loc (ls' := [(0, .ref rh), (1, .ref ph), (2, .int (iI bh)), (3, .long (iL c2)), (5, .int (iI (k + 1)))]) [1, 2, 3, 4, 0] rfl ?_
              exact ih20 (k + 1) c2 qn qd (by omega) (Or.inr ⟨by omega, by rw [show k + 1 - 1 = k by omega]; exact hc2⟩) hl2 (by omega) (by omega) (by omega)
            · skip
              rw [hu9, hc2] at c64
              have hl2 := isLack_new (n := k + 1 - 1) hlk (by omega) hk.1 (fun j h1 h2 => hcp j h1 (by omega)) c64
              rw [← hu9, ← hc2] at hl2
              have hl3 := hl2.1
              refine zz_aload_n C 0 dX4_findLack_68 rfl rfl ?_
              refine zz_aload_n C 0 dX4_findLack_69 rfl rfl ?_
              refine zz_get C 0 (ci := 4) (k := 3) rfl rfl in_X4 (by decide) qw_271 rfl rfl dX4_findLack_70 ?_
              refine zz_iload C 4 dX4_findLack_73 rfl ?_
              refine zz_lald C 1 rfl (by omega) (by omega) (by decide) dX4_findLack_75 ?_
              refine zz_lneg C dX4_findLack_76 ?_
              refine zz_put (ty := .long) (ws' := (wRun z rh ru rl rf (-(fU k)) qd fU fL) ++ (wPlan z ph pa pr pt pd pb fP fR fT)) C 0 (ci := 4) (k := 1) rfl rfl in_X4 tyX4 tyX4_ok nmX4 (by decide) qw_267 rfl rfl (by decide +kernel) rfl rfl (Nat.le_of_ble_eq_true rfl) rfl dX4_findLack_77 ?_
              refine zz_aload_n C 0 dX4_findLack_80 rfl rfl ?_
              refine zz_lload_n C 3 dX4_findLack_81 rfl rfl ?_
              refine zz_put (ty := .long) (ws' := (wRun z rh ru rl rf (-(fU k)) c2 fU fL) ++ (wPlan z ph pa pr pt pd pb fP fR fT)) C 0 (ci := 4) (k := 2) rfl rfl in_X4 tyX4 tyX4_ok nmX4 (by decide) qw_269 rfl rfl (by decide +kernel) rfl rfl (Nat.le_of_ble_eq_true rfl) rfl dX4_findLack_82 ?_
              refine zz_iinc (ls' := [(5, .int (iI (k + 1))), (0, .ref rh), (1, .ref ph), (2, .int (iI bh)), (3, .long (iL c2))]) C 4 dX4_findLack_85 rfl (by decide) rfl ?_
              refine zz_goto (tgt := 20) C dX4_findLack_88 (by decide) ?_
              refine zz_loc (ls' := [(0, .ref rh), (1, .ref ph), (2, .int (iI bh)), (3, .long (iL c2)), (5, .int (iI (k + 1)))]) [1, 2, 3, 4, 0] rfl ?_
              exact ih20 (k + 1) c2 (-(fU k)) c2 (by omega) (Or.inr ⟨by omega, by rw [show k + 1 - 1 = k by omega]; exact hc2⟩) hl2 (by omega) (by omega) (by omega)
          exact Jn45 cv hcj
        · skip
          have hcj : cv * (20 + plAt pd fR k) = plCar pd fR bh k := hcv.elim (fun h => by omega) (fun h => by rw [h.2, plCar_succ h.1])
          have hg35 := plAt_rng (pd := pd) hfR k
          refine zz_lload_n C 3 dX4_findLack_35 rfl rfl ?_
          refine zz_aload_n C 1 dX4_findLack_36 rfl rfl ?_
          refine zz_iload C 4 dX4_findLack_37 rfl ?_
          refine zz_callV (wr := wRun z rh ru rl rf qn qd fU fL) (st := [.long (iL cv)]) C (cc_X6_growth l z ph pa pr pt pd pb fP fR fT k (by omega) (by omega) (by omega)) yk_X6_growth qw_822 ⟨by decide, by decide⟩ [3, 4, 5, 6] [0, 1, 2] rfl rfl rfl rfl (by decide) 0 6 rfl rfl rfl rfl (Nat.le_of_ble_eq_true rfl) dX4_findLack_39 ⟨by decide, by decide⟩ ?_
          rintro _ _ ⟨rfl, rfl⟩
          refine zz_st (st' := [.int (iI (20 + plAt pd fR k)), .long (iL cv)]) rfl (zz_ws (ws' := (wRun z rh ru rl rf qn qd fU fL) ++ (wPlan z ph pa pr pt pd pb fP fR fT)) rfl ?_)
          refine zz_i2l C dX4_findLack_42 (by unfold rI; omega) ?_
          refine zz_lmul C dX4_findLack_43 ?_
          refine zz_lstore_n (ls' := [(3, .long (iL (cv * (20 + plAt pd fR k)))), (0, .ref rh), (1, .ref ph), (2, .int (iI bh)), (5, .int (iI k))]) C dX4_findLack_44 rfl (by decide) rfl ?_
          have Jn45 : ∀ (c2 : Int), (c2 = plCar pd fR bh k) → zzW p l e rm_X4_findLack s m ([.ref rh, .ref ph, .int (iI bh)] : List Value).toArray below meth c z A 6 (MQ below (zQ z A (po_X4_findLack z rh ru rl rf rn rd fU fL ph pa pr pt pd pb fP fR fT st9 bh)) ([.ref rh, .ref ph, .int (iI bh)] : List Value).toArray s 0 0 A) 0 0 ((wRun z rh ru rl rf qn qd fU fL) ++ (wPlan z ph pa pr pt pd pb fP fR fT)) [(0, .ref rh), (1, .ref ph), (2, .int (iI bh)), (3, .long (iL c2)), (5, .int (iI k))] [] 45 := by
            intro c2 hc2
            have hb9 := plBal_rng (pd := pd) hpb hfP hfR hfT hst (k := k) (by omega) (by omega)
            have hu9 := hU k (by omega) (by omega)
            have hr9 := plCar_rng (pd := pd) hfR (a := bh) (j := k) (by omega) (by omega) (by omega)
            refine zz_aload_n C 0 dX4_findLack_45 rfl rfl ?_
            refine zz_get C 0 (ci := 4) (k := 3) rfl rfl in_X4 (by decide) qw_271 rfl rfl dX4_findLack_46 ?_
            refine zz_iload C 4 dX4_findLack_49 rfl ?_
            refine zz_lald C 1 rfl (by omega) (by omega) (by decide) dX4_findLack_51 ?_
            refine zz_lneg C dX4_findLack_52 ?_
            refine zz_aload_n C 0 dX4_findLack_53 rfl rfl ?_
            refine zz_get C 0 (ci := 4) (k := 2) rfl rfl in_X4 (by decide) qw_269 rfl rfl dX4_findLack_54 ?_
            refine zz_lmul C dX4_findLack_57 ?_
            refine zz_aload_n C 0 dX4_findLack_58 rfl rfl ?_
            refine zz_get C 0 (ci := 4) (k := 1) rfl rfl in_X4 (by decide) qw_267 rfl rfl dX4_findLack_59 ?_
            refine zz_lload_n C 3 dX4_findLack_62 rfl rfl ?_
            refine zz_lmul C dX4_findLack_63 ?_
            refine zz_lcmp_le (tgt := 85) C dX4_findLack_64 dX4_findLack_65 (by decide) (by rw [hu9]; exact lack_rL (by omega) (by omega)) (by rw [hc2]; exact lack_rL (by omega) (by omega)) (fun c64 => ?_) (fun c64 => ?_)
            · skip
              rw [hu9, hc2] at c64
              have hl2 := isLack_keep (n := k + 1 - 1) hlk (by omega) c64
              refine zz_iinc (ls' := [(5, .int (iI (k + 1))), (0, .ref rh), (1, .ref ph), (2, .int (iI bh)), (3, .long (iL c2))]) C 4 dX4_findLack_85 rfl (by decide) rfl ?_
              refine zz_goto (tgt := 20) C dX4_findLack_88 (by decide) ?_
              refine zz_loc (ls' := [(0, .ref rh), (1, .ref ph), (2, .int (iI bh)), (3, .long (iL c2)), (5, .int (iI (k + 1)))]) [1, 2, 3, 4, 0] rfl ?_
              exact ih20 (k + 1) c2 qn qd (by omega) (Or.inr ⟨by omega, by rw [show k + 1 - 1 = k by omega]; exact hc2⟩) hl2 (by omega) (by omega) (by omega)
            · skip
              rw [hu9, hc2] at c64
              have hl2 := isLack_new (n := k + 1 - 1) hlk (by omega) hk.1 (fun j h1 h2 => hcp j h1 (by omega)) c64
              rw [← hu9, ← hc2] at hl2
              have hl3 := hl2.1
              refine zz_aload_n C 0 dX4_findLack_68 rfl rfl ?_
              refine zz_aload_n C 0 dX4_findLack_69 rfl rfl ?_
              refine zz_get C 0 (ci := 4) (k := 3) rfl rfl in_X4 (by decide) qw_271 rfl rfl dX4_findLack_70 ?_
              refine zz_iload C 4 dX4_findLack_73 rfl ?_
              refine zz_lald C 1 rfl (by omega) (by omega) (by decide) dX4_findLack_75 ?_
              refine zz_lneg C dX4_findLack_76 ?_
              refine zz_put (ty := .long) (ws' := (wRun z rh ru rl rf (-(fU k)) qd fU fL) ++ (wPlan z ph pa pr pt pd pb fP fR fT)) C 0 (ci := 4) (k := 1) rfl rfl in_X4 tyX4 tyX4_ok nmX4 (by decide) qw_267 rfl rfl (by decide +kernel) rfl rfl (Nat.le_of_ble_eq_true rfl) rfl dX4_findLack_77 ?_
              refine zz_aload_n C 0 dX4_findLack_80 rfl rfl ?_
              refine zz_lload_n C 3 dX4_findLack_81 rfl rfl ?_
              refine zz_put (ty := .long) (ws' := (wRun z rh ru rl rf (-(fU k)) c2 fU fL) ++ (wPlan z ph pa pr pt pd pb fP fR fT)) C 0 (ci := 4) (k := 2) rfl rfl in_X4 tyX4 tyX4_ok nmX4 (by decide) qw_269 rfl rfl (by decide +kernel) rfl rfl (Nat.le_of_ble_eq_true rfl) rfl dX4_findLack_82 ?_
              refine zz_iinc (ls' := [(5, .int (iI (k + 1))), (0, .ref rh), (1, .ref ph), (2, .int (iI bh)), (3, .long (iL c2))]) C 4 dX4_findLack_85 rfl (by decide) rfl ?_
              refine zz_goto (tgt := 20) C dX4_findLack_88 (by decide) ?_
              refine zz_loc (ls' := [(0, .ref rh), (1, .ref ph), (2, .int (iI bh)), (3, .long (iL c2)), (5, .int (iI (k + 1)))]) [1, 2, 3, 4, 0] rfl ?_
              exact ih20 (k + 1) c2 (-(fU k)) c2 (by omega) (Or.inr ⟨by omega, by rw [show k + 1 - 1 = k by omega]; exact hc2⟩) hl2 (by omega) (by omega) (by omega)
          refine zz_loc (ls' := [(0, .ref rh), (1, .ref ph), (2, .int (iI bh)), (3, .long (iL (cv * (20 + plAt pd fR k)))), (5, .int (iI k))]) [1, 2, 3, 0, 4] rfl ?_
          exact Jn45 (cv * (20 + plAt pd fR k)) hcj
  refine zz_loc (ls' := [(0, .ref rh), (1, .ref ph), (2, .int (iI bh)), (3, .long (iL (fL bh))), (5, .int (iI bh))]) [2, 3, 4, 1, 0] rfl ?_
  exact Lp20 _ bh (fL bh) 0 1 (by omega) (Or.inl ⟨rfl, by rw [hL bh hbh.1 hbh.2, plCar_self]⟩) (isLack_0 _ _ (by omega)) (by omega) (by omega) (Nat.lt_succ_self _)
