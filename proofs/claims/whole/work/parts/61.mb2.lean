theorem lc_put {T k j pu : Int} {kW kH kA : Int → Int} (h : k = pu) (hj : j < T) : kA j = repM (pcol T (wE kW) kH) pu (aO T kA) k j := by unfold repM; rw [if_pos h]; unfold aO; rw [if_pos hj]
theorem lc_put0 {T k j pu : Int} {kW kH kA : Int → Int} (h : k = pu) (hj : ¬ j < T) : 0 = repM (pcol T (wE kW) kH) pu (aO T kA) k j := by unfold repM; rw [if_pos h]; unfold aO; rw [if_neg hj]
theorem lc_in {T k j pu : Int} {kW kH kA : Int → Int} (hz : ∀ i r : Int, 0 ≤ i → i < T → T ≤ r → r < 4 → kW (4 * kH i + r) = 0) (h : ¬ k = pu) (hk : 0 ≤ k) (hk1 : k < T) (hj : 0 ≤ j ∧ j < 4) : kW (4 * kH k + j) = repM (pcol T (wE kW) kH) pu (aO T kA) k j := by
  unfold repM
  rw [if_neg h]
  unfold pcol
  rw [if_pos hk1]
  by_cases q : j < T
  · rw [if_pos q]; unfold wE; rw [show 4 * kH k + (j + 1) - 1 = 4 * kH k + j by omega]
  · rw [if_neg q]; exact hz k j hk hk1 (by omega) hj.2
theorem lc_one {T k j pu : Int} {kW kH kA : Int → Int} (h : ¬ k = pu) (hk1 : ¬ k < T) (hj : j = k) : 1 = repM (pcol T (wE kW) kH) pu (aO T kA) k j := by unfold repM; rw [if_neg h]; unfold pcol; rw [if_neg hk1, if_pos hj]
theorem lc_zero {T k j pu : Int} {kW kH kA : Int → Int} (h : ¬ k = pu) (hk1 : ¬ k < T) (hj : ¬ j = k) : 0 = repM (pcol T (wE kW) kH) pu (aO T kA) k j := by unfold repM; rw [if_neg h]; unfold pcol; rw [if_neg hk1, if_neg hj]
theorem lc_step {k j v : Int} {g : Int → Int} {M : Int → Int → Int} (h : ∀ c r : Int, 0 ≤ c → 0 ≤ r → r < 4 → (c < k ∨ (c = k ∧ r < j)) → g (4 * r + c) = M c r) (j0 : 0 ≤ j) (hk : 0 ≤ k ∧ k < 4 ∧ j < 4) (hv : v = M k j) : ∀ c r : Int, 0 ≤ c → 0 ≤ r → r < 4 → (c < k ∨ (c = k ∧ r < j + 1)) → zup g (4 * j + k) v (4 * r + c) = M c r := by
  intro c r c0 r0 r1 q
  by_cases e : c = k ∧ r = j
  · obtain ⟨rfl, rfl⟩ := e
    rw [zup_eq]; exact hv
  · rw [zup_ne (by omega)]
    exact h c r c0 r0 r1 (by omega)
theorem solv_step {T k v s : Int} {U x : Int → Int} {M : Int → Int → Int} (h : ∀ i : Int, 0 ≤ i → i < k → U i = s * det4 (repM M i x)) (hv : v = s * det4 (repM M k x)) (_ : 0 ≤ T) : ∀ i : Int, 0 ≤ i → i < k + 1 → zup U k v i = s * det4 (repM M i x) := zup_all (f := fun i => s * det4 (repM M i x)) h hv

abbrev po_X10_two (z : zC) (mh : Nat) (xT : Nat) (xD : Nat) (xP : Nat) (xR : Nat) (xC : Nat) (xW : Nat) (xA : Nat) (xH : Nat) (xU : Nat) (xB : Nat) (xI : Nat) (xN : Nat) (xM : Nat) (xY : Nat) (xK : Nat) (xL : Nat) (xE : Nat) (xS : Nat) (m_ra : Int) (m_ca : Int) (m_tp : Int) (m_fa : Int) (m_at : Int) (m_wr : Int) (m_va : Int) (m_pl : Int) (m_st : Int) (m_lo : Int) (m_bl : Int) (m_bc : Int) (m_fo : Int) (m_yl : Int) (m_yw : Int) (m_nu : Int) (m_nl : Int) (m_lu : Int) (m_ll : Int) (m_ln : Int) (kT : Int → Int) (kD : Int → Int) (kP : Int → Int) (kR : Int → Int) (kC : Int → Int) (kW : Int → Int) (kA : Int → Int) (kH : Int → Int) (kU : Int → Int) (kB : Int → Int) (kI : Int → Int) (kN : Int → Int) (kM : Int → Int) (kY : Int → Int) (kK : Int → Int) (kL : Int → Int) (kE : Int → Int) (kS : Int → Int) (r9 : Int) (a9 : Int) (b9 : Int) : Option Value → va_W → Prop := fun v w => v = some (Value.long (iL (two (cC kC a9) (cC kC b9) r9))) ∧ w = wMod z mh xT xD xP xR xC xW xA xH xU xB xI xN xM xY xK xL xE xS m_ra m_ca m_tp m_fa m_at m_wr m_va m_pl m_st m_lo m_bl m_bc m_fo m_yl m_yw m_nu m_nl m_lu m_ll m_ln kT kD kP kR kC kW kA kH kU kB kI kN kM kY kK kL kE kS
abbrev rm_X10_two : Room := { frames := 1, cells := 0, slots := 0, locals := 40 }
set_option maxHeartbeats 4000000 in
set_option maxRecDepth 100000 in
theorem cc_X10_two (l : Launch) (z : zC) (mh : Nat) (xT : Nat) (xD : Nat) (xP : Nat) (xR : Nat) (xC : Nat) (xW : Nat) (xA : Nat) (xH : Nat) (xU : Nat) (xB : Nat) (xI : Nat) (xN : Nat) (xM : Nat) (xY : Nat) (xK : Nat) (xL : Nat) (xE : Nat) (xS : Nat) (m_ra : Int) (m_ca : Int) (m_tp : Int) (m_fa : Int) (m_at : Int) (m_wr : Int) (m_va : Int) (m_pl : Int) (m_st : Int) (m_lo : Int) (m_bl : Int) (m_bc : Int) (m_fo : Int) (m_yl : Int) (m_yw : Int) (m_nu : Int) (m_nl : Int) (m_lu : Int) (m_ll : Int) (m_ln : Int) (kT : Int → Int) (kD : Int → Int) (kP : Int → Int) (kR : Int → Int) (kC : Int → Int) (kW : Int → Int) (kA : Int → Int) (kH : Int → Int) (kU : Int → Int) (kB : Int → Int) (kI : Int → Int) (kN : Int → Int) (kM : Int → Int) (kY : Int → Int) (kK : Int → Int) (kL : Int → Int) (kE : Int → Int) (kS : Int → Int) (r9 : Int) (a9 : Int) (b9 : Int) (hr9 : 0 ≤ r9 ∧ r9 ≤ 2) (ha9 : 0 ≤ a9 ∧ a9 ≤ 3) (hb9 : 0 ≤ b9 ∧ b9 ≤ 3) : zzMet l yX10_two cX10_two 4 (Option.some .long) rm_X10_two z [.ref mh, .int (iI r9), .int (iI a9), .int (iI b9)] (wMod z mh xT xD xP xR xC xW xA xH xU xB xI xN xM xY xK xL xE xS m_ra m_ca m_tp m_fa m_at m_wr m_va m_pl m_st m_lo m_bl m_bc m_fo m_yl m_yw m_nu m_nl m_lu m_ll m_ln kT kD kP kR kC kW kA kH kU kB kI kN kM kY kK kL kE kS) (po_X10_two z mh xT xD xP xR xC xW xA xH xU xB xI xN xM xY xK xL xE xS m_ra m_ca m_tp m_fa m_at m_wr m_va m_pl m_st m_lo m_bl m_bc m_fo m_yl m_yw m_nu m_nl m_lu m_ll m_ln kT kD kP kR kC kW kA kH kU kB kI kN kM kY kK kL kE kS r9 a9 b9) := by
  refine zzMet.of (own := RX10) (ls0 := [(0, .ref mh), (1, .int (iI r9)), (2, .int (iI a9)), (3, .int (iI b9))]) (by decide) rfl (Nat.le_of_ble_eq_true rfl) rfl ?_
  intro p e s m below meth c A C hr hnm
  refine zz_aload_n C 0 dX10_two_0 rfl rfl ?_
  refine zz_get C 0 (ci := 10) (k := 13) rfl rfl in_X10 (by decide) qw_939 rfl rfl dX10_two_1 ?_
  refine zz_iconst C dX10_two_4 ?_
  refine zz_iload_n C 1 dX10_two_5 rfl rfl ?_
  refine zz_imul C dX10_two_6 ?_
  refine zz_iload_n C 2 dX10_two_7 rfl rfl ?_
  refine zz_iadd C dX10_two_8 ?_
  refine zz_lald C 5 rfl (by omega) (by omega) (by decide) dX10_two_9 ?_
  refine zz_aload_n C 0 dX10_two_10 rfl rfl ?_
  refine zz_get C 0 (ci := 10) (k := 13) rfl rfl in_X10 (by decide) qw_939 rfl rfl dX10_two_11 ?_
  refine zz_iconst C dX10_two_14 ?_
  refine zz_iload_n C 1 dX10_two_15 rfl rfl ?_
  refine zz_imul C dX10_two_16 ?_
  refine zz_iconst C dX10_two_17 ?_
  refine zz_iadd C dX10_two_18 ?_
  refine zz_iload_n C 3 dX10_two_19 rfl rfl ?_
  refine zz_iadd C dX10_two_20 ?_
  refine zz_lald C 5 rfl (by omega) (by omega) (by decide) dX10_two_21 ?_
  refine zz_lmul C dX10_two_22 ?_
  refine zz_aload_n C 0 dX10_two_23 rfl rfl ?_
  refine zz_get C 0 (ci := 10) (k := 13) rfl rfl in_X10 (by decide) qw_939 rfl rfl dX10_two_24 ?_
  refine zz_iconst C dX10_two_27 ?_
  refine zz_iload_n C 1 dX10_two_28 rfl rfl ?_
  refine zz_imul C dX10_two_29 ?_
  refine zz_iload_n C 3 dX10_two_30 rfl rfl ?_
  refine zz_iadd C dX10_two_31 ?_
  refine zz_lald C 5 rfl (by omega) (by omega) (by decide) dX10_two_32 ?_
  refine zz_aload_n C 0 dX10_two_33 rfl rfl ?_
  refine zz_get C 0 (ci := 10) (k := 13) rfl rfl in_X10 (by decide) qw_939 rfl rfl dX10_two_34 ?_
  refine zz_iconst C dX10_two_37 ?_
  refine zz_iload_n C 1 dX10_two_38 rfl rfl ?_
  refine zz_imul C dX10_two_39 ?_
  refine zz_iconst C dX10_two_40 ?_
  refine zz_iadd C dX10_two_41 ?_
  refine zz_iload_n C 2 dX10_two_42 rfl rfl ?_
  refine zz_iadd C dX10_two_43 ?_
  refine zz_lald C 5 rfl (by omega) (by omega) (by decide) dX10_two_44 ?_
  refine zz_lmul C dX10_two_45 ?_
  refine zz_lsub C dX10_two_46 ?_
  exact zz_lret C hr dX10_two_47 ⟨zz_vL (by unfold two cC; rw [show 4 * (r9 + 1) + b9 = 4 * r9 + 4 + b9 by omega, show 4 * (r9 + 1) + a9 = 4 * r9 + 4 + a9 by omega]), rfl⟩
abbrev po_X10_determinant (z : zC) (mh : Nat) (xT : Nat) (xD : Nat) (xP : Nat) (xR : Nat) (xC : Nat) (xW : Nat) (xA : Nat) (xH : Nat) (xU : Nat) (xB : Nat) (xI : Nat) (xN : Nat) (xM : Nat) (xY : Nat) (xK : Nat) (xL : Nat) (xE : Nat) (xS : Nat) (m_ra : Int) (m_ca : Int) (m_tp : Int) (m_fa : Int) (m_at : Int) (m_wr : Int) (m_va : Int) (m_pl : Int) (m_st : Int) (m_lo : Int) (m_bl : Int) (m_bc : Int) (m_fo : Int) (m_yl : Int) (m_yw : Int) (m_nu : Int) (m_nl : Int) (m_lu : Int) (m_ll : Int) (m_ln : Int) (kT : Int → Int) (kD : Int → Int) (kP : Int → Int) (kR : Int → Int) (kC : Int → Int) (kW : Int → Int) (kA : Int → Int) (kH : Int → Int) (kU : Int → Int) (kB : Int → Int) (kI : Int → Int) (kN : Int → Int) (kM : Int → Int) (kY : Int → Int) (kK : Int → Int) (kL : Int → Int) (kE : Int → Int) (kS : Int → Int) : Option Value → va_W → Prop := fun v w => v = some (Value.long (iL (d4 (cC kC 0) (cC kC 1) (cC kC 2) (cC kC 3)))) ∧ w = wMod z mh xT xD xP xR xC xW xA xH xU xB xI xN xM xY xK xL xE xS m_ra m_ca m_tp m_fa m_at m_wr m_va m_pl m_st m_lo m_bl m_bc m_fo m_yl m_yw m_nu m_nl m_lu m_ll m_ln kT kD kP kR kC kW kA kH kU kB kI kN kM kY kK kL kE kS
abbrev rm_X10_determinant : Room := { frames := 2, cells := 0, slots := 0, locals := 63 }
set_option maxHeartbeats 4000000 in
set_option maxRecDepth 100000 in
theorem cc_X10_determinant (l : Launch) (z : zC) (mh : Nat) (xT : Nat) (xD : Nat) (xP : Nat) (xR : Nat) (xC : Nat) (xW : Nat) (xA : Nat) (xH : Nat) (xU : Nat) (xB : Nat) (xI : Nat) (xN : Nat) (xM : Nat) (xY : Nat) (xK : Nat) (xL : Nat) (xE : Nat) (xS : Nat) (m_ra : Int) (m_ca : Int) (m_tp : Int) (m_fa : Int) (m_at : Int) (m_wr : Int) (m_va : Int) (m_pl : Int) (m_st : Int) (m_lo : Int) (m_bl : Int) (m_bc : Int) (m_fo : Int) (m_yl : Int) (m_yw : Int) (m_nu : Int) (m_nl : Int) (m_lu : Int) (m_ll : Int) (m_ln : Int) (kT : Int → Int) (kD : Int → Int) (kP : Int → Int) (kR : Int → Int) (kC : Int → Int) (kW : Int → Int) (kA : Int → Int) (kH : Int → Int) (kU : Int → Int) (kB : Int → Int) (kI : Int → Int) (kN : Int → Int) (kM : Int → Int) (kY : Int → Int) (kK : Int → Int) (kL : Int → Int) (kE : Int → Int) (kS : Int → Int)  : zzMet l yX10_determinant cX10_determinant 1 (Option.some .long) rm_X10_determinant z [.ref mh] (wMod z mh xT xD xP xR xC xW xA xH xU xB xI xN xM xY xK xL xE xS m_ra m_ca m_tp m_fa m_at m_wr m_va m_pl m_st m_lo m_bl m_bc m_fo m_yl m_yw m_nu m_nl m_lu m_ll m_ln kT kD kP kR kC kW kA kH kU kB kI kN kM kY kK kL kE kS) (po_X10_determinant z mh xT xD xP xR xC xW xA xH xU xB xI xN xM xY xK xL xE xS m_ra m_ca m_tp m_fa m_at m_wr m_va m_pl m_st m_lo m_bl m_bc m_fo m_yl m_yw m_nu m_nl m_lu m_ll m_ln kT kD kP kR kC kW kA kH kU kB kI kN kM kY kK kL kE kS) := by
  refine zzMet.of (own := RX10) (ls0 := [(0, .ref mh)]) (by decide) rfl (Nat.le_of_ble_eq_true rfl) rfl ?_
  intro p e s m below meth c A C hr hnm
  refine zz_aload_n C 0 dX10_determinant_0 rfl rfl ?_
  refine zz_iconst C dX10_determinant_1 ?_
  refine zz_iconst C dX10_determinant_2 ?_
  refine zz_iconst C dX10_determinant_3 ?_
  refine zz_callV (wr := ([] : va_W)) (st := []) C (cc_X10_two l z mh xT xD xP xR xC xW xA xH xU xB xI xN xM xY xK xL xE xS m_ra m_ca m_tp m_fa m_at m_wr m_va m_pl m_st m_lo m_bl m_bc m_fo m_yl m_yw m_nu m_nl m_lu m_ll m_ln kT kD kP kR kC kW kA kH kU kB kI kN kM kY kK kL kE kS 0 0 1 (by omega) (by omega) (by omega)) yk_X10_two qw_1218 ⟨by decide, by decide⟩ [0, 1, 2, 3, 4, 5, 6, 7, 8, 9, 10, 11, 12, 13, 14, 15, 16, 17, 18] [] rfl rfl rfl rfl (by decide) 0 10 rfl rfl rfl rfl (Nat.le_of_ble_eq_true rfl) dX10_determinant_4 ⟨by decide, by decide⟩ ?_
  rintro _ _ ⟨rfl, rfl⟩
  refine zz_st (st' := [.long (iL (two (cC kC 0) (cC kC 1) 0))]) rfl (zz_ws (ws' := wMod z mh xT xD xP xR xC xW xA xH xU xB xI xN xM xY xK xL xE xS m_ra m_ca m_tp m_fa m_at m_wr m_va m_pl m_st m_lo m_bl m_bc m_fo m_yl m_yw m_nu m_nl m_lu m_ll m_ln kT kD kP kR kC kW kA kH kU kB kI kN kM kY kK kL kE kS) rfl ?_)
  refine zz_aload_n C 0 dX10_determinant_7 rfl rfl ?_
  refine zz_iconst C dX10_determinant_8 ?_
  refine zz_iconst C dX10_determinant_9 ?_
  refine zz_iconst C dX10_determinant_10 ?_
  refine zz_callV (wr := ([] : va_W)) (st := [.long (iL (two (cC kC 0) (cC kC 1) 0))]) C (cc_X10_two l z mh xT xD xP xR xC xW xA xH xU xB xI xN xM xY xK xL xE xS m_ra m_ca m_tp m_fa m_at m_wr m_va m_pl m_st m_lo m_bl m_bc m_fo m_yl m_yw m_nu m_nl m_lu m_ll m_ln kT kD kP kR kC kW kA kH kU kB kI kN kM kY kK kL kE kS 2 2 3 (by omega) (by omega) (by omega)) yk_X10_two qw_1218 ⟨by decide, by decide⟩ [0, 1, 2, 3, 4, 5, 6, 7, 8, 9, 10, 11, 12, 13, 14, 15, 16, 17, 18] [] rfl rfl rfl rfl (by decide) 0 10 rfl rfl rfl rfl (Nat.le_of_ble_eq_true rfl) dX10_determinant_11 ⟨by decide, by decide⟩ ?_
  rintro _ _ ⟨rfl, rfl⟩
  refine zz_st (st' := [.long (iL (two (cC kC 2) (cC kC 3) 2)), .long (iL (two (cC kC 0) (cC kC 1) 0))]) rfl (zz_ws (ws' := wMod z mh xT xD xP xR xC xW xA xH xU xB xI xN xM xY xK xL xE xS m_ra m_ca m_tp m_fa m_at m_wr m_va m_pl m_st m_lo m_bl m_bc m_fo m_yl m_yw m_nu m_nl m_lu m_ll m_ln kT kD kP kR kC kW kA kH kU kB kI kN kM kY kK kL kE kS) rfl ?_)
  refine zz_lmul C dX10_determinant_14 ?_
  refine zz_aload_n C 0 dX10_determinant_15 rfl rfl ?_
  refine zz_iconst C dX10_determinant_16 ?_
  refine zz_iconst C dX10_determinant_17 ?_
  refine zz_iconst C dX10_determinant_18 ?_
  refine zz_callV (wr := ([] : va_W)) (st := [.long (iL ((two (cC kC 0) (cC kC 1) 0) * (two (cC kC 2) (cC kC 3) 2)))]) C (cc_X10_two l z mh xT xD xP xR xC xW xA xH xU xB xI xN xM xY xK xL xE xS m_ra m_ca m_tp m_fa m_at m_wr m_va m_pl m_st m_lo m_bl m_bc m_fo m_yl m_yw m_nu m_nl m_lu m_ll m_ln kT kD kP kR kC kW kA kH kU kB kI kN kM kY kK kL kE kS 0 0 2 (by omega) (by omega) (by omega)) yk_X10_two qw_1218 ⟨by decide, by decide⟩ [0, 1, 2, 3, 4, 5, 6, 7, 8, 9, 10, 11, 12, 13, 14, 15, 16, 17, 18] [] rfl rfl rfl rfl (by decide) 0 10 rfl rfl rfl rfl (Nat.le_of_ble_eq_true rfl) dX10_determinant_19 ⟨by decide, by decide⟩ ?_
  rintro _ _ ⟨rfl, rfl⟩
  refine zz_st (st' := [.long (iL (two (cC kC 0) (cC kC 2) 0)), .long (iL ((two (cC kC 0) (cC kC 1) 0) * (two (cC kC 2) (cC kC 3) 2)))]) rfl (zz_ws (ws' := wMod z mh xT xD xP xR xC xW xA xH xU xB xI xN xM xY xK xL xE xS m_ra m_ca m_tp m_fa m_at m_wr m_va m_pl m_st m_lo m_bl m_bc m_fo m_yl m_yw m_nu m_nl m_lu m_ll m_ln kT kD kP kR kC kW kA kH kU kB kI kN kM kY kK kL kE kS) rfl ?_)
  refine zz_aload_n C 0 dX10_determinant_22 rfl rfl ?_
  refine zz_iconst C dX10_determinant_23 ?_
  refine zz_iconst C dX10_determinant_24 ?_
  refine zz_iconst C dX10_determinant_25 ?_
  refine zz_callV (wr := ([] : va_W)) (st := [.long (iL (two (cC kC 0) (cC kC 2) 0)), .long (iL ((two (cC kC 0) (cC kC 1) 0) * (two (cC kC 2) (cC kC 3) 2)))]) C (cc_X10_two l z mh xT xD xP xR xC xW xA xH xU xB xI xN xM xY xK xL xE xS m_ra m_ca m_tp m_fa m_at m_wr m_va m_pl m_st m_lo m_bl m_bc m_fo m_yl m_yw m_nu m_nl m_lu m_ll m_ln kT kD kP kR kC kW kA kH kU kB kI kN kM kY kK kL kE kS 2 1 3 (by omega) (by omega) (by omega)) yk_X10_two qw_1218 ⟨by decide, by decide⟩ [0, 1, 2, 3, 4, 5, 6, 7, 8, 9, 10, 11, 12, 13, 14, 15, 16, 17, 18] [] rfl rfl rfl rfl (by decide) 0 10 rfl rfl rfl rfl (Nat.le_of_ble_eq_true rfl) dX10_determinant_26 ⟨by decide, by decide⟩ ?_
  rintro _ _ ⟨rfl, rfl⟩
  refine zz_st (st' := [.long (iL (two (cC kC 1) (cC kC 3) 2)), .long (iL (two (cC kC 0) (cC kC 2) 0)), .long (iL ((two (cC kC 0) (cC kC 1) 0) * (two (cC kC 2) (cC kC 3) 2)))]) rfl (zz_ws (ws' := wMod z mh xT xD xP xR xC xW xA xH xU xB xI xN xM xY xK xL xE xS m_ra m_ca m_tp m_fa m_at m_wr m_va m_pl m_st m_lo m_bl m_bc m_fo m_yl m_yw m_nu m_nl m_lu m_ll m_ln kT kD kP kR kC kW kA kH kU kB kI kN kM kY kK kL kE kS) rfl ?_)
  refine zz_lmul C dX10_determinant_29 ?_
  refine zz_lsub C dX10_determinant_30 ?_
  refine zz_aload_n C 0 dX10_determinant_31 rfl rfl ?_
  refine zz_iconst C dX10_determinant_32 ?_
  refine zz_iconst C dX10_determinant_33 ?_
  refine zz_iconst C dX10_determinant_34 ?_
  refine zz_callV (wr := ([] : va_W)) (st := [.long (iL (((two (cC kC 0) (cC kC 1) 0) * (two (cC kC 2) (cC kC 3) 2)) - ((two (cC kC 0) (cC kC 2) 0) * (two (cC kC 1) (cC kC 3) 2))))]) C (cc_X10_two l z mh xT xD xP xR xC xW xA xH xU xB xI xN xM xY xK xL xE xS m_ra m_ca m_tp m_fa m_at m_wr m_va m_pl m_st m_lo m_bl m_bc m_fo m_yl m_yw m_nu m_nl m_lu m_ll m_ln kT kD kP kR kC kW kA kH kU kB kI kN kM kY kK kL kE kS 0 0 3 (by omega) (by omega) (by omega)) yk_X10_two qw_1218 ⟨by decide, by decide⟩ [0, 1, 2, 3, 4, 5, 6, 7, 8, 9, 10, 11, 12, 13, 14, 15, 16, 17, 18] [] rfl rfl rfl rfl (by decide) 0 10 rfl rfl rfl rfl (Nat.le_of_ble_eq_true rfl) dX10_determinant_35 ⟨by decide, by decide⟩ ?_
  rintro _ _ ⟨rfl, rfl⟩
  refine zz_st (st' := [.long (iL (two (cC kC 0) (cC kC 3) 0)), .long (iL (((two (cC kC 0) (cC kC 1) 0) * (two (cC kC 2) (cC kC 3) 2)) - ((two (cC kC 0) (cC kC 2) 0) * (two (cC kC 1) (cC kC 3) 2))))]) rfl (zz_ws (ws' := wMod z mh xT xD xP xR xC xW xA xH xU xB xI xN xM xY xK xL xE xS m_ra m_ca m_tp m_fa m_at m_wr m_va m_pl m_st m_lo m_bl m_bc m_fo m_yl m_yw m_nu m_nl m_lu m_ll m_ln kT kD kP kR kC kW kA kH kU kB kI kN kM kY kK kL kE kS) rfl ?_)
  refine zz_aload_n C 0 dX10_determinant_38 rfl rfl ?_
  refine zz_iconst C dX10_determinant_39 ?_
  refine zz_iconst C dX10_determinant_40 ?_
  refine zz_iconst C dX10_determinant_41 ?_
  refine zz_callV (wr := ([] : va_W)) (st := [.long (iL (two (cC kC 0) (cC kC 3) 0)), .long (iL (((two (cC kC 0) (cC kC 1) 0) * (two (cC kC 2) (cC kC 3) 2)) - ((two (cC kC 0) (cC kC 2) 0) * (two (cC kC 1) (cC kC 3) 2))))]) C (cc_X10_two l z mh xT xD xP xR xC xW xA xH xU xB xI xN xM xY xK xL xE xS m_ra m_ca m_tp m_fa m_at m_wr m_va m_pl m_st m_lo m_bl m_bc m_fo m_yl m_yw m_nu m_nl m_lu m_ll m_ln kT kD kP kR kC kW kA kH kU kB kI kN kM kY kK kL kE kS 2 1 2 (by omega) (by omega) (by omega)) yk_X10_two qw_1218 ⟨by decide, by decide⟩ [0, 1, 2, 3, 4, 5, 6, 7, 8, 9, 10, 11, 12, 13, 14, 15, 16, 17, 18] [] rfl rfl rfl rfl (by decide) 0 10 rfl rfl rfl rfl (Nat.le_of_ble_eq_true rfl) dX10_determinant_42 ⟨by decide, by decide⟩ ?_
  rintro _ _ ⟨rfl, rfl⟩
  refine zz_st (st' := [.long (iL (two (cC kC 1) (cC kC 2) 2)), .long (iL (two (cC kC 0) (cC kC 3) 0)), .long (iL (((two (cC kC 0) (cC kC 1) 0) * (two (cC kC 2) (cC kC 3) 2)) - ((two (cC kC 0) (cC kC 2) 0) * (two (cC kC 1) (cC kC 3) 2))))]) rfl (zz_ws (ws' := wMod z mh xT xD xP xR xC xW xA xH xU xB xI xN xM xY xK xL xE xS m_ra m_ca m_tp m_fa m_at m_wr m_va m_pl m_st m_lo m_bl m_bc m_fo m_yl m_yw m_nu m_nl m_lu m_ll m_ln kT kD kP kR kC kW kA kH kU kB kI kN kM kY kK kL kE kS) rfl ?_)
  refine zz_lmul C dX10_determinant_45 ?_
  refine zz_ladd C dX10_determinant_46 ?_
  refine zz_aload_n C 0 dX10_determinant_47 rfl rfl ?_
  refine zz_iconst C dX10_determinant_48 ?_
  refine zz_iconst C dX10_determinant_49 ?_
  refine zz_iconst C dX10_determinant_50 ?_
  refine zz_callV (wr := ([] : va_W)) (st := [.long (iL ((((two (cC kC 0) (cC kC 1) 0) * (two (cC kC 2) (cC kC 3) 2)) - ((two (cC kC 0) (cC kC 2) 0) * (two (cC kC 1) (cC kC 3) 2))) + ((two (cC kC 0) (cC kC 3) 0) * (two (cC kC 1) (cC kC 2) 2))))]) C (cc_X10_two l z mh xT xD xP xR xC xW xA xH xU xB xI xN xM xY xK xL xE xS m_ra m_ca m_tp m_fa m_at m_wr m_va m_pl m_st m_lo m_bl m_bc m_fo m_yl m_yw m_nu m_nl m_lu m_ll m_ln kT kD kP kR kC kW kA kH kU kB kI kN kM kY kK kL kE kS 0 1 2 (by omega) (by omega) (by omega)) yk_X10_two qw_1218 ⟨by decide, by decide⟩ [0, 1, 2, 3, 4, 5, 6, 7, 8, 9, 10, 11, 12, 13, 14, 15, 16, 17, 18] [] rfl rfl rfl rfl (by decide) 0 10 rfl rfl rfl rfl (Nat.le_of_ble_eq_true rfl) dX10_determinant_51 ⟨by decide, by decide⟩ ?_
  rintro _ _ ⟨rfl, rfl⟩
  refine zz_st (st' := [.long (iL (two (cC kC 1) (cC kC 2) 0)), .long (iL ((((two (cC kC 0) (cC kC 1) 0) * (two (cC kC 2) (cC kC 3) 2)) - ((two (cC kC 0) (cC kC 2) 0) * (two (cC kC 1) (cC kC 3) 2))) + ((two (cC kC 0) (cC kC 3) 0) * (two (cC kC 1) (cC kC 2) 2))))]) rfl (zz_ws (ws' := wMod z mh xT xD xP xR xC xW xA xH xU xB xI xN xM xY xK xL xE xS m_ra m_ca m_tp m_fa m_at m_wr m_va m_pl m_st m_lo m_bl m_bc m_fo m_yl m_yw m_nu m_nl m_lu m_ll m_ln kT kD kP kR kC kW kA kH kU kB kI kN kM kY kK kL kE kS) rfl ?_)
  refine zz_aload_n C 0 dX10_determinant_54 rfl rfl ?_
  refine zz_iconst C dX10_determinant_55 ?_
  refine zz_iconst C dX10_determinant_56 ?_
  refine zz_iconst C dX10_determinant_57 ?_
  refine zz_callV (wr := ([] : va_W)) (st := [.long (iL (two (cC kC 1) (cC kC 2) 0)), .long (iL ((((two (cC kC 0) (cC kC 1) 0) * (two (cC kC 2) (cC kC 3) 2)) - ((two (cC kC 0) (cC kC 2) 0) * (two (cC kC 1) (cC kC 3) 2))) + ((two (cC kC 0) (cC kC 3) 0) * (two (cC kC 1) (cC kC 2) 2))))]) C (cc_X10_two l z mh xT xD xP xR xC xW xA xH xU xB xI xN xM xY xK xL xE xS m_ra m_ca m_tp m_fa m_at m_wr m_va m_pl m_st m_lo m_bl m_bc m_fo m_yl m_yw m_nu m_nl m_lu m_ll m_ln kT kD kP kR kC kW kA kH kU kB kI kN kM kY kK kL kE kS 2 0 3 (by omega) (by omega) (by omega)) yk_X10_two qw_1218 ⟨by decide, by decide⟩ [0, 1, 2, 3, 4, 5, 6, 7, 8, 9, 10, 11, 12, 13, 14, 15, 16, 17, 18] [] rfl rfl rfl rfl (by decide) 0 10 rfl rfl rfl rfl (Nat.le_of_ble_eq_true rfl) dX10_determinant_58 ⟨by decide, by decide⟩ ?_
  rintro _ _ ⟨rfl, rfl⟩
  refine zz_st (st' := [.long (iL (two (cC kC 0) (cC kC 3) 2)), .long (iL (two (cC kC 1) (cC kC 2) 0)), .long (iL ((((two (cC kC 0) (cC kC 1) 0) * (two (cC kC 2) (cC kC 3) 2)) - ((two (cC kC 0) (cC kC 2) 0) * (two (cC kC 1) (cC kC 3) 2))) + ((two (cC kC 0) (cC kC 3) 0) * (two (cC kC 1) (cC kC 2) 2))))]) rfl (zz_ws (ws' := wMod z mh xT xD xP xR xC xW xA xH xU xB xI xN xM xY xK xL xE xS m_ra m_ca m_tp m_fa m_at m_wr m_va m_pl m_st m_lo m_bl m_bc m_fo m_yl m_yw m_nu m_nl m_lu m_ll m_ln kT kD kP kR kC kW kA kH kU kB kI kN kM kY kK kL kE kS) rfl ?_)
  refine zz_lmul C dX10_determinant_61 ?_
  refine zz_ladd C dX10_determinant_62 ?_
  refine zz_aload_n C 0 dX10_determinant_63 rfl rfl ?_
  refine zz_iconst C dX10_determinant_64 ?_
  refine zz_iconst C dX10_determinant_65 ?_
  refine zz_iconst C dX10_determinant_66 ?_
  refine zz_callV (wr := ([] : va_W)) (st := [.long (iL (((((two (cC kC 0) (cC kC 1) 0) * (two (cC kC 2) (cC kC 3) 2)) - ((two (cC kC 0) (cC kC 2) 0) * (two (cC kC 1) (cC kC 3) 2))) + ((two (cC kC 0) (cC kC 3) 0) * (two (cC kC 1) (cC kC 2) 2))) + ((two (cC kC 1) (cC kC 2) 0) * (two (cC kC 0) (cC kC 3) 2))))]) C (cc_X10_two l z mh xT xD xP xR xC xW xA xH xU xB xI xN xM xY xK xL xE xS m_ra m_ca m_tp m_fa m_at m_wr m_va m_pl m_st m_lo m_bl m_bc m_fo m_yl m_yw m_nu m_nl m_lu m_ll m_ln kT kD kP kR kC kW kA kH kU kB kI kN kM kY kK kL kE kS 0 1 3 (by omega) (by omega) (by omega)) yk_X10_two qw_1218 ⟨by decide, by decide⟩ [0, 1, 2, 3, 4, 5, 6, 7, 8, 9, 10, 11, 12, 13, 14, 15, 16, 17, 18] [] rfl rfl rfl rfl (by decide) 0 10 rfl rfl rfl rfl (Nat.le_of_ble_eq_true rfl) dX10_determinant_67 ⟨by decide, by decide⟩ ?_
  rintro _ _ ⟨rfl, rfl⟩
  refine zz_st (st' := [.long (iL (two (cC kC 1) (cC kC 3) 0)), .long (iL (((((two (cC kC 0) (cC kC 1) 0) * (two (cC kC 2) (cC kC 3) 2)) - ((two (cC kC 0) (cC kC 2) 0) * (two (cC kC 1) (cC kC 3) 2))) + ((two (cC kC 0) (cC kC 3) 0) * (two (cC kC 1) (cC kC 2) 2))) + ((two (cC kC 1) (cC kC 2) 0) * (two (cC kC 0) (cC kC 3) 2))))]) rfl (zz_ws (ws' := wMod z mh xT xD xP xR xC xW xA xH xU xB xI xN xM xY xK xL xE xS m_ra m_ca m_tp m_fa m_at m_wr m_va m_pl m_st m_lo m_bl m_bc m_fo m_yl m_yw m_nu m_nl m_lu m_ll m_ln kT kD kP kR kC kW kA kH kU kB kI kN kM kY kK kL kE kS) rfl ?_)
  refine zz_aload_n C 0 dX10_determinant_70 rfl rfl ?_
  refine zz_iconst C dX10_determinant_71 ?_
  refine zz_iconst C dX10_determinant_72 ?_
  refine zz_iconst C dX10_determinant_73 ?_
  refine zz_callV (wr := ([] : va_W)) (st := [.long (iL (two (cC kC 1) (cC kC 3) 0)), .long (iL (((((two (cC kC 0) (cC kC 1) 0) * (two (cC kC 2) (cC kC 3) 2)) - ((two (cC kC 0) (cC kC 2) 0) * (two (cC kC 1) (cC kC 3) 2))) + ((two (cC kC 0) (cC kC 3) 0) * (two (cC kC 1) (cC kC 2) 2))) + ((two (cC kC 1) (cC kC 2) 0) * (two (cC kC 0) (cC kC 3) 2))))]) C (cc_X10_two l z mh xT xD xP xR xC xW xA xH xU xB xI xN xM xY xK xL xE xS m_ra m_ca m_tp m_fa m_at m_wr m_va m_pl m_st m_lo m_bl m_bc m_fo m_yl m_yw m_nu m_nl m_lu m_ll m_ln kT kD kP kR kC kW kA kH kU kB kI kN kM kY kK kL kE kS 2 0 2 (by omega) (by omega) (by omega)) yk_X10_two qw_1218 ⟨by decide, by decide⟩ [0, 1, 2, 3, 4, 5, 6, 7, 8, 9, 10, 11, 12, 13, 14, 15, 16, 17, 18] [] rfl rfl rfl rfl (by decide) 0 10 rfl rfl rfl rfl (Nat.le_of_ble_eq_true rfl) dX10_determinant_74 ⟨by decide, by decide⟩ ?_
  rintro _ _ ⟨rfl, rfl⟩
  refine zz_st (st' := [.long (iL (two (cC kC 0) (cC kC 2) 2)), .long (iL (two (cC kC 1) (cC kC 3) 0)), .long (iL (((((two (cC kC 0) (cC kC 1) 0) * (two (cC kC 2) (cC kC 3) 2)) - ((two (cC kC 0) (cC kC 2) 0) * (two (cC kC 1) (cC kC 3) 2))) + ((two (cC kC 0) (cC kC 3) 0) * (two (cC kC 1) (cC kC 2) 2))) + ((two (cC kC 1) (cC kC 2) 0) * (two (cC kC 0) (cC kC 3) 2))))]) rfl (zz_ws (ws' := wMod z mh xT xD xP xR xC xW xA xH xU xB xI xN xM xY xK xL xE xS m_ra m_ca m_tp m_fa m_at m_wr m_va m_pl m_st m_lo m_bl m_bc m_fo m_yl m_yw m_nu m_nl m_lu m_ll m_ln kT kD kP kR kC kW kA kH kU kB kI kN kM kY kK kL kE kS) rfl ?_)
  refine zz_lmul C dX10_determinant_77 ?_
  refine zz_lsub C dX10_determinant_78 ?_
  refine zz_aload_n C 0 dX10_determinant_79 rfl rfl ?_
  refine zz_iconst C dX10_determinant_80 ?_
  refine zz_iconst C dX10_determinant_81 ?_
  refine zz_iconst C dX10_determinant_82 ?_
  refine zz_callV (wr := ([] : va_W)) (st := [.long (iL ((((((two (cC kC 0) (cC kC 1) 0) * (two (cC kC 2) (cC kC 3) 2)) - ((two (cC kC 0) (cC kC 2) 0) * (two (cC kC 1) (cC kC 3) 2))) + ((two (cC kC 0) (cC kC 3) 0) * (two (cC kC 1) (cC kC 2) 2))) + ((two (cC kC 1) (cC kC 2) 0) * (two (cC kC 0) (cC kC 3) 2))) - ((two (cC kC 1) (cC kC 3) 0) * (two (cC kC 0) (cC kC 2) 2))))]) C (cc_X10_two l z mh xT xD xP xR xC xW xA xH xU xB xI xN xM xY xK xL xE xS m_ra m_ca m_tp m_fa m_at m_wr m_va m_pl m_st m_lo m_bl m_bc m_fo m_yl m_yw m_nu m_nl m_lu m_ll m_ln kT kD kP kR kC kW kA kH kU kB kI kN kM kY kK kL kE kS 0 2 3 (by omega) (by omega) (by omega)) yk_X10_two qw_1218 ⟨by decide, by decide⟩ [0, 1, 2, 3, 4, 5, 6, 7, 8, 9, 10, 11, 12, 13, 14, 15, 16, 17, 18] [] rfl rfl rfl rfl (by decide) 0 10 rfl rfl rfl rfl (Nat.le_of_ble_eq_true rfl) dX10_determinant_83 ⟨by decide, by decide⟩ ?_
  rintro _ _ ⟨rfl, rfl⟩
  refine zz_st (st' := [.long (iL (two (cC kC 2) (cC kC 3) 0)), .long (iL ((((((two (cC kC 0) (cC kC 1) 0) * (two (cC kC 2) (cC kC 3) 2)) - ((two (cC kC 0) (cC kC 2) 0) * (two (cC kC 1) (cC kC 3) 2))) + ((two (cC kC 0) (cC kC 3) 0) * (two (cC kC 1) (cC kC 2) 2))) + ((two (cC kC 1) (cC kC 2) 0) * (two (cC kC 0) (cC kC 3) 2))) - ((two (cC kC 1) (cC kC 3) 0) * (two (cC kC 0) (cC kC 2) 2))))]) rfl (zz_ws (ws' := wMod z mh xT xD xP xR xC xW xA xH xU xB xI xN xM xY xK xL xE xS m_ra m_ca m_tp m_fa m_at m_wr m_va m_pl m_st m_lo m_bl m_bc m_fo m_yl m_yw m_nu m_nl m_lu m_ll m_ln kT kD kP kR kC kW kA kH kU kB kI kN kM kY kK kL kE kS) rfl ?_)
  refine zz_aload_n C 0 dX10_determinant_86 rfl rfl ?_
  refine zz_iconst C dX10_determinant_87 ?_
  refine zz_iconst C dX10_determinant_88 ?_
  refine zz_iconst C dX10_determinant_89 ?_
  refine zz_callV (wr := ([] : va_W)) (st := [.long (iL (two (cC kC 2) (cC kC 3) 0)), .long (iL ((((((two (cC kC 0) (cC kC 1) 0) * (two (cC kC 2) (cC kC 3) 2)) - ((two (cC kC 0) (cC kC 2) 0) * (two (cC kC 1) (cC kC 3) 2))) + ((two (cC kC 0) (cC kC 3) 0) * (two (cC kC 1) (cC kC 2) 2))) + ((two (cC kC 1) (cC kC 2) 0) * (two (cC kC 0) (cC kC 3) 2))) - ((two (cC kC 1) (cC kC 3) 0) * (two (cC kC 0) (cC kC 2) 2))))]) C (cc_X10_two l z mh xT xD xP xR xC xW xA xH xU xB xI xN xM xY xK xL xE xS m_ra m_ca m_tp m_fa m_at m_wr m_va m_pl m_st m_lo m_bl m_bc m_fo m_yl m_yw m_nu m_nl m_lu m_ll m_ln kT kD kP kR kC kW kA kH kU kB kI kN kM kY kK kL kE kS 2 0 1 (by omega) (by omega) (by omega)) yk_X10_two qw_1218 ⟨by decide, by decide⟩ [0, 1, 2, 3, 4, 5, 6, 7, 8, 9, 10, 11, 12, 13, 14, 15, 16, 17, 18] [] rfl rfl rfl rfl (by decide) 0 10 rfl rfl rfl rfl (Nat.le_of_ble_eq_true rfl) dX10_determinant_90 ⟨by decide, by decide⟩ ?_
  rintro _ _ ⟨rfl, rfl⟩
  refine zz_st (st' := [.long (iL (two (cC kC 0) (cC kC 1) 2)), .long (iL (two (cC kC 2) (cC kC 3) 0)), .long (iL ((((((two (cC kC 0) (cC kC 1) 0) * (two (cC kC 2) (cC kC 3) 2)) - ((two (cC kC 0) (cC kC 2) 0) * (two (cC kC 1) (cC kC 3) 2))) + ((two (cC kC 0) (cC kC 3) 0) * (two (cC kC 1) (cC kC 2) 2))) + ((two (cC kC 1) (cC kC 2) 0) * (two (cC kC 0) (cC kC 3) 2))) - ((two (cC kC 1) (cC kC 3) 0) * (two (cC kC 0) (cC kC 2) 2))))]) rfl (zz_ws (ws' := wMod z mh xT xD xP xR xC xW xA xH xU xB xI xN xM xY xK xL xE xS m_ra m_ca m_tp m_fa m_at m_wr m_va m_pl m_st m_lo m_bl m_bc m_fo m_yl m_yw m_nu m_nl m_lu m_ll m_ln kT kD kP kR kC kW kA kH kU kB kI kN kM kY kK kL kE kS) rfl ?_)
  refine zz_lmul C dX10_determinant_93 ?_
  refine zz_ladd C dX10_determinant_94 ?_
  exact zz_lret C hr dX10_determinant_95 ⟨zz_vL rfl, rfl⟩
abbrev po_X10_laysColumns (z : zC) (mh : Nat) (xT : Nat) (xD : Nat) (xP : Nat) (xR : Nat) (xC : Nat) (xW : Nat) (xA : Nat) (xH : Nat) (xU : Nat) (xB : Nat) (xI : Nat) (xN : Nat) (xM : Nat) (xY : Nat) (xK : Nat) (xL : Nat) (xE : Nat) (xS : Nat) (m_ra : Int) (m_ca : Int) (m_tp : Int) (m_fa : Int) (m_at : Int) (m_wr : Int) (m_va : Int) (m_pl : Int) (m_st : Int) (m_lo : Int) (m_bl : Int) (m_bc : Int) (m_fo : Int) (m_yl : Int) (m_yw : Int) (m_nu : Int) (m_nl : Int) (m_lu : Int) (m_ll : Int) (m_ln : Int) (kT : Int → Int) (kD : Int → Int) (kP : Int → Int) (kR : Int → Int) (kC : Int → Int) (kW : Int → Int) (kA : Int → Int) (kH : Int → Int) (kU : Int → Int) (kB : Int → Int) (kI : Int → Int) (kN : Int → Int) (kM : Int → Int) (kY : Int → Int) (kK : Int → Int) (kL : Int → Int) (kE : Int → Int) (kS : Int → Int) (pu : Int) : Option Value → va_W → Prop := fun v w => ∃ (gC : Int → Int), (∀ c r : Int, 0 ≤ c → c < 4 → 0 ≤ r → r < 4 → gC (4 * r + c) = repM (pcol (kT 0) (wE kW) kH) pu (aO (kT 0) kA) c r) ∧ v = none ∧ w = wMod z mh xT xD xP xR xC xW xA xH xU xB xI xN xM xY xK xL xE xS m_ra m_ca m_tp m_fa m_at m_wr m_va m_pl m_st m_lo m_bl m_bc m_fo m_yl m_yw m_nu m_nl m_lu m_ll m_ln kT kD kP kR gC kW kA kH kU kB kI kN kM kY kK kL kE kS
abbrev rm_X10_laysColumns : Room := { frames := 1, cells := 0, slots := 0, locals := 40 }
set_option maxHeartbeats 4000000 in
set_option maxRecDepth 100000 in
theorem cc_X10_laysColumns (l : Launch) (z : zC) (mh : Nat) (xT : Nat) (xD : Nat) (xP : Nat) (xR : Nat) (xC : Nat) (xW : Nat) (xA : Nat) (xH : Nat) (xU : Nat) (xB : Nat) (xI : Nat) (xN : Nat) (xM : Nat) (xY : Nat) (xK : Nat) (xL : Nat) (xE : Nat) (xS : Nat) (m_ra : Int) (m_ca : Int) (m_tp : Int) (m_fa : Int) (m_at : Int) (m_wr : Int) (m_va : Int) (m_pl : Int) (m_st : Int) (m_lo : Int) (m_bl : Int) (m_bc : Int) (m_fo : Int) (m_yl : Int) (m_yw : Int) (m_nu : Int) (m_nl : Int) (m_lu : Int) (m_ll : Int) (m_ln : Int) (kT : Int → Int) (kD : Int → Int) (kP : Int → Int) (kR : Int → Int) (kC : Int → Int) (kW : Int → Int) (kA : Int → Int) (kH : Int → Int) (kU : Int → Int) (kB : Int → Int) (kI : Int → Int) (kN : Int → Int) (kM : Int → Int) (kY : Int → Int) (kK : Int → Int) (kL : Int → Int) (kE : Int → Int) (kS : Int → Int) (pu : Int) (hkT : mOk kT) (hWz : ∀ i r : Int, 0 ≤ i → i < kT 0 → kT 0 ≤ r → r < 4 → kW (4 * kH i + r) = 0) (hHr : ∀ i : Int, 0 ≤ i → i < kT 0 → 0 ≤ kH i ∧ kH i < 10) (hpu : -1 ≤ pu ∧ pu < 4) : zzMet l yX10_laysColumns cX10_laysColumns 5 none rm_X10_laysColumns z [.ref mh, .int (iI pu)] (wMod z mh xT xD xP xR xC xW xA xH xU xB xI xN xM xY xK xL xE xS m_ra m_ca m_tp m_fa m_at m_wr m_va m_pl m_st m_lo m_bl m_bc m_fo m_yl m_yw m_nu m_nl m_lu m_ll m_ln kT kD kP kR kC kW kA kH kU kB kI kN kM kY kK kL kE kS) (po_X10_laysColumns z mh xT xD xP xR xC xW xA xH xU xB xI xN xM xY xK xL xE xS m_ra m_ca m_tp m_fa m_at m_wr m_va m_pl m_st m_lo m_bl m_bc m_fo m_yl m_yw m_nu m_nl m_lu m_ll m_ln kT kD kP kR kC kW kA kH kU kB kI kN kM kY kK kL kE kS pu) := by
  refine zzMet.of (own := RX10) (ls0 := [(0, .ref mh), (1, .int (iI pu))]) (by decide) rfl (Nat.le_of_ble_eq_true rfl) rfl ?_
  intro p e s m below meth c A C hr hnm
  have hk0 := hkT.1
  have hk1 := hkT.2.1
  refine zz_iconst C dX10_laysColumns_0 ?_
  refine zz_istore_n (ls' := [(2, .int (iI 0)), (0, .ref mh), (1, .int (iI pu))]) C dX10_laysColumns_1 rfl (by decide) rfl ?_
  have Lp2 : ∀ (fu9 : Nat) (k : Int) (gC : Int → Int), (0 ≤ k ∧ k ≤ 4) → (∀ c r : Int, 0 ≤ c → c < k → 0 ≤ r → r < 4 → gC (4 * r + c) = repM (pcol (kT 0) (wE kW) kH) pu (aO (kT 0) kA) c r) → (4 - k).toNat < fu9 → zzW p l e rm_X10_laysColumns s m ([.ref mh, .int (iI pu)] : List Value).toArray below meth c z A 5 (MQ below (zQ z A (po_X10_laysColumns z mh xT xD xP xR xC xW xA xH xU xB xI xN xM xY xK xL xE xS m_ra m_ca m_tp m_fa m_at m_wr m_va m_pl m_st m_lo m_bl m_bc m_fo m_yl m_yw m_nu m_nl m_lu m_ll m_ln kT kD kP kR kC kW kA kH kU kB kI kN kM kY kK kL kE kS pu)) ([.ref mh, .int (iI pu)] : List Value).toArray s 0 0 A) 0 0 (wMod z mh xT xD xP xR xC xW xA xH xU xB xI xN xM xY xK xL xE xS m_ra m_ca m_tp m_fa m_at m_wr m_va m_pl m_st m_lo m_bl m_bc m_fo m_yl m_yw m_nu m_nl m_lu m_ll m_ln kT kD kP kR gC kW kA kH kU kB kI kN kM kY kK kL kE kS) [(0, .ref mh), (1, .int (iI pu)), (2, .int (iI k))] [] 2 := by
    intro fu9
    induction fu9 with
    | zero => intro k gC hk hgC h9; exact absurd h9 (Nat.not_lt_zero _)
    | succ fu9 ih2 =>
      intro k gC hk hgC hm2
      refine zz_iload_n C 2 dX10_laysColumns_2 rfl rfl ?_
      refine zz_iconst C dX10_laysColumns_3 ?_
      refine zz_icmp_ge (tgt := 114) C dX10_laysColumns_4 (by decide) (by unfold rI; omega) (by unfold rI; omega) (fun c4 => ?_) (fun c4 => ?_)
      · skip
        exact zz_vret C hr dX10_laysColumns_114 ⟨gC, fun c r h0 h1 h2 h3 => hgC c r h0 (by omega) h2 h3, rfl, rfl⟩
      · skip
        refine zz_iconst C dX10_laysColumns_7 ?_
        refine zz_istore_n (ls' := [(3, .int (iI 0)), (0, .ref mh), (1, .int (iI pu)), (2, .int (iI k))]) C dX10_laysColumns_8 rfl (by decide) rfl ?_
        have Lp9 : ∀ (fu9 : Nat) (j : Int) (gD : Int → Int), (0 ≤ j ∧ j ≤ 4) → (∀ c r : Int, 0 ≤ c → 0 ≤ r → r < 4 → (c < k ∨ (c = k ∧ r < j)) → gD (4 * r + c) = repM (pcol (kT 0) (wE kW) kH) pu (aO (kT 0) kA) c r) → (4 - j).toNat < fu9 → zzW p l e rm_X10_laysColumns s m ([.ref mh, .int (iI pu)] : List Value).toArray below meth c z A 5 (MQ below (zQ z A (po_X10_laysColumns z mh xT xD xP xR xC xW xA xH xU xB xI xN xM xY xK xL xE xS m_ra m_ca m_tp m_fa m_at m_wr m_va m_pl m_st m_lo m_bl m_bc m_fo m_yl m_yw m_nu m_nl m_lu m_ll m_ln kT kD kP kR kC kW kA kH kU kB kI kN kM kY kK kL kE kS pu)) ([.ref mh, .int (iI pu)] : List Value).toArray s 0 0 A) 0 0 (wMod z mh xT xD xP xR xC xW xA xH xU xB xI xN xM xY xK xL xE xS m_ra m_ca m_tp m_fa m_at m_wr m_va m_pl m_st m_lo m_bl m_bc m_fo m_yl m_yw m_nu m_nl m_lu m_ll m_ln kT kD kP kR gD kW kA kH kU kB kI kN kM kY kK kL kE kS) [(0, .ref mh), (1, .int (iI pu)), (2, .int (iI k)), (3, .int (iI j))] [] 9 := by
          intro fu9
          induction fu9 with
          | zero => intro j gD hj hgD h9; exact absurd h9 (Nat.not_lt_zero _)
          | succ fu9 ih9 =>
            intro j gD hj hgD hm9
            refine zz_iload_n C 3 dX10_laysColumns_9 rfl rfl ?_
            refine zz_iconst C dX10_laysColumns_10 ?_
            refine zz_icmp_ge (tgt := 108) C dX10_laysColumns_11 (by decide) (by unfold rI; omega) (by unfold rI; omega) (fun c11 => ?_) (fun c11 => ?_)
            · skip
              refine zz_iinc (ls' := [(2, .int (iI (k + 1))), (0, .ref mh), (1, .int (iI pu)), (3, .int (iI j))]) C 2 dX10_laysColumns_108 rfl (by decide) rfl ?_
              refine zz_goto (tgt := 2) C dX10_laysColumns_111 (by decide) ?_
              refine zz_loc (ls' := [(0, .ref mh), (1, .int (iI pu)), (2, .int (iI (k + 1)))]) [1, 2, 0] rfl ?_
              exact ih2 (k + 1) gD (by omega) (fun c r h0 h1 h2 h3 => hgD c r h0 h2 h3 (by omega)) (by omega)
            · skip
              refine zz_iload_n C 2 dX10_laysColumns_14 rfl rfl ?_
              refine zz_aload_n C 0 dX10_laysColumns_15 rfl rfl ?_
              refine zz_get C 0 (ci := 10) (k := 1) rfl rfl in_X10 (by decide) qw_927 rfl rfl dX10_laysColumns_16 ?_
              refine zz_iconst C dX10_laysColumns_19 ?_
              refine zz_iald C 1 rfl (by omega) (by omega) (by decide) dX10_laysColumns_20 ?_
              refine zz_icmp_ge (tgt := 28) C dX10_laysColumns_21 (by decide) (by unfold rI; omega) (by unfold rI; omega) (fun c21 => ?_) (fun c21 => ?_)
              · skip
                refine zz_iconst C dX10_laysColumns_28 ?_
                refine zz_istore (ls' := [(4, .int (iI 0)), (0, .ref mh), (1, .int (iI pu)), (2, .int (iI k)), (3, .int (iI j))]) C dX10_laysColumns_29 (by decide) rfl ?_
                refine zz_aload_n C 1 dX10_laysColumns_31 rfl rfl ?_
                refine zz_get C 0 (ci := 10) (k := 13) rfl rfl in_X10 (by decide) qw_939 rfl rfl dX10_laysColumns_32 ?_
                refine zz_iconst C dX10_laysColumns_35 ?_
                refine zz_iload_n C 4 dX10_laysColumns_36 rfl rfl ?_
                refine zz_imul C dX10_laysColumns_37 ?_
                refine zz_iload_n C 3 dX10_laysColumns_38 rfl rfl ?_
                refine zz_iadd C dX10_laysColumns_39 ?_
                refine zz_iload_n C 3 dX10_laysColumns_40 rfl rfl ?_
                refine zz_iload_n C 2 dX10_laysColumns_41 rfl rfl ?_
                refine zz_icmp_ne (tgt := 68) C dX10_laysColumns_42 (by decide) (by unfold rI; omega) (by unfold rI; omega) (fun c42 => ?_) (fun c42 => ?_)
                · skip
                  refine zz_iload C 0 dX10_laysColumns_68 rfl ?_
                  refine zz_if_eq (tgt := 91) C dX10_laysColumns_70 (by decide) (by unfold rI; omega) (fun c70 => ?_) (fun c70 => ?_)
                  · skip
                    refine zz_iload_n C 4 dX10_laysColumns_91 rfl rfl ?_
                    refine zz_iload_n C 3 dX10_laysColumns_92 rfl rfl ?_
                    refine zz_icmp_ne (tgt := 100) C dX10_laysColumns_93 (by decide) (by unfold rI; omega) (by unfold rI; omega) (fun c93 => ?_) (fun c93 => ?_)
                    · skip
                      refine zz_lconst (a := 0) C dX10_laysColumns_100 (by decide +kernel) ?_
                      have hv9 : 0 = repM (pcol (kT 0) (wE kW) kH) pu (aO (kT 0) kA) k j := by first | (exfalso; omega) | exact lc_put (by omega) (by omega) | exact lc_put0 (by omega) (by omega) | exact lc_in hWz (by omega) (by omega) (by omega) (by omega) | exact lc_one (by omega) (by omega) (by omega) | exact lc_zero (by omega) (by omega) (by omega)
                      have hD9 := lc_step hgD hj.1 (by omega) hv9
                      refine zz_last (ws' := wMod z mh xT xD xP xR xC xW xA xH xU xB xI xN xM xY xK xL xE xS m_ra m_ca m_tp m_fa m_at m_wr m_va m_pl m_st m_lo m_bl m_bc m_fo m_yl m_yw m_nu m_nl m_lu m_ll m_ln kT kD kP kR (zup gD ((4 * j) + k) 0) kW kA kH kU kB kI kN kM kY kK kL kE kS) C 5 rfl (by omega) (by omega) (by decide) rfl dX10_laysColumns_101 ?_
                      refine zz_iinc (ls' := [(3, .int (iI (j + 1))), (4, .int (iI 0)), (0, .ref mh), (1, .int (iI pu)), (2, .int (iI k))]) C 4 dX10_laysColumns_102 rfl (by decide) rfl ?_
                      refine zz_goto (tgt := 9) C dX10_laysColumns_105 (by decide) ?_
                      refine zz_loc (ls' := [(0, .ref mh), (1, .int (iI pu)), (2, .int (iI k)), (3, .int (iI (j + 1)))]) [2, 3, 4, 0] rfl ?_
                      exact ih9 (j + 1) (zup gD ((4 * j) + k) 0) (by omega) hD9 (by omega)
                    · skip
                      refine zz_lconst (a := 1) C dX10_laysColumns_96 (by decide +kernel) ?_
                      refine zz_goto (tgt := 101) C dX10_laysColumns_97 (by decide) ?_
                      have hv9 : 1 = repM (pcol (kT 0) (wE kW) kH) pu (aO (kT 0) kA) k j := by first | (exfalso; omega) | exact lc_put (by omega) (by omega) | exact lc_put0 (by omega) (by omega) | exact lc_in hWz (by omega) (by omega) (by omega) (by omega) | exact lc_one (by omega) (by omega) (by omega) | exact lc_zero (by omega) (by omega) (by omega)
                      have hD9 := lc_step hgD hj.1 (by omega) hv9
                      refine zz_last (ws' := wMod z mh xT xD xP xR xC xW xA xH xU xB xI xN xM xY xK xL xE xS m_ra m_ca m_tp m_fa m_at m_wr m_va m_pl m_st m_lo m_bl m_bc m_fo m_yl m_yw m_nu m_nl m_lu m_ll m_ln kT kD kP kR (zup gD ((4 * j) + k) 1) kW kA kH kU kB kI kN kM kY kK kL kE kS) C 5 rfl (by omega) (by omega) (by decide) rfl dX10_laysColumns_101 ?_
                      refine zz_iinc (ls' := [(3, .int (iI (j + 1))), (4, .int (iI 0)), (0, .ref mh), (1, .int (iI pu)), (2, .int (iI k))]) C 4 dX10_laysColumns_102 rfl (by decide) rfl ?_
                      refine zz_goto (tgt := 9) C dX10_laysColumns_105 (by decide) ?_
                      refine zz_loc (ls' := [(0, .ref mh), (1, .int (iI pu)), (2, .int (iI k)), (3, .int (iI (j + 1)))]) [2, 3, 4, 0] rfl ?_
                      exact ih9 (j + 1) (zup gD ((4 * j) + k) 1) (by omega) hD9 (by omega)
                  · skip
                    refine zz_aload_n C 1 dX10_laysColumns_73 rfl rfl ?_
                    refine zz_get C 0 (ci := 10) (k := 14) rfl rfl in_X10 (by decide) qw_940 rfl rfl dX10_laysColumns_74 ?_
                    refine zz_iconst C dX10_laysColumns_77 ?_
                    refine zz_aload_n C 1 dX10_laysColumns_78 rfl rfl ?_
                    refine zz_get C 0 (ci := 10) (k := 16) rfl rfl in_X10 (by decide) qw_942 rfl rfl dX10_laysColumns_79 ?_
                    have hh9 := hHr k (by omega) (by omega)
                    refine zz_iload_n C 3 dX10_laysColumns_82 rfl rfl ?_
                    refine zz_iald C 8 rfl (by omega) (by omega) (by decide) dX10_laysColumns_83 ?_
                    refine zz_imul C dX10_laysColumns_84 ?_
                    refine zz_iload_n C 4 dX10_laysColumns_85 rfl rfl ?_
                    refine zz_iadd C dX10_laysColumns_86 ?_
                    refine zz_lald C 6 rfl (by omega) (by omega) (by decide) dX10_laysColumns_87 ?_
                    refine zz_goto (tgt := 101) C dX10_laysColumns_88 (by decide) ?_
                    have hv9 : (kW ((4 * (kH k)) + j)) = repM (pcol (kT 0) (wE kW) kH) pu (aO (kT 0) kA) k j := by first | (exfalso; omega) | exact lc_put (by omega) (by omega) | exact lc_put0 (by omega) (by omega) | exact lc_in hWz (by omega) (by omega) (by omega) (by omega) | exact lc_one (by omega) (by omega) (by omega) | exact lc_zero (by omega) (by omega) (by omega)
                    have hD9 := lc_step hgD hj.1 (by omega) hv9
                    refine zz_last (ws' := wMod z mh xT xD xP xR xC xW xA xH xU xB xI xN xM xY xK xL xE xS m_ra m_ca m_tp m_fa m_at m_wr m_va m_pl m_st m_lo m_bl m_bc m_fo m_yl m_yw m_nu m_nl m_lu m_ll m_ln kT kD kP kR (zup gD ((4 * j) + k) (kW ((4 * (kH k)) + j))) kW kA kH kU kB kI kN kM kY kK kL kE kS) C 5 rfl (by omega) (by omega) (by decide) rfl dX10_laysColumns_101 ?_
                    refine zz_iinc (ls' := [(3, .int (iI (j + 1))), (4, .int (iI 0)), (0, .ref mh), (1, .int (iI pu)), (2, .int (iI k))]) C 4 dX10_laysColumns_102 rfl (by decide) rfl ?_
                    refine zz_goto (tgt := 9) C dX10_laysColumns_105 (by decide) ?_
                    refine zz_loc (ls' := [(0, .ref mh), (1, .int (iI pu)), (2, .int (iI k)), (3, .int (iI (j + 1)))]) [2, 3, 4, 0] rfl ?_
                    exact ih9 (j + 1) (zup gD ((4 * j) + k) (kW ((4 * (kH k)) + j))) (by omega) hD9 (by omega)
                · skip
                  refine zz_iload_n C 4 dX10_laysColumns_45 rfl rfl ?_
                  refine zz_aload_n C 1 dX10_laysColumns_46 rfl rfl ?_
                  refine zz_get C 0 (ci := 10) (k := 1) rfl rfl in_X10 (by decide) qw_927 rfl rfl dX10_laysColumns_47 ?_
                  refine zz_iconst C dX10_laysColumns_50 ?_
                  refine zz_iald C 1 rfl (by omega) (by omega) (by decide) dX10_laysColumns_51 ?_
                  refine zz_icmp_ge (tgt := 64) C dX10_laysColumns_52 (by decide) (by unfold rI; omega) (by unfold rI; omega) (fun c52 => ?_) (fun c52 => ?_)
                  · skip
                    refine zz_lconst (a := 0) C dX10_laysColumns_64 (by decide +kernel) ?_
                    refine zz_goto (tgt := 101) C dX10_laysColumns_65 (by decide) ?_
                    have hv9 : 0 = repM (pcol (kT 0) (wE kW) kH) pu (aO (kT 0) kA) k j := by first | (exfalso; omega) | exact lc_put (by omega) (by omega) | exact lc_put0 (by omega) (by omega) | exact lc_in hWz (by omega) (by omega) (by omega) (by omega) | exact lc_one (by omega) (by omega) (by omega) | exact lc_zero (by omega) (by omega) (by omega)
                    have hD9 := lc_step hgD hj.1 (by omega) hv9
                    refine zz_last (ws' := wMod z mh xT xD xP xR xC xW xA xH xU xB xI xN xM xY xK xL xE xS m_ra m_ca m_tp m_fa m_at m_wr m_va m_pl m_st m_lo m_bl m_bc m_fo m_yl m_yw m_nu m_nl m_lu m_ll m_ln kT kD kP kR (zup gD ((4 * j) + k) 0) kW kA kH kU kB kI kN kM kY kK kL kE kS) C 5 rfl (by omega) (by omega) (by decide) rfl dX10_laysColumns_101 ?_
                    refine zz_iinc (ls' := [(3, .int (iI (j + 1))), (4, .int (iI 0)), (0, .ref mh), (1, .int (iI pu)), (2, .int (iI k))]) C 4 dX10_laysColumns_102 rfl (by decide) rfl ?_
                    refine zz_goto (tgt := 9) C dX10_laysColumns_105 (by decide) ?_
                    refine zz_loc (ls' := [(0, .ref mh), (1, .int (iI pu)), (2, .int (iI k)), (3, .int (iI (j + 1)))]) [2, 3, 4, 0] rfl ?_
                    exact ih9 (j + 1) (zup gD ((4 * j) + k) 0) (by omega) hD9 (by omega)
                  · skip
                    refine zz_aload_n C 1 dX10_laysColumns_55 rfl rfl ?_
                    refine zz_get C 0 (ci := 10) (k := 15) rfl rfl in_X10 (by decide) qw_941 rfl rfl dX10_laysColumns_56 ?_
                    refine zz_iload_n C 4 dX10_laysColumns_59 rfl rfl ?_
                    refine zz_lald C 7 rfl (by omega) (by omega) (by decide) dX10_laysColumns_60 ?_
                    refine zz_goto (tgt := 101) C dX10_laysColumns_61 (by decide) ?_
                    have hv9 : (kA j) = repM (pcol (kT 0) (wE kW) kH) pu (aO (kT 0) kA) k j := by first | (exfalso; omega) | exact lc_put (by omega) (by omega) | exact lc_put0 (by omega) (by omega) | exact lc_in hWz (by omega) (by omega) (by omega) (by omega) | exact lc_one (by omega) (by omega) (by omega) | exact lc_zero (by omega) (by omega) (by omega)
                    have hD9 := lc_step hgD hj.1 (by omega) hv9
                    refine zz_last (ws' := wMod z mh xT xD xP xR xC xW xA xH xU xB xI xN xM xY xK xL xE xS m_ra m_ca m_tp m_fa m_at m_wr m_va m_pl m_st m_lo m_bl m_bc m_fo m_yl m_yw m_nu m_nl m_lu m_ll m_ln kT kD kP kR (zup gD ((4 * j) + k) (kA j)) kW kA kH kU kB kI kN kM kY kK kL kE kS) C 5 rfl (by omega) (by omega) (by decide) rfl dX10_laysColumns_101 ?_
                    refine zz_iinc (ls' := [(3, .int (iI (j + 1))), (4, .int (iI 0)), (0, .ref mh), (1, .int (iI pu)), (2, .int (iI k))]) C 4 dX10_laysColumns_102 rfl (by decide) rfl ?_
                    refine zz_goto (tgt := 9) C dX10_laysColumns_105 (by decide) ?_
                    refine zz_loc (ls' := [(0, .ref mh), (1, .int (iI pu)), (2, .int (iI k)), (3, .int (iI (j + 1)))]) [2, 3, 4, 0] rfl ?_
                    exact ih9 (j + 1) (zup gD ((4 * j) + k) (kA j)) (by omega) hD9 (by omega)
              · skip
                refine zz_iconst C dX10_laysColumns_24 ?_
                refine zz_goto (tgt := 29) C dX10_laysColumns_25 (by decide) ?_
                refine zz_istore (ls' := [(4, .int (iI 1)), (0, .ref mh), (1, .int (iI pu)), (2, .int (iI k)), (3, .int (iI j))]) C dX10_laysColumns_29 (by decide) rfl ?_
                refine zz_aload_n C 1 dX10_laysColumns_31 rfl rfl ?_
                refine zz_get C 0 (ci := 10) (k := 13) rfl rfl in_X10 (by decide) qw_939 rfl rfl dX10_laysColumns_32 ?_
                refine zz_iconst C dX10_laysColumns_35 ?_
                refine zz_iload_n C 4 dX10_laysColumns_36 rfl rfl ?_
                refine zz_imul C dX10_laysColumns_37 ?_
                refine zz_iload_n C 3 dX10_laysColumns_38 rfl rfl ?_
                refine zz_iadd C dX10_laysColumns_39 ?_
                refine zz_iload_n C 3 dX10_laysColumns_40 rfl rfl ?_
                refine zz_iload_n C 2 dX10_laysColumns_41 rfl rfl ?_
                refine zz_icmp_ne (tgt := 68) C dX10_laysColumns_42 (by decide) (by unfold rI; omega) (by unfold rI; omega) (fun c42 => ?_) (fun c42 => ?_)
                · skip
                  refine zz_iload C 0 dX10_laysColumns_68 rfl ?_
                  refine zz_if_eq (tgt := 91) C dX10_laysColumns_70 (by decide) (by unfold rI; omega) (fun c70 => ?_) (fun c70 => ?_)
                  · skip
                    refine zz_iload_n C 4 dX10_laysColumns_91 rfl rfl ?_
                    refine zz_iload_n C 3 dX10_laysColumns_92 rfl rfl ?_
                    refine zz_icmp_ne (tgt := 100) C dX10_laysColumns_93 (by decide) (by unfold rI; omega) (by unfold rI; omega) (fun c93 => ?_) (fun c93 => ?_)
                    · skip
                      refine zz_lconst (a := 0) C dX10_laysColumns_100 (by decide +kernel) ?_
                      have hv9 : 0 = repM (pcol (kT 0) (wE kW) kH) pu (aO (kT 0) kA) k j := by first | (exfalso; omega) | exact lc_put (by omega) (by omega) | exact lc_put0 (by omega) (by omega) | exact lc_in hWz (by omega) (by omega) (by omega) (by omega) | exact lc_one (by omega) (by omega) (by omega) | exact lc_zero (by omega) (by omega) (by omega)
                      have hD9 := lc_step hgD hj.1 (by omega) hv9
                      refine zz_last (ws' := wMod z mh xT xD xP xR xC xW xA xH xU xB xI xN xM xY xK xL xE xS m_ra m_ca m_tp m_fa m_at m_wr m_va m_pl m_st m_lo m_bl m_bc m_fo m_yl m_yw m_nu m_nl m_lu m_ll m_ln kT kD kP kR (zup gD ((4 * j) + k) 0) kW kA kH kU kB kI kN kM kY kK kL kE kS) C 5 rfl (by omega) (by omega) (by decide) rfl dX10_laysColumns_101 ?_
                      refine zz_iinc (ls' := [(3, .int (iI (j + 1))), (4, .int (iI 1)), (0, .ref mh), (1, .int (iI pu)), (2, .int (iI k))]) C 4 dX10_laysColumns_102 rfl (by decide) rfl ?_
                      refine zz_goto (tgt := 9) C dX10_laysColumns_105 (by decide) ?_
                      refine zz_loc (ls' := [(0, .ref mh), (1, .int (iI pu)), (2, .int (iI k)), (3, .int (iI (j + 1)))]) [2, 3, 4, 0] rfl ?_
                      exact ih9 (j + 1) (zup gD ((4 * j) + k) 0) (by omega) hD9 (by omega)
                    · skip
                      refine zz_lconst (a := 1) C dX10_laysColumns_96 (by decide +kernel) ?_
                      refine zz_goto (tgt := 101) C dX10_laysColumns_97 (by decide) ?_
                      have hv9 : 1 = repM (pcol (kT 0) (wE kW) kH) pu (aO (kT 0) kA) k j := by first | (exfalso; omega) | exact lc_put (by omega) (by omega) | exact lc_put0 (by omega) (by omega) | exact lc_in hWz (by omega) (by omega) (by omega) (by omega) | exact lc_one (by omega) (by omega) (by omega) | exact lc_zero (by omega) (by omega) (by omega)
                      have hD9 := lc_step hgD hj.1 (by omega) hv9
                      refine zz_last (ws' := wMod z mh xT xD xP xR xC xW xA xH xU xB xI xN xM xY xK xL xE xS m_ra m_ca m_tp m_fa m_at m_wr m_va m_pl m_st m_lo m_bl m_bc m_fo m_yl m_yw m_nu m_nl m_lu m_ll m_ln kT kD kP kR (zup gD ((4 * j) + k) 1) kW kA kH kU kB kI kN kM kY kK kL kE kS) C 5 rfl (by omega) (by omega) (by decide) rfl dX10_laysColumns_101 ?_
                      refine zz_iinc (ls' := [(3, .int (iI (j + 1))), (4, .int (iI 1)), (0, .ref mh), (1, .int (iI pu)), (2, .int (iI k))]) C 4 dX10_laysColumns_102 rfl (by decide) rfl ?_
                      refine zz_goto (tgt := 9) C dX10_laysColumns_105 (by decide) ?_
                      refine zz_loc (ls' := [(0, .ref mh), (1, .int (iI pu)), (2, .int (iI k)), (3, .int (iI (j + 1)))]) [2, 3, 4, 0] rfl ?_
                      exact ih9 (j + 1) (zup gD ((4 * j) + k) 1) (by omega) hD9 (by omega)
                  · skip
                    refine zz_aload_n C 1 dX10_laysColumns_73 rfl rfl ?_
                    refine zz_get C 0 (ci := 10) (k := 14) rfl rfl in_X10 (by decide) qw_940 rfl rfl dX10_laysColumns_74 ?_
                    refine zz_iconst C dX10_laysColumns_77 ?_
                    refine zz_aload_n C 1 dX10_laysColumns_78 rfl rfl ?_
                    refine zz_get C 0 (ci := 10) (k := 16) rfl rfl in_X10 (by decide) qw_942 rfl rfl dX10_laysColumns_79 ?_
                    have hh9 := hHr k (by omega) (by omega)
                    refine zz_iload_n C 3 dX10_laysColumns_82 rfl rfl ?_
                    refine zz_iald C 8 rfl (by omega) (by omega) (by decide) dX10_laysColumns_83 ?_
                    refine zz_imul C dX10_laysColumns_84 ?_
                    refine zz_iload_n C 4 dX10_laysColumns_85 rfl rfl ?_
                    refine zz_iadd C dX10_laysColumns_86 ?_
                    refine zz_lald C 6 rfl (by omega) (by omega) (by decide) dX10_laysColumns_87 ?_
                    refine zz_goto (tgt := 101) C dX10_laysColumns_88 (by decide) ?_
                    have hv9 : (kW ((4 * (kH k)) + j)) = repM (pcol (kT 0) (wE kW) kH) pu (aO (kT 0) kA) k j := by first | (exfalso; omega) | exact lc_put (by omega) (by omega) | exact lc_put0 (by omega) (by omega) | exact lc_in hWz (by omega) (by omega) (by omega) (by omega) | exact lc_one (by omega) (by omega) (by omega) | exact lc_zero (by omega) (by omega) (by omega)
                    have hD9 := lc_step hgD hj.1 (by omega) hv9
                    refine zz_last (ws' := wMod z mh xT xD xP xR xC xW xA xH xU xB xI xN xM xY xK xL xE xS m_ra m_ca m_tp m_fa m_at m_wr m_va m_pl m_st m_lo m_bl m_bc m_fo m_yl m_yw m_nu m_nl m_lu m_ll m_ln kT kD kP kR (zup gD ((4 * j) + k) (kW ((4 * (kH k)) + j))) kW kA kH kU kB kI kN kM kY kK kL kE kS) C 5 rfl (by omega) (by omega) (by decide) rfl dX10_laysColumns_101 ?_
                    refine zz_iinc (ls' := [(3, .int (iI (j + 1))), (4, .int (iI 1)), (0, .ref mh), (1, .int (iI pu)), (2, .int (iI k))]) C 4 dX10_laysColumns_102 rfl (by decide) rfl ?_
                    refine zz_goto (tgt := 9) C dX10_laysColumns_105 (by decide) ?_
                    refine zz_loc (ls' := [(0, .ref mh), (1, .int (iI pu)), (2, .int (iI k)), (3, .int (iI (j + 1)))]) [2, 3, 4, 0] rfl ?_
                    exact ih9 (j + 1) (zup gD ((4 * j) + k) (kW ((4 * (kH k)) + j))) (by omega) hD9 (by omega)
                · skip
                  refine zz_iload_n C 4 dX10_laysColumns_45 rfl rfl ?_
                  refine zz_aload_n C 1 dX10_laysColumns_46 rfl rfl ?_
                  refine zz_get C 0 (ci := 10) (k := 1) rfl rfl in_X10 (by decide) qw_927 rfl rfl dX10_laysColumns_47 ?_
                  refine zz_iconst C dX10_laysColumns_50 ?_
                  refine zz_iald C 1 rfl (by omega) (by omega) (by decide) dX10_laysColumns_51 ?_
                  refine zz_icmp_ge (tgt := 64) C dX10_laysColumns_52 (by decide) (by unfold rI; omega) (by unfold rI; omega) (fun c52 => ?_) (fun c52 => ?_)
                  · skip
                    refine zz_lconst (a := 0) C dX10_laysColumns_64 (by decide +kernel) ?_
                    refine zz_goto (tgt := 101) C dX10_laysColumns_65 (by decide) ?_
                    have hv9 : 0 = repM (pcol (kT 0) (wE kW) kH) pu (aO (kT 0) kA) k j := by first | (exfalso; omega) | exact lc_put (by omega) (by omega) | exact lc_put0 (by omega) (by omega) | exact lc_in hWz (by omega) (by omega) (by omega) (by omega) | exact lc_one (by omega) (by omega) (by omega) | exact lc_zero (by omega) (by omega) (by omega)
                    have hD9 := lc_step hgD hj.1 (by omega) hv9
                    refine zz_last (ws' := wMod z mh xT xD xP xR xC xW xA xH xU xB xI xN xM xY xK xL xE xS m_ra m_ca m_tp m_fa m_at m_wr m_va m_pl m_st m_lo m_bl m_bc m_fo m_yl m_yw m_nu m_nl m_lu m_ll m_ln kT kD kP kR (zup gD ((4 * j) + k) 0) kW kA kH kU kB kI kN kM kY kK kL kE kS) C 5 rfl (by omega) (by omega) (by decide) rfl dX10_laysColumns_101 ?_
                    refine zz_iinc (ls' := [(3, .int (iI (j + 1))), (4, .int (iI 1)), (0, .ref mh), (1, .int (iI pu)), (2, .int (iI k))]) C 4 dX10_laysColumns_102 rfl (by decide) rfl ?_
                    refine zz_goto (tgt := 9) C dX10_laysColumns_105 (by decide) ?_
                    refine zz_loc (ls' := [(0, .ref mh), (1, .int (iI pu)), (2, .int (iI k)), (3, .int (iI (j + 1)))]) [2, 3, 4, 0] rfl ?_
                    exact ih9 (j + 1) (zup gD ((4 * j) + k) 0) (by omega) hD9 (by omega)
                  · skip
                    refine zz_aload_n C 1 dX10_laysColumns_55 rfl rfl ?_
                    refine zz_get C 0 (ci := 10) (k := 15) rfl rfl in_X10 (by decide) qw_941 rfl rfl dX10_laysColumns_56 ?_
                    refine zz_iload_n C 4 dX10_laysColumns_59 rfl rfl ?_
                    refine zz_lald C 7 rfl (by omega) (by omega) (by decide) dX10_laysColumns_60 ?_
                    refine zz_goto (tgt := 101) C dX10_laysColumns_61 (by decide) ?_
                    have hv9 : (kA j) = repM (pcol (kT 0) (wE kW) kH) pu (aO (kT 0) kA) k j := by first | (exfalso; omega) | exact lc_put (by omega) (by omega) | exact lc_put0 (by omega) (by omega) | exact lc_in hWz (by omega) (by omega) (by omega) (by omega) | exact lc_one (by omega) (by omega) (by omega) | exact lc_zero (by omega) (by omega) (by omega)
                    have hD9 := lc_step hgD hj.1 (by omega) hv9
                    refine zz_last (ws' := wMod z mh xT xD xP xR xC xW xA xH xU xB xI xN xM xY xK xL xE xS m_ra m_ca m_tp m_fa m_at m_wr m_va m_pl m_st m_lo m_bl m_bc m_fo m_yl m_yw m_nu m_nl m_lu m_ll m_ln kT kD kP kR (zup gD ((4 * j) + k) (kA j)) kW kA kH kU kB kI kN kM kY kK kL kE kS) C 5 rfl (by omega) (by omega) (by decide) rfl dX10_laysColumns_101 ?_
                    refine zz_iinc (ls' := [(3, .int (iI (j + 1))), (4, .int (iI 1)), (0, .ref mh), (1, .int (iI pu)), (2, .int (iI k))]) C 4 dX10_laysColumns_102 rfl (by decide) rfl ?_
                    refine zz_goto (tgt := 9) C dX10_laysColumns_105 (by decide) ?_
                    refine zz_loc (ls' := [(0, .ref mh), (1, .int (iI pu)), (2, .int (iI k)), (3, .int (iI (j + 1)))]) [2, 3, 4, 0] rfl ?_
                    exact ih9 (j + 1) (zup gD ((4 * j) + k) (kA j)) (by omega) hD9 (by omega)
        refine zz_loc (ls' := [(0, .ref mh), (1, .int (iI pu)), (2, .int (iI k)), (3, .int (iI 0))]) [1, 2, 3, 0] rfl ?_
        exact Lp9 _ 0 gC (by omega) (fun c r h0 h2 h3 h4 => hgC c r h0 (by omega) h2 h3) (Nat.lt_succ_self _)
  refine zz_loc (ls' := [(0, .ref mh), (1, .int (iI pu)), (2, .int (iI 0))]) [1, 2, 0] rfl ?_
  exact Lp2 _ 0 kC (by omega) (fun c r h0 h1 => by omega) (Nat.lt_succ_self _)
abbrev po_X10_solves (z : zC) (mh : Nat) (xT : Nat) (xD : Nat) (xP : Nat) (xR : Nat) (xC : Nat) (xW : Nat) (xA : Nat) (xH : Nat) (xU : Nat) (xB : Nat) (xI : Nat) (xN : Nat) (xM : Nat) (xY : Nat) (xK : Nat) (xL : Nat) (xE : Nat) (xS : Nat) (m_ra : Int) (m_ca : Int) (m_tp : Int) (m_fa : Int) (m_at : Int) (m_wr : Int) (m_va : Int) (m_pl : Int) (m_st : Int) (m_lo : Int) (m_bl : Int) (m_bc : Int) (m_fo : Int) (m_yl : Int) (m_yw : Int) (m_nu : Int) (m_nl : Int) (m_lu : Int) (m_ll : Int) (m_ln : Int) (kT : Int → Int) (kD : Int → Int) (kP : Int → Int) (kR : Int → Int) (kC : Int → Int) (kW : Int → Int) (kA : Int → Int) (kH : Int → Int) (kU : Int → Int) (kB : Int → Int) (kI : Int → Int) (kN : Int → Int) (kM : Int → Int) (kY : Int → Int) (kK : Int → Int) (kL : Int → Int) (kE : Int → Int) (kS : Int → Int) : Option Value → va_W → Prop := fun v w => ∃ (q : Int), ∃ (gC : Int → Int), ∃ (gU : Int → Int), ∃ (gl : Int), ((q = 1 ∧ isSol (kT 0) (wE kW) (fun r => kA (r - 1)) kH gl gU) ∨ (q = 0 ∧ dB (kT 0) (wE kW) kH = 0)) ∧ v = some (Value.int (iI q)) ∧ w = wMod z mh xT xD xP xR xC xW xA xH xU xB xI xN xM xY xK xL xE xS m_ra m_ca m_tp m_fa m_at m_wr m_va m_pl m_st gl m_bl m_bc m_fo m_yl m_yw m_nu m_nl m_lu m_ll m_ln kT kD kP kR gC kW kA kH gU kB kI kN kM kY kK kL kE kS
abbrev rm_X10_solves : Room := { frames := 3, cells := 0, slots := 0, locals := 83 }
set_option maxHeartbeats 4000000 in
set_option maxRecDepth 100000 in
theorem cc_X10_solves (l : Launch) (z : zC) (mh : Nat) (xT : Nat) (xD : Nat) (xP : Nat) (xR : Nat) (xC : Nat) (xW : Nat) (xA : Nat) (xH : Nat) (xU : Nat) (xB : Nat) (xI : Nat) (xN : Nat) (xM : Nat) (xY : Nat) (xK : Nat) (xL : Nat) (xE : Nat) (xS : Nat) (m_ra : Int) (m_ca : Int) (m_tp : Int) (m_fa : Int) (m_at : Int) (m_wr : Int) (m_va : Int) (m_pl : Int) (m_st : Int) (m_lo : Int) (m_bl : Int) (m_bc : Int) (m_fo : Int) (m_yl : Int) (m_yw : Int) (m_nu : Int) (m_nl : Int) (m_lu : Int) (m_ll : Int) (m_ln : Int) (kT : Int → Int) (kD : Int → Int) (kP : Int → Int) (kR : Int → Int) (kC : Int → Int) (kW : Int → Int) (kA : Int → Int) (kH : Int → Int) (kU : Int → Int) (kB : Int → Int) (kI : Int → Int) (kN : Int → Int) (kM : Int → Int) (kY : Int → Int) (kK : Int → Int) (kL : Int → Int) (kE : Int → Int) (kS : Int → Int) (hkT : mOk kT) (hWb : ∀ i r : Int, 0 ≤ i → i < kT 0 → 0 ≤ r → r < kT 0 → -4000 ≤ kW (4 * kH i + r) ∧ kW (4 * kH i + r) ≤ 4000) (hWz : ∀ i r : Int, 0 ≤ i → i < kT 0 → kT 0 ≤ r → r < 4 → kW (4 * kH i + r) = 0) (hHr : ∀ i : Int, 0 ≤ i → i < kT 0 → 0 ≤ kH i ∧ kH i < 10) (hAb : ∀ r : Int, 0 ≤ r → r < kT 0 → -4000 ≤ kA r ∧ kA r ≤ 4000) : zzMet l yX10_solves cX10_solves 4 (Option.some .boolean) rm_X10_solves z [.ref mh] (wMod z mh xT xD xP xR xC xW xA xH xU xB xI xN xM xY xK xL xE xS m_ra m_ca m_tp m_fa m_at m_wr m_va m_pl m_st m_lo m_bl m_bc m_fo m_yl m_yw m_nu m_nl m_lu m_ll m_ln kT kD kP kR kC kW kA kH kU kB kI kN kM kY kK kL kE kS) (po_X10_solves z mh xT xD xP xR xC xW xA xH xU xB xI xN xM xY xK xL xE xS m_ra m_ca m_tp m_fa m_at m_wr m_va m_pl m_st m_lo m_bl m_bc m_fo m_yl m_yw m_nu m_nl m_lu m_ll m_ln kT kD kP kR kC kW kA kH kU kB kI kN kM kY kK kL kE kS) := by
  refine zzMet.of (own := RX10) (ls0 := [(0, .ref mh)]) (by decide) rfl (Nat.le_of_ble_eq_true rfl) rfl ?_
  intro p e s m below meth c A C hr hnm
  have hk0 := hkT.1
  have hk1 := hkT.2.1
  have hb9 := det4_big (rep_big (put := -1) hWb hAb)
  rw [rep_none] at hb9
  obtain ⟨sg, hsg⟩ : ∃ sg : Int, (sg = 1 ∧ 0 ≤ dB (kT 0) (wE kW) kH) ∨ (sg = -1 ∧ dB (kT 0) (wE kW) kH < 0) := by rcases Int.lt_or_le (dB (kT 0) (wE kW) kH) 0 with h | h; exact ⟨-1, Or.inr ⟨rfl, h⟩⟩; exact ⟨1, Or.inl ⟨rfl, h⟩⟩
  refine zz_aload_n C 0 dX10_solves_0 rfl rfl ?_
  refine zz_iconst C dX10_solves_1 ?_
  refine zz_callV (wr := ([] : va_W)) (st := []) C (cc_X10_laysColumns l z mh xT xD xP xR xC xW xA xH xU xB xI xN xM xY xK xL xE xS m_ra m_ca m_tp m_fa m_at m_wr m_va m_pl m_st m_lo m_bl m_bc m_fo m_yl m_yw m_nu m_nl m_lu m_ll m_ln kT kD kP kR kC kW kA kH kU kB kI kN kM kY kK kL kE kS (-1) (by omega) (by omega) (by omega) (by omega)) yk_X10_laysColumns qw_1210 ⟨by decide, by decide⟩ [0, 1, 2, 3, 4, 5, 6, 7, 8, 9, 10, 11, 12, 13, 14, 15, 16, 17, 18] [] rfl rfl rfl rfl (by decide) 0 10 rfl rfl rfl rfl (Nat.le_of_ble_eq_true rfl) dX10_solves_2 ⟨by decide, by decide⟩ ?_
  rintro _ _ ⟨gC_2, hgC_2, rfl, rfl⟩
  refine zz_st (st' := []) rfl (zz_ws (ws' := wMod z mh xT xD xP xR xC xW xA xH xU xB xI xN xM xY xK xL xE xS m_ra m_ca m_tp m_fa m_at m_wr m_va m_pl m_st m_lo m_bl m_bc m_fo m_yl m_yw m_nu m_nl m_lu m_ll m_ln kT kD kP kR gC_2 kW kA kH kU kB kI kN kM kY kK kL kE kS) rfl ?_)
  have hd2 : d4 (cC gC_2 0) (cC gC_2 1) (cC gC_2 2) (cC gC_2 3) = dB (kT 0) (wE kW) kH := by rw [dC_rep hgC_2, rep_none]; rfl
  have hd3 : det4 (pcol (kT 0) (wE kW) kH) = dB (kT 0) (wE kW) kH := rfl
  refine zz_aload_n C 0 dX10_solves_5 rfl rfl ?_
  refine zz_callV (wr := ([] : va_W)) (st := []) C (cc_X10_determinant l z mh xT xD xP xR xC xW xA xH xU xB xI xN xM xY xK xL xE xS m_ra m_ca m_tp m_fa m_at m_wr m_va m_pl m_st m_lo m_bl m_bc m_fo m_yl m_yw m_nu m_nl m_lu m_ll m_ln kT kD kP kR gC_2 kW kA kH kU kB kI kN kM kY kK kL kE kS ) yk_X10_determinant qw_1214 ⟨by decide, by decide⟩ [0, 1, 2, 3, 4, 5, 6, 7, 8, 9, 10, 11, 12, 13, 14, 15, 16, 17, 18] [] rfl rfl rfl rfl (by decide) 0 10 rfl rfl rfl rfl (Nat.le_of_ble_eq_true rfl) dX10_solves_6 ⟨by decide, by decide⟩ ?_
  rintro _ _ ⟨rfl, rfl⟩
  refine zz_st (st' := [.long (iL (d4 (cC gC_2 0) (cC gC_2 1) (cC gC_2 2) (cC gC_2 3)))]) rfl (zz_ws (ws' := wMod z mh xT xD xP xR xC xW xA xH xU xB xI xN xM xY xK xL xE xS m_ra m_ca m_tp m_fa m_at m_wr m_va m_pl m_st m_lo m_bl m_bc m_fo m_yl m_yw m_nu m_nl m_lu m_ll m_ln kT kD kP kR gC_2 kW kA kH kU kB kI kN kM kY kK kL kE kS) rfl ?_)
  refine zz_lstore_n (ls' := [(1, .long (iL (d4 (cC gC_2 0) (cC gC_2 1) (cC gC_2 2) (cC gC_2 3)))), (0, .ref mh)]) C dX10_solves_9 rfl (by decide) rfl ?_
  refine zz_lload_n C 0 dX10_solves_10 rfl rfl ?_
  refine zz_lconst (a := 0) C dX10_solves_11 (by decide +kernel) ?_
  refine zz_lcmp_ne (tgt := 18) C dX10_solves_12 dX10_solves_13 (by decide) (by unfold rL; omega) (by unfold rL; omega) (fun c12 => ?_) (fun c12 => ?_)
  · skip
    refine zz_iconst C dX10_solves_18 ?_
    refine zz_istore_n (ls' := [(3, .int (iI 0)), (1, .long (iL (d4 (cC gC_2 0) (cC gC_2 1) (cC gC_2 2) (cC gC_2 3)))), (0, .ref mh)]) C dX10_solves_19 rfl (by decide) rfl ?_
    have Lp20 : ∀ (fu9 : Nat) (k : Int) (gC : Int → Int) (gU : Int → Int), (0 ≤ k ∧ k ≤ kT 0) → (∀ i : Int, 0 ≤ i → i < k → gU i = sg * det4 (repM (pcol (kT 0) (wE kW) kH) i (aO (kT 0) kA))) → (kT 0 - k).toNat < fu9 → zzW p l e rm_X10_solves s m ([.ref mh] : List Value).toArray below meth c z A 4 (MQ below (zQ z A (po_X10_solves z mh xT xD xP xR xC xW xA xH xU xB xI xN xM xY xK xL xE xS m_ra m_ca m_tp m_fa m_at m_wr m_va m_pl m_st m_lo m_bl m_bc m_fo m_yl m_yw m_nu m_nl m_lu m_ll m_ln kT kD kP kR kC kW kA kH kU kB kI kN kM kY kK kL kE kS)) ([.ref mh] : List Value).toArray s 0 0 A) 0 0 (wMod z mh xT xD xP xR xC xW xA xH xU xB xI xN xM xY xK xL xE xS m_ra m_ca m_tp m_fa m_at m_wr m_va m_pl m_st m_lo m_bl m_bc m_fo m_yl m_yw m_nu m_nl m_lu m_ll m_ln kT kD kP kR gC kW kA kH gU kB kI kN kM kY kK kL kE kS) [(0, .ref mh), (1, .long (iL (d4 (cC gC_2 0) (cC gC_2 1) (cC gC_2 2) (cC gC_2 3)))), (3, .int (iI k))] [] 20 := by
      intro fu9
      induction fu9 with
      | zero => intro k gC gU hk hU h9; exact absurd h9 (Nat.not_lt_zero _)
      | succ fu9 ih20 =>
        intro k gC gU hk hU hm20
        refine zz_iload_n C 2 dX10_solves_20 rfl rfl ?_
        refine zz_aload_n C 0 dX10_solves_21 rfl rfl ?_
        refine zz_get C 0 (ci := 10) (k := 1) rfl rfl in_X10 (by decide) qw_927 rfl rfl dX10_solves_22 ?_
        refine zz_iconst C dX10_solves_25 ?_
        refine zz_iald C 1 rfl (by omega) (by omega) (by decide) dX10_solves_26 ?_
        refine zz_icmp_ge (tgt := 65) C dX10_solves_27 (by decide) (by unfold rI; omega) (by unfold rI; omega) (fun c27 => ?_) (fun c27 => ?_)
        · skip
          refine zz_aload_n C 0 dX10_solves_65 rfl rfl ?_
          refine zz_lload_n C 1 dX10_solves_66 rfl rfl ?_
          refine zz_lconst (a := 0) C dX10_solves_67 (by decide +kernel) ?_
          refine zz_lcmp_ge (tgt := 77) C dX10_solves_68 dX10_solves_69 (by decide) (by unfold rL; omega) (by unfold rL; omega) (fun c68 => ?_) (fun c68 => ?_)
          · skip
            refine zz_lload_n C 1 dX10_solves_77 rfl rfl ?_
            have hl9 : (d4 (cC gC_2 0) (cC gC_2 1) (cC gC_2 2) (cC gC_2 3)) = sg * dB (kT 0) (wE kW) kH := by rcases hsg with ⟨hs1, hs2⟩ | ⟨hs1, hs2⟩ <;> rw [hs1] <;> omega
            refine zz_put (ty := .long) (ws' := wMod z mh xT xD xP xR xC xW xA xH xU xB xI xN xM xY xK xL xE xS m_ra m_ca m_tp m_fa m_at m_wr m_va m_pl m_st (d4 (cC gC_2 0) (cC gC_2 1) (cC gC_2 2) (cC gC_2 3)) m_bl m_bc m_fo m_yl m_yw m_nu m_nl m_lu m_ll m_ln kT kD kP kR gC kW kA kH gU kB kI kN kM kY kK kL kE kS) C 0 (ci := 10) (k := 18) rfl rfl in_X10 tyX10 tyX10_ok nmX10 (by decide) qw_944 rfl rfl (by decide +kernel) rfl rfl (Nat.le_of_ble_eq_true rfl) rfl dX10_solves_78 ?_
            refine zz_iconst C dX10_solves_81 ?_
            exact zz_zret C hr (by decide +kernel) dX10_solves_82 ⟨1, _, _, _, Or.inl ⟨rfl, sol_of hk0.1 hk0.2 hWb hAb rfl (by omega) hsg hl9 (fun i h0 h1 => hU i h0 (by omega))⟩, rfl, rfl⟩
          · skip
            refine zz_lload_n C 1 dX10_solves_72 rfl rfl ?_
            refine zz_lneg C dX10_solves_73 ?_
            refine zz_goto (tgt := 78) C dX10_solves_74 (by decide) ?_
            have hl9 : (-(d4 (cC gC_2 0) (cC gC_2 1) (cC gC_2 2) (cC gC_2 3))) = sg * dB (kT 0) (wE kW) kH := by rcases hsg with ⟨hs1, hs2⟩ | ⟨hs1, hs2⟩ <;> rw [hs1] <;> omega
            refine zz_put (ty := .long) (ws' := wMod z mh xT xD xP xR xC xW xA xH xU xB xI xN xM xY xK xL xE xS m_ra m_ca m_tp m_fa m_at m_wr m_va m_pl m_st (-(d4 (cC gC_2 0) (cC gC_2 1) (cC gC_2 2) (cC gC_2 3))) m_bl m_bc m_fo m_yl m_yw m_nu m_nl m_lu m_ll m_ln kT kD kP kR gC kW kA kH gU kB kI kN kM kY kK kL kE kS) C 0 (ci := 10) (k := 18) rfl rfl in_X10 tyX10 tyX10_ok nmX10 (by decide) qw_944 rfl rfl (by decide +kernel) rfl rfl (Nat.le_of_ble_eq_true rfl) rfl dX10_solves_78 ?_
            refine zz_iconst C dX10_solves_81 ?_
            exact zz_zret C hr (by decide +kernel) dX10_solves_82 ⟨1, _, _, _, Or.inl ⟨rfl, sol_of hk0.1 hk0.2 hWb hAb rfl (by omega) hsg hl9 (fun i h0 h1 => hU i h0 (by omega))⟩, rfl, rfl⟩
        · skip
          refine zz_aload_n C 0 dX10_solves_30 rfl rfl ?_
          refine zz_iload_n C 2 dX10_solves_31 rfl rfl ?_
          refine zz_callV (wr := ([] : va_W)) (st := []) C (cc_X10_laysColumns l z mh xT xD xP xR xC xW xA xH xU xB xI xN xM xY xK xL xE xS m_ra m_ca m_tp m_fa m_at m_wr m_va m_pl m_st m_lo m_bl m_bc m_fo m_yl m_yw m_nu m_nl m_lu m_ll m_ln kT kD kP kR gC kW kA kH gU kB kI kN kM kY kK kL kE kS k (by omega) (by omega) (by omega) (by omega)) yk_X10_laysColumns qw_1210 ⟨by decide, by decide⟩ [0, 1, 2, 3, 4, 5, 6, 7, 8, 9, 10, 11, 12, 13, 14, 15, 16, 17, 18] [] rfl rfl rfl rfl (by decide) 0 10 rfl rfl rfl rfl (Nat.le_of_ble_eq_true rfl) dX10_solves_32 ⟨by decide, by decide⟩ ?_
          rintro _ _ ⟨gC_32, hgC_32, rfl, rfl⟩
          refine zz_st (st' := []) rfl (zz_ws (ws' := wMod z mh xT xD xP xR xC xW xA xH xU xB xI xN xM xY xK xL xE xS m_ra m_ca m_tp m_fa m_at m_wr m_va m_pl m_st m_lo m_bl m_bc m_fo m_yl m_yw m_nu m_nl m_lu m_ll m_ln kT kD kP kR gC_32 kW kA kH gU kB kI kN kM kY kK kL kE kS) rfl ?_)
          have hd9 := dC_rep hgC_32
          refine zz_aload_n C 0 dX10_solves_35 rfl rfl ?_
          refine zz_get C 0 (ci := 10) (k := 17) rfl rfl in_X10 (by decide) qw_943 rfl rfl dX10_solves_36 ?_
          refine zz_iload_n C 2 dX10_solves_39 rfl rfl ?_
          refine zz_lload_n C 1 dX10_solves_40 rfl rfl ?_
          refine zz_lconst (a := 0) C dX10_solves_41 (by decide +kernel) ?_
          refine zz_lcmp_ge (tgt := 54) C dX10_solves_42 dX10_solves_43 (by decide) (by unfold rL; omega) (by unfold rL; omega) (fun c42 => ?_) (fun c42 => ?_)
          · skip
            refine zz_aload_n C 0 dX10_solves_54 rfl rfl ?_
            refine zz_callV (wr := ([] : va_W)) (st := [.int (iI k), .ref xU]) C (cc_X10_determinant l z mh xT xD xP xR xC xW xA xH xU xB xI xN xM xY xK xL xE xS m_ra m_ca m_tp m_fa m_at m_wr m_va m_pl m_st m_lo m_bl m_bc m_fo m_yl m_yw m_nu m_nl m_lu m_ll m_ln kT kD kP kR gC_32 kW kA kH gU kB kI kN kM kY kK kL kE kS ) yk_X10_determinant qw_1214 ⟨by decide, by decide⟩ [0, 1, 2, 3, 4, 5, 6, 7, 8, 9, 10, 11, 12, 13, 14, 15, 16, 17, 18] [] rfl rfl rfl rfl (by decide) 0 10 rfl rfl rfl rfl (Nat.le_of_ble_eq_true rfl) dX10_solves_55 ⟨by decide, by decide⟩ ?_
            rintro _ _ ⟨rfl, rfl⟩
            refine zz_st (st' := [.long (iL (d4 (cC gC_32 0) (cC gC_32 1) (cC gC_32 2) (cC gC_32 3))), .int (iI k), .ref xU]) rfl (zz_ws (ws' := wMod z mh xT xD xP xR xC xW xA xH xU xB xI xN xM xY xK xL xE xS m_ra m_ca m_tp m_fa m_at m_wr m_va m_pl m_st m_lo m_bl m_bc m_fo m_yl m_yw m_nu m_nl m_lu m_ll m_ln kT kD kP kR gC_32 kW kA kH gU kB kI kN kM kY kK kL kE kS) rfl ?_)
            have hv9 : (d4 (cC gC_32 0) (cC gC_32 1) (cC gC_32 2) (cC gC_32 3)) = sg * det4 (repM (pcol (kT 0) (wE kW) kH) k (aO (kT 0) kA)) := by rw [hd9]; rcases hsg with ⟨hs1, hs2⟩ | ⟨hs1, hs2⟩ <;> rw [hs1] <;> omega
            refine zz_last (ws' := wMod z mh xT xD xP xR xC xW xA xH xU xB xI xN xM xY xK xL xE xS m_ra m_ca m_tp m_fa m_at m_wr m_va m_pl m_st m_lo m_bl m_bc m_fo m_yl m_yw m_nu m_nl m_lu m_ll m_ln kT kD kP kR gC_32 kW kA kH (zup gU k (d4 (cC gC_32 0) (cC gC_32 1) (cC gC_32 2) (cC gC_32 3))) kB kI kN kM kY kK kL kE kS) C 9 rfl (by omega) (by omega) (by decide) rfl dX10_solves_58 ?_
            refine zz_iinc (ls' := [(3, .int (iI (k + 1))), (0, .ref mh), (1, .long (iL (d4 (cC gC_2 0) (cC gC_2 1) (cC gC_2 2) (cC gC_2 3))))]) C 2 dX10_solves_59 rfl (by decide) rfl ?_
            refine zz_goto (tgt := 20) C dX10_solves_62 (by decide) ?_
            refine zz_loc (ls' := [(0, .ref mh), (1, .long (iL (d4 (cC gC_2 0) (cC gC_2 1) (cC gC_2 2) (cC gC_2 3)))), (3, .int (iI (k + 1)))]) [1, 2, 0] rfl ?_
            exact ih20 (k + 1) gC_32 (zup gU k (d4 (cC gC_32 0) (cC gC_32 1) (cC gC_32 2) (cC gC_32 3))) (by omega) (solv_step (T := 4) hU hv9 (by omega)) (by omega)
          · skip
            refine zz_aload_n C 0 dX10_solves_46 rfl rfl ?_
            refine zz_callV (wr := ([] : va_W)) (st := [.int (iI k), .ref xU]) C (cc_X10_determinant l z mh xT xD xP xR xC xW xA xH xU xB xI xN xM xY xK xL xE xS m_ra m_ca m_tp m_fa m_at m_wr m_va m_pl m_st m_lo m_bl m_bc m_fo m_yl m_yw m_nu m_nl m_lu m_ll m_ln kT kD kP kR gC_32 kW kA kH gU kB kI kN kM kY kK kL kE kS ) yk_X10_determinant qw_1214 ⟨by decide, by decide⟩ [0, 1, 2, 3, 4, 5, 6, 7, 8, 9, 10, 11, 12, 13, 14, 15, 16, 17, 18] [] rfl rfl rfl rfl (by decide) 0 10 rfl rfl rfl rfl (Nat.le_of_ble_eq_true rfl) dX10_solves_47 ⟨by decide, by decide⟩ ?_
            rintro _ _ ⟨rfl, rfl⟩
            refine zz_st (st' := [.long (iL (d4 (cC gC_32 0) (cC gC_32 1) (cC gC_32 2) (cC gC_32 3))), .int (iI k), .ref xU]) rfl (zz_ws (ws' := wMod z mh xT xD xP xR xC xW xA xH xU xB xI xN xM xY xK xL xE xS m_ra m_ca m_tp m_fa m_at m_wr m_va m_pl m_st m_lo m_bl m_bc m_fo m_yl m_yw m_nu m_nl m_lu m_ll m_ln kT kD kP kR gC_32 kW kA kH gU kB kI kN kM kY kK kL kE kS) rfl ?_)
            refine zz_lneg C dX10_solves_50 ?_
            refine zz_goto (tgt := 58) C dX10_solves_51 (by decide) ?_
            have hv9 : (-(d4 (cC gC_32 0) (cC gC_32 1) (cC gC_32 2) (cC gC_32 3))) = sg * det4 (repM (pcol (kT 0) (wE kW) kH) k (aO (kT 0) kA)) := by rw [hd9]; rcases hsg with ⟨hs1, hs2⟩ | ⟨hs1, hs2⟩ <;> rw [hs1] <;> omega
            refine zz_last (ws' := wMod z mh xT xD xP xR xC xW xA xH xU xB xI xN xM xY xK xL xE xS m_ra m_ca m_tp m_fa m_at m_wr m_va m_pl m_st m_lo m_bl m_bc m_fo m_yl m_yw m_nu m_nl m_lu m_ll m_ln kT kD kP kR gC_32 kW kA kH (zup gU k (-(d4 (cC gC_32 0) (cC gC_32 1) (cC gC_32 2) (cC gC_32 3)))) kB kI kN kM kY kK kL kE kS) C 9 rfl (by omega) (by omega) (by decide) rfl dX10_solves_58 ?_
            refine zz_iinc (ls' := [(3, .int (iI (k + 1))), (0, .ref mh), (1, .long (iL (d4 (cC gC_2 0) (cC gC_2 1) (cC gC_2 2) (cC gC_2 3))))]) C 2 dX10_solves_59 rfl (by decide) rfl ?_
            refine zz_goto (tgt := 20) C dX10_solves_62 (by decide) ?_
            refine zz_loc (ls' := [(0, .ref mh), (1, .long (iL (d4 (cC gC_2 0) (cC gC_2 1) (cC gC_2 2) (cC gC_2 3)))), (3, .int (iI (k + 1)))]) [1, 2, 0] rfl ?_
            exact ih20 (k + 1) gC_32 (zup gU k (-(d4 (cC gC_32 0) (cC gC_32 1) (cC gC_32 2) (cC gC_32 3)))) (by omega) (solv_step (T := 4) hU hv9 (by omega)) (by omega)
    refine zz_loc (ls' := [(0, .ref mh), (1, .long (iL (d4 (cC gC_2 0) (cC gC_2 1) (cC gC_2 2) (cC gC_2 3)))), (3, .int (iI 0))]) [2, 1, 0] rfl ?_
    exact Lp20 _ 0 gC_2 kU (by omega) (fun i h0 h1 => by omega) (Nat.lt_succ_self _)
  · skip
    refine zz_iconst C dX10_solves_16 ?_
    exact zz_zret C hr (by decide +kernel) dX10_solves_17 ⟨0, _, _, _, Or.inr ⟨rfl, by omega⟩, rfl, rfl⟩
abbrev po_X10_priceOf (z : zC) (mh : Nat) (xT : Nat) (xD : Nat) (xP : Nat) (xR : Nat) (xC : Nat) (xW : Nat) (xA : Nat) (xH : Nat) (xU : Nat) (xB : Nat) (xI : Nat) (xN : Nat) (xM : Nat) (xY : Nat) (xK : Nat) (xL : Nat) (xE : Nat) (xS : Nat) (m_ra : Int) (m_ca : Int) (m_tp : Int) (m_fa : Int) (m_at : Int) (m_wr : Int) (m_va : Int) (m_pl : Int) (m_st : Int) (m_lo : Int) (m_bl : Int) (m_bc : Int) (m_fo : Int) (m_yl : Int) (m_yw : Int) (m_nu : Int) (m_nl : Int) (m_lu : Int) (m_ll : Int) (m_ln : Int) (kT : Int → Int) (kD : Int → Int) (kP : Int → Int) (kR : Int → Int) (kC : Int → Int) (kW : Int → Int) (kA : Int → Int) (kH : Int → Int) (kU : Int → Int) (kB : Int → Int) (kI : Int → Int) (kN : Int → Int) (kM : Int → Int) (kY : Int → Int) (kK : Int → Int) (kL : Int → Int) (kE : Int → Int) (kS : Int → Int) (c9 : Int) : Option Value → va_W → Prop := fun v w => v = some (Value.long (iL (mP kT c9))) ∧ w = wMod z mh xT xD xP xR xC xW xA xH xU xB xI xN xM xY xK xL xE xS m_ra m_ca m_tp m_fa m_at m_wr m_va m_pl m_st m_lo m_bl m_bc m_fo m_yl m_yw m_nu m_nl m_lu m_ll m_ln kT kD kP kR kC kW kA kH kU kB kI kN kM kY kK kL kE kS
abbrev rm_X10_priceOf : Room := { frames := 1, cells := 0, slots := 0, locals := 40 }
set_option maxHeartbeats 4000000 in
set_option maxRecDepth 100000 in
theorem cc_X10_priceOf (l : Launch) (z : zC) (mh : Nat) (xT : Nat) (xD : Nat) (xP : Nat) (xR : Nat) (xC : Nat) (xW : Nat) (xA : Nat) (xH : Nat) (xU : Nat) (xB : Nat) (xI : Nat) (xN : Nat) (xM : Nat) (xY : Nat) (xK : Nat) (xL : Nat) (xE : Nat) (xS : Nat) (m_ra : Int) (m_ca : Int) (m_tp : Int) (m_fa : Int) (m_at : Int) (m_wr : Int) (m_va : Int) (m_pl : Int) (m_st : Int) (m_lo : Int) (m_bl : Int) (m_bc : Int) (m_fo : Int) (m_yl : Int) (m_yw : Int) (m_nu : Int) (m_nl : Int) (m_lu : Int) (m_ll : Int) (m_ln : Int) (kT : Int → Int) (kD : Int → Int) (kP : Int → Int) (kR : Int → Int) (kC : Int → Int) (kW : Int → Int) (kA : Int → Int) (kH : Int → Int) (kU : Int → Int) (kB : Int → Int) (kI : Int → Int) (kN : Int → Int) (kM : Int → Int) (kY : Int → Int) (kK : Int → Int) (kL : Int → Int) (kE : Int → Int) (kS : Int → Int) (c9 : Int) (hkT : mOk kT) (hc9 : 0 ≤ c9 ∧ c9 < 10) : zzMet l yX10_priceOf cX10_priceOf 2 (Option.some .long) rm_X10_priceOf z [.ref mh, .int (iI c9)] (wMod z mh xT xD xP xR xC xW xA xH xU xB xI xN xM xY xK xL xE xS m_ra m_ca m_tp m_fa m_at m_wr m_va m_pl m_st m_lo m_bl m_bc m_fo m_yl m_yw m_nu m_nl m_lu m_ll m_ln kT kD kP kR kC kW kA kH kU kB kI kN kM kY kK kL kE kS) (po_X10_priceOf z mh xT xD xP xR xC xW xA xH xU xB xI xN xM xY xK xL xE xS m_ra m_ca m_tp m_fa m_at m_wr m_va m_pl m_st m_lo m_bl m_bc m_fo m_yl m_yw m_nu m_nl m_lu m_ll m_ln kT kD kP kR kC kW kA kH kU kB kI kN kM kY kK kL kE kS c9) := by
  refine zzMet.of (own := RX10) (ls0 := [(0, .ref mh), (1, .int (iI c9))]) (by decide) rfl (Nat.le_of_ble_eq_true rfl) rfl ?_
  intro p e s m below meth c A C hr hnm
  have hk0 := hkT.1
  have hk1 := hkT.2.1
  refine zz_iload_n C 1 dX10_priceOf_0 rfl rfl ?_
  refine zz_aload_n C 0 dX10_priceOf_1 rfl rfl ?_
  refine zz_get C 0 (ci := 10) (k := 1) rfl rfl in_X10 (by decide) qw_927 rfl rfl dX10_priceOf_2 ?_
  refine zz_iconst C dX10_priceOf_5 ?_
  refine zz_iald C 1 rfl (by omega) (by omega) (by decide) dX10_priceOf_6 ?_
  refine zz_icmp_ge (tgt := 23) C dX10_priceOf_7 (by decide) (by unfold rI; omega) (by unfold rI; omega) (fun c7 => ?_) (fun c7 => ?_)
  · skip
    refine zz_iload_n C 1 dX10_priceOf_23 rfl rfl ?_
    refine zz_aload_n C 0 dX10_priceOf_24 rfl rfl ?_
    refine zz_get C 0 (ci := 10) (k := 1) rfl rfl in_X10 (by decide) qw_927 rfl rfl dX10_priceOf_25 ?_
    refine zz_iconst C dX10_priceOf_28 ?_
    refine zz_iald C 1 rfl (by omega) (by omega) (by decide) dX10_priceOf_29 ?_
    refine zz_icmp_ne (tgt := 37) C dX10_priceOf_30 (by decide) (by unfold rI; omega) (by unfold rI; omega) (fun c30 => ?_) (fun c30 => ?_)
    · skip
      refine zz_lconst (a := 0) C dX10_priceOf_37 (by decide +kernel) ?_
      exact zz_lret C hr dX10_priceOf_38 ⟨zz_vL (by unfold mP; (repeat' split) <;> first | rfl | (exfalso; omega)), rfl⟩
    · skip
      refine zz_lconst (a := 1) C dX10_priceOf_33 (by decide +kernel) ?_
      refine zz_goto (tgt := 38) C dX10_priceOf_34 (by decide) ?_
      exact zz_lret C hr dX10_priceOf_38 ⟨zz_vL (by unfold mP; (repeat' split) <;> first | rfl | (exfalso; omega)), rfl⟩
  · skip
    refine zz_aload_n C 0 dX10_priceOf_10 rfl rfl ?_
    refine zz_get C 0 (ci := 10) (k := 1) rfl rfl in_X10 (by decide) qw_927 rfl rfl dX10_priceOf_11 ?_
    refine zz_bipush C dX10_priceOf_14 (by decide +kernel) ?_
    refine zz_iload_n C 1 dX10_priceOf_16 rfl rfl ?_
    refine zz_iadd C dX10_priceOf_17 ?_
    have hr18 := hkT.2.2 (27 + c9) (by omega) (by omega)
    refine zz_iald C 1 rfl (by omega) (by omega) (by decide) dX10_priceOf_18 ?_
    refine zz_i2l C dX10_priceOf_19 (by unfold rI; omega) ?_
    refine zz_goto (tgt := 38) C dX10_priceOf_20 (by decide) ?_
    exact zz_lret C hr dX10_priceOf_38 ⟨zz_vL (by unfold mP; (repeat' split) <;> first | rfl | (exfalso; omega)), rfl⟩
abbrev po_X10_tries (z : zC) (mh : Nat) (xT : Nat) (xD : Nat) (xP : Nat) (xR : Nat) (xC : Nat) (xW : Nat) (xA : Nat) (xH : Nat) (xU : Nat) (xB : Nat) (xI : Nat) (xN : Nat) (xM : Nat) (xY : Nat) (xK : Nat) (xL : Nat) (xE : Nat) (xS : Nat) (m_ra : Int) (m_ca : Int) (m_tp : Int) (m_fa : Int) (m_at : Int) (m_wr : Int) (m_va : Int) (m_pl : Int) (m_st : Int) (m_lo : Int) (m_bl : Int) (m_bc : Int) (m_fo : Int) (m_yl : Int) (m_yw : Int) (m_nu : Int) (m_nl : Int) (m_lu : Int) (m_ll : Int) (m_ln : Int) (kT : Int → Int) (kD : Int → Int) (kP : Int → Int) (kR : Int → Int) (kC : Int → Int) (kW : Int → Int) (kA : Int → Int) (kH : Int → Int) (kU : Int → Int) (kB : Int → Int) (kI : Int → Int) (kN : Int → Int) (kM : Int → Int) (kY : Int → Int) (kK : Int → Int) (kL : Int → Int) (kE : Int → Int) (kS : Int → Int) : Option Value → va_W → Prop := fun v w => ∃ (gC : Int → Int), ∃ (gU : Int → Int), ∃ (gl : Int), ∃ (gI : Int → Int), ∃ (go : Int), ∃ (gb : Int), ∃ (gc : Int), ∃ (gB : Int → Int), (tmP (kT 0) (kT 1 + kT 0 + 1) (kT 1) (wE kW) (fun r => kA (r - 1)) (mP kT) kH m_fo m_bl m_bc kB go gb gc gB) ∧ v = none ∧ w = wMod z mh xT xD xP xR xC xW xA xH xU xB xI xN xM xY xK xL xE xS m_ra m_ca m_tp m_fa m_at m_wr m_va m_pl m_st gl gb gc go m_yl m_yw m_nu m_nl m_lu m_ll m_ln kT kD kP kR gC kW kA kH gU gB gI kN kM kY kK kL kE kS
abbrev rm_X10_tries : Room := { frames := 4, cells := 0, slots := 0, locals := 106 }
set_option maxHeartbeats 4000000 in
set_option maxRecDepth 100000 in
theorem cc_X10_tries (l : Launch) (z : zC) (mh : Nat) (xT : Nat) (xD : Nat) (xP : Nat) (xR : Nat) (xC : Nat) (xW : Nat) (xA : Nat) (xH : Nat) (xU : Nat) (xB : Nat) (xI : Nat) (xN : Nat) (xM : Nat) (xY : Nat) (xK : Nat) (xL : Nat) (xE : Nat) (xS : Nat) (m_ra : Int) (m_ca : Int) (m_tp : Int) (m_fa : Int) (m_at : Int) (m_wr : Int) (m_va : Int) (m_pl : Int) (m_st : Int) (m_lo : Int) (m_bl : Int) (m_bc : Int) (m_fo : Int) (m_yl : Int) (m_yw : Int) (m_nu : Int) (m_nl : Int) (m_lu : Int) (m_ll : Int) (m_ln : Int) (kT : Int → Int) (kD : Int → Int) (kP : Int → Int) (kR : Int → Int) (kC : Int → Int) (kW : Int → Int) (kA : Int → Int) (kH : Int → Int) (kU : Int → Int) (kB : Int → Int) (kI : Int → Int) (kN : Int → Int) (kM : Int → Int) (kY : Int → Int) (kK : Int → Int) (kL : Int → Int) (kE : Int → Int) (kS : Int → Int) (hkT : mOk kT) (hWb : ∀ i r : Int, 0 ≤ i → i < kT 0 → 0 ≤ r → r < kT 0 → -4000 ≤ kW (4 * kH i + r) ∧ kW (4 * kH i + r) ≤ 4000) (hWz : ∀ i r : Int, 0 ≤ i → i < kT 0 → kT 0 ≤ r → r < 4 → kW (4 * kH i + r) = 0) (hAb : ∀ r : Int, 0 ≤ r → r < kT 0 → -4000 ≤ kA r ∧ kA r ≤ 4000) (hin : inB (kT 0) (kT 1 + kT 0 + 1) kH) (hfn : mFnd (kT 1 + kT 0 + 1) (mP kT) m_fo m_bl m_bc kB) : zzMet l yX10_tries cX10_tries 5 none rm_X10_tries z [.ref mh] (wMod z mh xT xD xP xR xC xW xA xH xU xB xI xN xM xY xK xL xE xS m_ra m_ca m_tp m_fa m_at m_wr m_va m_pl m_st m_lo m_bl m_bc m_fo m_yl m_yw m_nu m_nl m_lu m_ll m_ln kT kD kP kR kC kW kA kH kU kB kI kN kM kY kK kL kE kS) (po_X10_tries z mh xT xD xP xR xC xW xA xH xU xB xI xN xM xY xK xL xE xS m_ra m_ca m_tp m_fa m_at m_wr m_va m_pl m_st m_lo m_bl m_bc m_fo m_yl m_yw m_nu m_nl m_lu m_ll m_ln kT kD kP kR kC kW kA kH kU kB kI kN kM kY kK kL kE kS) := by
  refine zzMet.of (own := RX10) (ls0 := [(0, .ref mh)]) (by decide) rfl (Nat.le_of_ble_eq_true rfl) rfl ?_
  intro p e s m below meth c A C hr hnm
  have hk0 := hkT.1
  have hk1 := hkT.2.1
  have hHr : ∀ i : Int, 0 ≤ i → i < kT 0 → 0 ≤ kH i ∧ kH i < 10 := fun i a b => by have := hin i a b; omega
  obtain ⟨hfo, hfv⟩ := hfn
  refine zz_aload_n C 0 dX10_tries_0 rfl rfl ?_
  refine zz_callV (wr := ([] : va_W)) (st := []) C (cc_X10_solves l z mh xT xD xP xR xC xW xA xH xU xB xI xN xM xY xK xL xE xS m_ra m_ca m_tp m_fa m_at m_wr m_va m_pl m_st m_lo m_bl m_bc m_fo m_yl m_yw m_nu m_nl m_lu m_ll m_ln kT kD kP kR kC kW kA kH kU kB kI kN kM kY kK kL kE kS (by omega) (by omega) (by omega) hHr (by omega)) yk_X10_solves qw_1206 ⟨by decide, by decide⟩ [0, 1, 2, 3, 4, 5, 6, 7, 8, 9, 10, 11, 12, 13, 14, 15, 16, 17, 18] [] rfl rfl rfl rfl (by decide) 0 10 rfl rfl rfl rfl (Nat.le_of_ble_eq_true rfl) dX10_tries_1 ⟨by decide, by decide⟩ ?_
  rintro _ _ ⟨q_1, gC_1, gU_1, gl_1, hq_1, rfl, rfl⟩
  refine zz_st (st' := [.int (iI q_1)]) rfl (zz_ws (ws' := wMod z mh xT xD xP xR xC xW xA xH xU xB xI xN xM xY xK xL xE xS m_ra m_ca m_tp m_fa m_at m_wr m_va m_pl m_st gl_1 m_bl m_bc m_fo m_yl m_yw m_nu m_nl m_lu m_ll m_ln kT kD kP kR gC_1 kW kA kH gU_1 kB kI kN kM kY kK kL kE kS) rfl ?_)
  refine zz_if_ne (tgt := 8) C dX10_tries_4 (by decide) (by unfold rI; omega) (fun c4 => ?_) (fun c4 => ?_)
  · skip
    have hsl := (hq_1.resolve_right (fun h => by omega)).2
    clear hq_1
    have hj9 := dB_inj hk0.2 hsl.1
    refine zz_iconst C dX10_tries_8 ?_
    refine zz_istore_n (ls' := [(1, .int (iI 0)), (0, .ref mh)]) C dX10_tries_9 rfl (by decide) rfl ?_
    have Lp10 : ∀ (fu9 : Nat) (z9 : Int) (gI : Int → Int), (0 ≤ z9 ∧ z9 ≤ 10) → (∀ c : Int, 0 ≤ c → c < z9 → gI c = 0) → (10 - z9).toNat < fu9 → zzW p l e rm_X10_tries s m ([.ref mh] : List Value).toArray below meth c z A 5 (MQ below (zQ z A (po_X10_tries z mh xT xD xP xR xC xW xA xH xU xB xI xN xM xY xK xL xE xS m_ra m_ca m_tp m_fa m_at m_wr m_va m_pl m_st m_lo m_bl m_bc m_fo m_yl m_yw m_nu m_nl m_lu m_ll m_ln kT kD kP kR kC kW kA kH kU kB kI kN kM kY kK kL kE kS)) ([.ref mh] : List Value).toArray s 0 0 A) 0 0 (wMod z mh xT xD xP xR xC xW xA xH xU xB xI xN xM xY xK xL xE xS m_ra m_ca m_tp m_fa m_at m_wr m_va m_pl m_st gl_1 m_bl m_bc m_fo m_yl m_yw m_nu m_nl m_lu m_ll m_ln kT kD kP kR gC_1 kW kA kH gU_1 kB gI kN kM kY kK kL kE kS) [(0, .ref mh), (1, .int (iI z9))] [] 10 := by
      intro fu9
      induction fu9 with
      | zero => intro z9 gI hz9 hI h9; exact absurd h9 (Nat.not_lt_zero _)
      | succ fu9 ih10 =>
        intro z9 gI hz9 hI hm10
        refine zz_iload_n C 1 dX10_tries_10 rfl rfl ?_
        refine zz_bipush C dX10_tries_11 (by decide +kernel) ?_
        refine zz_icmp_ge (tgt := 29) C dX10_tries_13 (by decide) (by unfold rI; omega) (by unfold rI; omega) (fun c13 => ?_) (fun c13 => ?_)
        · skip
          refine zz_lconst (a := 0) C dX10_tries_29 (by decide +kernel) ?_
          refine zz_lstore_n (ls' := [(1, .long (iL 0)), (0, .ref mh)]) C dX10_tries_30 rfl (by decide) rfl ?_
          refine zz_iconst C dX10_tries_31 ?_
          refine zz_istore_n (ls' := [(3, .int (iI 0)), (1, .long (iL 0)), (0, .ref mh)]) C dX10_tries_32 rfl (by decide) rfl ?_
          have Lp33 : ∀ (fu9 : Nat) (k : Int) (pz : Int) (gI : Int → Int), (0 ≤ k ∧ k ≤ kT 0) → (roM (kT 0) 10 gU_1 kH k gI) → (pz = zsum (fun i => gU_1 i * mP kT (kH i)) k) → (kT 0 - k).toNat < fu9 → zzW p l e rm_X10_tries s m ([.ref mh] : List Value).toArray below meth c z A 5 (MQ below (zQ z A (po_X10_tries z mh xT xD xP xR xC xW xA xH xU xB xI xN xM xY xK xL xE xS m_ra m_ca m_tp m_fa m_at m_wr m_va m_pl m_st m_lo m_bl m_bc m_fo m_yl m_yw m_nu m_nl m_lu m_ll m_ln kT kD kP kR kC kW kA kH kU kB kI kN kM kY kK kL kE kS)) ([.ref mh] : List Value).toArray s 0 0 A) 0 0 (wMod z mh xT xD xP xR xC xW xA xH xU xB xI xN xM xY xK xL xE xS m_ra m_ca m_tp m_fa m_at m_wr m_va m_pl m_st gl_1 m_bl m_bc m_fo m_yl m_yw m_nu m_nl m_lu m_ll m_ln kT kD kP kR gC_1 kW kA kH gU_1 kB gI kN kM kY kK kL kE kS) [(0, .ref mh), (1, .long (iL pz)), (3, .int (iI k))] [] 33 := by
            intro fu9
            induction fu9 with
            | zero => intro k pz gI hk hro hpz h9; exact absurd h9 (Nat.not_lt_zero _)
            | succ fu9 ih33 =>
              intro k pz gI hk hro hpz hm33
              refine zz_iload_n C 2 dX10_tries_33 rfl rfl ?_
              refine zz_aload_n C 0 dX10_tries_34 rfl rfl ?_
              refine zz_get C 0 (ci := 10) (k := 1) rfl rfl in_X10 (by decide) qw_927 rfl rfl dX10_tries_35 ?_
              refine zz_iconst C dX10_tries_38 ?_
              refine zz_iald C 1 rfl (by omega) (by omega) (by decide) dX10_tries_39 ?_
              refine zz_icmp_ge (tgt := 98) C dX10_tries_40 (by decide) (by unfold rI; omega) (by unfold rI; omega) (fun c40 => ?_) (fun c40 => ?_)
              · skip
                have hke : k = kT 0 := by omega
                rw [hke] at hro hpz
                have hro2 : roM (kT 0) (kT 1 + kT 0 + 1) gU_1 kH (kT 0) gI := ⟨hro.1, fun c h0 h1 h2 => hro.2 c h0 (by omega) h2⟩
                obtain ⟨hca, hmb⟩ := roM_end hk0.1 hk0.2 hsl hin (fun c h0 _ => mP_rng hkT h0) hro2 hpz
                have hmb1 := hmb.2.1
                have hl9 := hsl.2.1
                refine zz_aload_n C 0 dX10_tries_98 rfl rfl ?_
                refine zz_get C 0 (ci := 10) (k := 22) rfl rfl in_X10 (by decide) qw_948 rfl rfl dX10_tries_99 ?_
                refine zz_if_eq (tgt := 124) C dX10_tries_102 (by decide) (by unfold rI; omega) (fun c102 => ?_) (fun c102 => ?_)
                · skip
                  refine zz_iconst C dX10_tries_124 ?_
                  refine zz_istore_n (ls' := [(3, .int (iI (-1))), (0, .ref mh), (1, .long (iL pz))]) C dX10_tries_125 rfl (by decide) rfl ?_
                  refine zz_iconst C dX10_tries_126 ?_
                  refine zz_istore (ls' := [(4, .int (iI 0)), (3, .int (iI (-1))), (0, .ref mh), (1, .long (iL pz))]) C dX10_tries_127 (by decide) rfl ?_
                  have Lp129 : ∀ (fu9 : Nat) (b9 : Int) (o9 : Int), (0 ≤ b9 ∧ b9 ≤ kT 1) → ((m_fo = 0 ∧ o9 = -1) ∨ (m_fo = 1 ∧ lexS (b9 + 1) gl_1 (kk pz gI) m_bl (kk m_bc kB) o9)) → (kT 1 - b9).toNat < fu9 → zzW p l e rm_X10_tries s m ([.ref mh] : List Value).toArray below meth c z A 5 (MQ below (zQ z A (po_X10_tries z mh xT xD xP xR xC xW xA xH xU xB xI xN xM xY xK xL xE xS m_ra m_ca m_tp m_fa m_at m_wr m_va m_pl m_st m_lo m_bl m_bc m_fo m_yl m_yw m_nu m_nl m_lu m_ll m_ln kT kD kP kR kC kW kA kH kU kB kI kN kM kY kK kL kE kS)) ([.ref mh] : List Value).toArray s 0 0 A) 0 0 (wMod z mh xT xD xP xR xC xW xA xH xU xB xI xN xM xY xK xL xE xS m_ra m_ca m_tp m_fa m_at m_wr m_va m_pl m_st gl_1 m_bl m_bc m_fo m_yl m_yw m_nu m_nl m_lu m_ll m_ln kT kD kP kR gC_1 kW kA kH gU_1 kB gI kN kM kY kK kL kE kS) [(0, .ref mh), (1, .long (iL pz)), (3, .int (iI o9)), (4, .int (iI b9))] [] 129 := by
                    intro fu9
                    induction fu9 with
                    | zero => intro b9 o9 hb9 hst h9; exact absurd h9 (Nat.not_lt_zero _)
                    | succ fu9 ih129 =>
                      intro b9 o9 hb9 hst hm129
                      have ho9 : -1 ≤ o9 ∧ o9 ≤ 1 := by rcases hst with h | h; omega; exact lexS_o h.2
                      refine zz_iload C 3 dX10_tries_129 rfl ?_
                      refine zz_aload_n C 0 dX10_tries_131 rfl rfl ?_
                      refine zz_get C 0 (ci := 10) (k := 1) rfl rfl in_X10 (by decide) qw_927 rfl rfl dX10_tries_132 ?_
                      refine zz_iconst C dX10_tries_135 ?_
                      refine zz_iald C 1 rfl (by omega) (by omega) (by decide) dX10_tries_136 ?_
                      refine zz_icmp_ge (tgt := 176) C dX10_tries_137 (by decide) (by unfold rI; omega) (by unfold rI; omega) (fun c137 => ?_) (fun c137 => ?_)
                      · skip
                        refine zz_iload_n C 2 dX10_tries_176 rfl rfl ?_
                        refine zz_if_ge (tgt := 228) C dX10_tries_177 (by decide) (by unfold rI; omega) (fun c177 => ?_) (fun c177 => ?_)
                        · skip
                          exact zz_vret C hr dX10_tries_228 ⟨gC_1, gU_1, gl_1, gI, m_fo, m_bl, m_bc, kB, Or.inr ⟨pz, gl_1, gI, hca, hmb, by omega, by first | exact Or.inl ⟨by rcases hst with h | h; exact Or.inl h.1; exact Or.inr (lexS_yes h.2 (by omega) (by omega)), rfl, rfl, rfl, fun c h0 h1 => hB c h0 (by omega)⟩ | exact Or.inr ⟨⟨by omega, lexS_no (hst.resolve_left (fun h => by omega)).2 (by omega) (by omega) (by have := (hfv (by omega)).1; omega) (by omega) (fun _ => by omega)⟩, rfl, rfl, rfl, rfl⟩⟩, rfl, rfl⟩
                        · skip
                          refine zz_aload_n C 0 dX10_tries_180 rfl rfl ?_
                          refine zz_iconst C dX10_tries_181 ?_
                          refine zz_put (ty := .boolean) (ws' := wMod z mh xT xD xP xR xC xW xA xH xU xB xI xN xM xY xK xL xE xS m_ra m_ca m_tp m_fa m_at m_wr m_va m_pl m_st gl_1 m_bl m_bc 1 m_yl m_yw m_nu m_nl m_lu m_ll m_ln kT kD kP kR gC_1 kW kA kH gU_1 kB gI kN kM kY kK kL kE kS) C 0 (ci := 10) (k := 22) rfl rfl in_X10 tyX10 tyX10_ok nmX10 (by decide) qw_948 rfl rfl (by decide +kernel) (by decide +kernel) (by decide +kernel) (Nat.le_of_ble_eq_true rfl) rfl dX10_tries_182 ?_
                          refine zz_aload_n C 0 dX10_tries_185 rfl rfl ?_
                          refine zz_lload_n C 1 dX10_tries_186 rfl rfl ?_
                          refine zz_put (ty := .long) (ws' := wMod z mh xT xD xP xR xC xW xA xH xU xB xI xN xM xY xK xL xE xS m_ra m_ca m_tp m_fa m_at m_wr m_va m_pl m_st gl_1 m_bl pz 1 m_yl m_yw m_nu m_nl m_lu m_ll m_ln kT kD kP kR gC_1 kW kA kH gU_1 kB gI kN kM kY kK kL kE kS) C 0 (ci := 10) (k := 21) rfl rfl in_X10 tyX10 tyX10_ok nmX10 (by decide) qw_947 rfl rfl (by decide +kernel) rfl rfl (Nat.le_of_ble_eq_true rfl) rfl dX10_tries_187 ?_
                          refine zz_aload_n C 0 dX10_tries_190 rfl rfl ?_
                          refine zz_aload_n C 0 dX10_tries_191 rfl rfl ?_
                          refine zz_get C 0 (ci := 10) (k := 18) rfl rfl in_X10 (by decide) qw_944 rfl rfl dX10_tries_192 ?_
                          refine zz_put (ty := .long) (ws' := wMod z mh xT xD xP xR xC xW xA xH xU xB xI xN xM xY xK xL xE xS m_ra m_ca m_tp m_fa m_at m_wr m_va m_pl m_st gl_1 gl_1 pz 1 m_yl m_yw m_nu m_nl m_lu m_ll m_ln kT kD kP kR gC_1 kW kA kH gU_1 kB gI kN kM kY kK kL kE kS) C 0 (ci := 10) (k := 20) rfl rfl in_X10 tyX10 tyX10_ok nmX10 (by decide) qw_946 rfl rfl (by decide +kernel) rfl rfl (Nat.le_of_ble_eq_true rfl) rfl dX10_tries_195 ?_
                          refine zz_iconst C dX10_tries_198 ?_
                          refine zz_istore (ls' := [(4, .int (iI 0)), (0, .ref mh), (1, .long (iL pz)), (3, .int (iI o9))]) C dX10_tries_199 (by decide) rfl ?_
                          have Lp201 : ∀ (fu9 : Nat) (c9 : Int) (gB : Int → Int), (0 ≤ c9 ∧ c9 ≤ 10) → (∀ c : Int, 0 ≤ c → c < c9 → gB c = gI c) → (10 - c9).toNat < fu9 → zzW p l e rm_X10_tries s m ([.ref mh] : List Value).toArray below meth c z A 5 (MQ below (zQ z A (po_X10_tries z mh xT xD xP xR xC xW xA xH xU xB xI xN xM xY xK xL xE xS m_ra m_ca m_tp m_fa m_at m_wr m_va m_pl m_st m_lo m_bl m_bc m_fo m_yl m_yw m_nu m_nl m_lu m_ll m_ln kT kD kP kR kC kW kA kH kU kB kI kN kM kY kK kL kE kS)) ([.ref mh] : List Value).toArray s 0 0 A) 0 0 (wMod z mh xT xD xP xR xC xW xA xH xU xB xI xN xM xY xK xL xE xS m_ra m_ca m_tp m_fa m_at m_wr m_va m_pl m_st gl_1 gl_1 pz 1 m_yl m_yw m_nu m_nl m_lu m_ll m_ln kT kD kP kR gC_1 kW kA kH gU_1 gB gI kN kM kY kK kL kE kS) [(0, .ref mh), (1, .long (iL pz)), (3, .int (iI o9)), (4, .int (iI c9))] [] 201 := by
                            intro fu9
                            induction fu9 with
                            | zero => intro c9 gB hc9 hB h9; exact absurd h9 (Nat.not_lt_zero _)
                            | succ fu9 ih201 =>
                              intro c9 gB hc9 hB hm201
                              refine zz_iload C 3 dX10_tries_201 rfl ?_
                              refine zz_bipush C dX10_tries_203 (by decide +kernel) ?_
                              refine zz_icmp_ge (tgt := 228) C dX10_tries_205 (by decide) (by unfold rI; omega) (by unfold rI; omega) (fun c205 => ?_) (fun c205 => ?_)
                              · skip
                                exact zz_vret C hr dX10_tries_228 ⟨gC_1, gU_1, gl_1, gI, 1, gl_1, pz, gB, Or.inr ⟨pz, gl_1, gI, hca, hmb, by omega, by first | exact Or.inl ⟨by rcases hst with h | h; exact Or.inl h.1; exact Or.inr (lexS_yes h.2 (by omega) (by omega)), rfl, rfl, rfl, fun c h0 h1 => hB c h0 (by omega)⟩ | exact Or.inr ⟨⟨by omega, lexS_no (hst.resolve_left (fun h => by omega)).2 (by omega) (by omega) (by have := (hfv (by omega)).1; omega) (by omega) (fun _ => by omega)⟩, rfl, rfl, rfl, rfl⟩⟩, rfl, rfl⟩
                              · skip
                                refine zz_aload_n C 0 dX10_tries_208 rfl rfl ?_
                                refine zz_get C 0 (ci := 10) (k := 19) rfl rfl in_X10 (by decide) qw_945 rfl rfl dX10_tries_209 ?_
                                refine zz_iload C 3 dX10_tries_212 rfl ?_
                                refine zz_aload_n C 0 dX10_tries_214 rfl rfl ?_
                                refine zz_get C 0 (ci := 10) (k := 23) rfl rfl in_X10 (by decide) qw_949 rfl rfl dX10_tries_215 ?_
                                refine zz_iload C 3 dX10_tries_218 rfl ?_
                                refine zz_lald C 11 rfl (by omega) (by omega) (by decide) dX10_tries_220 ?_
                                refine zz_last (ws' := wMod z mh xT xD xP xR xC xW xA xH xU xB xI xN xM xY xK xL xE xS m_ra m_ca m_tp m_fa m_at m_wr m_va m_pl m_st gl_1 gl_1 pz 1 m_yl m_yw m_nu m_nl m_lu m_ll m_ln kT kD kP kR gC_1 kW kA kH gU_1 (zup gB c9 (gI c9)) gI kN kM kY kK kL kE kS) C 10 rfl (by omega) (by omega) (by decide) rfl dX10_tries_221 ?_
                                refine zz_iinc (ls' := [(4, .int (iI (c9 + 1))), (0, .ref mh), (1, .long (iL pz)), (3, .int (iI o9))]) C 3 dX10_tries_222 rfl (by decide) rfl ?_
                                refine zz_goto (tgt := 201) C dX10_tries_225 (by decide) ?_
                                refine zz_loc (ls' := [(0, .ref mh), (1, .long (iL pz)), (3, .int (iI o9)), (4, .int (iI (c9 + 1)))]) [1, 2, 3, 0] rfl ?_
                                exact ih201 (c9 + 1) (zup gB c9 (gI c9)) (by omega) (zup_all hB rfl) (by omega)
                          refine zz_loc (ls' := [(0, .ref mh), (1, .long (iL pz)), (3, .int (iI o9)), (4, .int (iI 0))]) [1, 2, 3, 0] rfl ?_
                          exact Lp201 _ 0 kB (by omega) (fun c h0 h1 => by omega) (Nat.lt_succ_self _)
                      · skip
                        refine zz_iload_n C 2 dX10_tries_140 rfl rfl ?_
                        refine zz_if_ne (tgt := 176) C dX10_tries_141 (by decide) (by unfold rI; omega) (fun c141 => ?_) (fun c141 => ?_)
                        · skip
                          refine zz_iload_n C 2 dX10_tries_176 rfl rfl ?_
                          refine zz_if_ge (tgt := 228) C dX10_tries_177 (by decide) (by unfold rI; omega) (fun c177 => ?_) (fun c177 => ?_)
                          · skip
                            exact zz_vret C hr dX10_tries_228 ⟨gC_1, gU_1, gl_1, gI, m_fo, m_bl, m_bc, kB, Or.inr ⟨pz, gl_1, gI, hca, hmb, by omega, by first | exact Or.inl ⟨by rcases hst with h | h; exact Or.inl h.1; exact Or.inr (lexS_yes h.2 (by omega) (by omega)), rfl, rfl, rfl, fun c h0 h1 => hB c h0 (by omega)⟩ | exact Or.inr ⟨⟨by omega, lexS_no (hst.resolve_left (fun h => by omega)).2 (by omega) (by omega) (by have := (hfv (by omega)).1; omega) (by omega) (fun _ => by omega)⟩, rfl, rfl, rfl, rfl⟩⟩, rfl, rfl⟩
                          · skip
                            refine zz_aload_n C 0 dX10_tries_180 rfl rfl ?_
                            refine zz_iconst C dX10_tries_181 ?_
                            refine zz_put (ty := .boolean) (ws' := wMod z mh xT xD xP xR xC xW xA xH xU xB xI xN xM xY xK xL xE xS m_ra m_ca m_tp m_fa m_at m_wr m_va m_pl m_st gl_1 m_bl m_bc 1 m_yl m_yw m_nu m_nl m_lu m_ll m_ln kT kD kP kR gC_1 kW kA kH gU_1 kB gI kN kM kY kK kL kE kS) C 0 (ci := 10) (k := 22) rfl rfl in_X10 tyX10 tyX10_ok nmX10 (by decide) qw_948 rfl rfl (by decide +kernel) (by decide +kernel) (by decide +kernel) (Nat.le_of_ble_eq_true rfl) rfl dX10_tries_182 ?_
                            refine zz_aload_n C 0 dX10_tries_185 rfl rfl ?_
                            refine zz_lload_n C 1 dX10_tries_186 rfl rfl ?_
                            refine zz_put (ty := .long) (ws' := wMod z mh xT xD xP xR xC xW xA xH xU xB xI xN xM xY xK xL xE xS m_ra m_ca m_tp m_fa m_at m_wr m_va m_pl m_st gl_1 m_bl pz 1 m_yl m_yw m_nu m_nl m_lu m_ll m_ln kT kD kP kR gC_1 kW kA kH gU_1 kB gI kN kM kY kK kL kE kS) C 0 (ci := 10) (k := 21) rfl rfl in_X10 tyX10 tyX10_ok nmX10 (by decide) qw_947 rfl rfl (by decide +kernel) rfl rfl (Nat.le_of_ble_eq_true rfl) rfl dX10_tries_187 ?_
                            refine zz_aload_n C 0 dX10_tries_190 rfl rfl ?_
                            refine zz_aload_n C 0 dX10_tries_191 rfl rfl ?_
                            refine zz_get C 0 (ci := 10) (k := 18) rfl rfl in_X10 (by decide) qw_944 rfl rfl dX10_tries_192 ?_
                            refine zz_put (ty := .long) (ws' := wMod z mh xT xD xP xR xC xW xA xH xU xB xI xN xM xY xK xL xE xS m_ra m_ca m_tp m_fa m_at m_wr m_va m_pl m_st gl_1 gl_1 pz 1 m_yl m_yw m_nu m_nl m_lu m_ll m_ln kT kD kP kR gC_1 kW kA kH gU_1 kB gI kN kM kY kK kL kE kS) C 0 (ci := 10) (k := 20) rfl rfl in_X10 tyX10 tyX10_ok nmX10 (by decide) qw_946 rfl rfl (by decide +kernel) rfl rfl (Nat.le_of_ble_eq_true rfl) rfl dX10_tries_195 ?_
                            refine zz_iconst C dX10_tries_198 ?_
                            refine zz_istore (ls' := [(4, .int (iI 0)), (0, .ref mh), (1, .long (iL pz)), (3, .int (iI o9))]) C dX10_tries_199 (by decide) rfl ?_
                            have Lp201 : ∀ (fu9 : Nat) (c9 : Int) (gB : Int → Int), (0 ≤ c9 ∧ c9 ≤ 10) → (∀ c : Int, 0 ≤ c → c < c9 → gB c = gI c) → (10 - c9).toNat < fu9 → zzW p l e rm_X10_tries s m ([.ref mh] : List Value).toArray below meth c z A 5 (MQ below (zQ z A (po_X10_tries z mh xT xD xP xR xC xW xA xH xU xB xI xN xM xY xK xL xE xS m_ra m_ca m_tp m_fa m_at m_wr m_va m_pl m_st m_lo m_bl m_bc m_fo m_yl m_yw m_nu m_nl m_lu m_ll m_ln kT kD kP kR kC kW kA kH kU kB kI kN kM kY kK kL kE kS)) ([.ref mh] : List Value).toArray s 0 0 A) 0 0 (wMod z mh xT xD xP xR xC xW xA xH xU xB xI xN xM xY xK xL xE xS m_ra m_ca m_tp m_fa m_at m_wr m_va m_pl m_st gl_1 gl_1 pz 1 m_yl m_yw m_nu m_nl m_lu m_ll m_ln kT kD kP kR gC_1 kW kA kH gU_1 gB gI kN kM kY kK kL kE kS) [(0, .ref mh), (1, .long (iL pz)), (3, .int (iI o9)), (4, .int (iI c9))] [] 201 := by
                              intro fu9
                              induction fu9 with
                              | zero => intro c9 gB hc9 hB h9; exact absurd h9 (Nat.not_lt_zero _)
                              | succ fu9 ih201 =>
                                intro c9 gB hc9 hB hm201
                                refine zz_iload C 3 dX10_tries_201 rfl ?_
                                refine zz_bipush C dX10_tries_203 (by decide +kernel) ?_
                                refine zz_icmp_ge (tgt := 228) C dX10_tries_205 (by decide) (by unfold rI; omega) (by unfold rI; omega) (fun c205 => ?_) (fun c205 => ?_)
                                · skip
                                  exact zz_vret C hr dX10_tries_228 ⟨gC_1, gU_1, gl_1, gI, 1, gl_1, pz, gB, Or.inr ⟨pz, gl_1, gI, hca, hmb, by omega, by first | exact Or.inl ⟨by rcases hst with h | h; exact Or.inl h.1; exact Or.inr (lexS_yes h.2 (by omega) (by omega)), rfl, rfl, rfl, fun c h0 h1 => hB c h0 (by omega)⟩ | exact Or.inr ⟨⟨by omega, lexS_no (hst.resolve_left (fun h => by omega)).2 (by omega) (by omega) (by have := (hfv (by omega)).1; omega) (by omega) (fun _ => by omega)⟩, rfl, rfl, rfl, rfl⟩⟩, rfl, rfl⟩
                                · skip
                                  refine zz_aload_n C 0 dX10_tries_208 rfl rfl ?_
                                  refine zz_get C 0 (ci := 10) (k := 19) rfl rfl in_X10 (by decide) qw_945 rfl rfl dX10_tries_209 ?_
                                  refine zz_iload C 3 dX10_tries_212 rfl ?_
                                  refine zz_aload_n C 0 dX10_tries_214 rfl rfl ?_
                                  refine zz_get C 0 (ci := 10) (k := 23) rfl rfl in_X10 (by decide) qw_949 rfl rfl dX10_tries_215 ?_
                                  refine zz_iload C 3 dX10_tries_218 rfl ?_
                                  refine zz_lald C 11 rfl (by omega) (by omega) (by decide) dX10_tries_220 ?_
                                  refine zz_last (ws' := wMod z mh xT xD xP xR xC xW xA xH xU xB xI xN xM xY xK xL xE xS m_ra m_ca m_tp m_fa m_at m_wr m_va m_pl m_st gl_1 gl_1 pz 1 m_yl m_yw m_nu m_nl m_lu m_ll m_ln kT kD kP kR gC_1 kW kA kH gU_1 (zup gB c9 (gI c9)) gI kN kM kY kK kL kE kS) C 10 rfl (by omega) (by omega) (by decide) rfl dX10_tries_221 ?_
                                  refine zz_iinc (ls' := [(4, .int (iI (c9 + 1))), (0, .ref mh), (1, .long (iL pz)), (3, .int (iI o9))]) C 3 dX10_tries_222 rfl (by decide) rfl ?_
                                  refine zz_goto (tgt := 201) C dX10_tries_225 (by decide) ?_
                                  refine zz_loc (ls' := [(0, .ref mh), (1, .long (iL pz)), (3, .int (iI o9)), (4, .int (iI (c9 + 1)))]) [1, 2, 3, 0] rfl ?_
                                  exact ih201 (c9 + 1) (zup gB c9 (gI c9)) (by omega) (zup_all hB rfl) (by omega)
                            refine zz_loc (ls' := [(0, .ref mh), (1, .long (iL pz)), (3, .int (iI o9)), (4, .int (iI 0))]) [1, 2, 3, 0] rfl ?_
                            exact Lp201 _ 0 kB (by omega) (fun c h0 h1 => by omega) (Nat.lt_succ_self _)
                        · skip
                          have hf8 := hfv (by omega)
                          have hv1 := hmb.2.2 b9 (by omega) (by omega)
                          have hv2 := hf8.2.2.2 b9 (by omega) (by omega)
                          have hf7 := hf8.1
                          refine zz_aload_n C 0 dX10_tries_144 rfl rfl ?_
                          refine zz_get C 0 (ci := 10) (k := 23) rfl rfl in_X10 (by decide) qw_949 rfl rfl dX10_tries_145 ?_
                          refine zz_iload C 3 dX10_tries_148 rfl ?_
                          refine zz_lald C 11 rfl (by omega) (by omega) (by decide) dX10_tries_150 ?_
                          refine zz_aload_n C 0 dX10_tries_151 rfl rfl ?_
                          refine zz_get C 0 (ci := 10) (k := 18) rfl rfl in_X10 (by decide) qw_944 rfl rfl dX10_tries_152 ?_
                          refine zz_aload_n C 0 dX10_tries_155 rfl rfl ?_
                          refine zz_get C 0 (ci := 10) (k := 19) rfl rfl in_X10 (by decide) qw_945 rfl rfl dX10_tries_156 ?_
                          refine zz_iload C 3 dX10_tries_159 rfl ?_
                          refine zz_lald C 10 rfl (by omega) (by omega) (by decide) dX10_tries_161 ?_
                          refine zz_aload_n C 0 dX10_tries_162 rfl rfl ?_
                          refine zz_get C 0 (ci := 10) (k := 20) rfl rfl in_X10 (by decide) qw_946 rfl rfl dX10_tries_163 ?_
                          refine zz_callS (wr := wMod z mh xT xD xP xR xC xW xA xH xU xB xI xN xM xY xK xL xE xS m_ra m_ca m_tp m_fa m_at m_wr m_va m_pl m_st gl_1 m_bl m_bc m_fo m_yl m_yw m_nu m_nl m_lu m_ll m_ln kT kD kP kR gC_1 kW kA kH gU_1 kB gI kN kM kY kK kL kE kS) (st := []) C (cc_X10_compares l z (gI b9) gl_1 (kB b9) m_bl (by omega) (by omega) (by omega) (by omega)) yk_X10_compares qw_1226 ⟨by decide, by decide⟩ [] [0, 1, 2, 3, 4, 5, 6, 7, 8, 9, 10, 11, 12, 13, 14, 15, 16, 17, 18] rfl rfl rfl rfl (by decide) rfl rfl (Nat.le_of_ble_eq_true rfl) dX10_tries_166 ⟨by decide, by decide⟩ ?_
                          rintro _ _ ⟨q_166, hq_166, rfl, rfl⟩
                          refine zz_st (st' := [.int (iI q_166)]) rfl (zz_ws (ws' := wMod z mh xT xD xP xR xC xW xA xH xU xB xI xN xM xY xK xL xE xS m_ra m_ca m_tp m_fa m_at m_wr m_va m_pl m_st gl_1 m_bl m_bc m_fo m_yl m_yw m_nu m_nl m_lu m_ll m_ln kT kD kP kR gC_1 kW kA kH gU_1 kB gI kN kM kY kK kL kE kS) rfl ?_)
                          refine zz_istore_n (ls' := [(3, .int (iI q_166)), (0, .ref mh), (1, .long (iL pz)), (4, .int (iI b9))]) C dX10_tries_169 rfl (by decide) rfl ?_
                          refine zz_iinc (ls' := [(4, .int (iI (b9 + 1))), (3, .int (iI q_166)), (0, .ref mh), (1, .long (iL pz))]) C 3 dX10_tries_170 rfl (by decide) rfl ?_
                          refine zz_goto (tgt := 129) C dX10_tries_173 (by decide) ?_
                          refine zz_loc (ls' := [(0, .ref mh), (1, .long (iL pz)), (3, .int (iI q_166)), (4, .int (iI (b9 + 1)))]) [2, 3, 1, 0] rfl ?_
                          exact ih129 (b9 + 1) q_166 (by omega) (Or.inr ⟨by omega, lexS_cs (hst.resolve_left (fun h => by omega)).2 (by omega) (by omega) (by rw [kk_s _ _ hb9.1, kk_s _ _ hb9.1]; exact hq_166)⟩) (by omega)
                  refine zz_loc (ls' := [(0, .ref mh), (1, .long (iL pz)), (3, .int (iI (-1))), (4, .int (iI 0))]) [2, 3, 1, 0] rfl ?_
                  exact Lp129 _ 0 (-1) (by omega) (by first | exact Or.inr ⟨by omega, hs9⟩ | exact Or.inl ⟨by omega, rfl⟩) (Nat.lt_succ_self _)
                · skip
                  have hf9 := hfv (by omega)
                  have hm9 := hf9.2.2.1
                  refine zz_lload_n C 1 dX10_tries_105 rfl rfl ?_
                  refine zz_aload_n C 0 dX10_tries_106 rfl rfl ?_
                  refine zz_get C 0 (ci := 10) (k := 18) rfl rfl in_X10 (by decide) qw_944 rfl rfl dX10_tries_107 ?_
                  refine zz_aload_n C 0 dX10_tries_110 rfl rfl ?_
                  refine zz_get C 0 (ci := 10) (k := 21) rfl rfl in_X10 (by decide) qw_947 rfl rfl dX10_tries_111 ?_
                  refine zz_aload_n C 0 dX10_tries_114 rfl rfl ?_
                  refine zz_get C 0 (ci := 10) (k := 20) rfl rfl in_X10 (by decide) qw_946 rfl rfl dX10_tries_115 ?_
                  refine zz_callS (wr := wMod z mh xT xD xP xR xC xW xA xH xU xB xI xN xM xY xK xL xE xS m_ra m_ca m_tp m_fa m_at m_wr m_va m_pl m_st gl_1 m_bl m_bc m_fo m_yl m_yw m_nu m_nl m_lu m_ll m_ln kT kD kP kR gC_1 kW kA kH gU_1 kB gI kN kM kY kK kL kE kS) (st := []) C (cc_X10_compares l z pz gl_1 m_bc m_bl (by omega) (by omega) (by omega) (by omega)) yk_X10_compares qw_1226 ⟨by decide, by decide⟩ [] [0, 1, 2, 3, 4, 5, 6, 7, 8, 9, 10, 11, 12, 13, 14, 15, 16, 17, 18] rfl rfl rfl rfl (by decide) rfl rfl (Nat.le_of_ble_eq_true rfl) dX10_tries_118 ⟨by decide, by decide⟩ ?_
                  rintro _ _ ⟨q_118, hq_118, rfl, rfl⟩
                  refine zz_st (st' := [.int (iI q_118)]) rfl (zz_ws (ws' := wMod z mh xT xD xP xR xC xW xA xH xU xB xI xN xM xY xK xL xE xS m_ra m_ca m_tp m_fa m_at m_wr m_va m_pl m_st gl_1 m_bl m_bc m_fo m_yl m_yw m_nu m_nl m_lu m_ll m_ln kT kD kP kR gC_1 kW kA kH gU_1 kB gI kN kM kY kK kL kE kS) rfl ?_)
                  have hs9 : lexS 1 gl_1 (kk pz gI) m_bl (kk m_bc kB) q_118 := lexS_c1 (by rw [kk_0, kk_0]; exact hq_118)
                  refine zz_goto (tgt := 125) C dX10_tries_121 (by decide) ?_
                  refine zz_istore_n (ls' := [(3, .int (iI q_118)), (0, .ref mh), (1, .long (iL pz))]) C dX10_tries_125 rfl (by decide) rfl ?_
                  refine zz_iconst C dX10_tries_126 ?_
                  refine zz_istore (ls' := [(4, .int (iI 0)), (3, .int (iI q_118)), (0, .ref mh), (1, .long (iL pz))]) C dX10_tries_127 (by decide) rfl ?_
                  have Lp129 : ∀ (fu9 : Nat) (b9 : Int) (o9 : Int), (0 ≤ b9 ∧ b9 ≤ kT 1) → ((m_fo = 0 ∧ o9 = -1) ∨ (m_fo = 1 ∧ lexS (b9 + 1) gl_1 (kk pz gI) m_bl (kk m_bc kB) o9)) → (kT 1 - b9).toNat < fu9 → zzW p l e rm_X10_tries s m ([.ref mh] : List Value).toArray below meth c z A 5 (MQ below (zQ z A (po_X10_tries z mh xT xD xP xR xC xW xA xH xU xB xI xN xM xY xK xL xE xS m_ra m_ca m_tp m_fa m_at m_wr m_va m_pl m_st m_lo m_bl m_bc m_fo m_yl m_yw m_nu m_nl m_lu m_ll m_ln kT kD kP kR kC kW kA kH kU kB kI kN kM kY kK kL kE kS)) ([.ref mh] : List Value).toArray s 0 0 A) 0 0 (wMod z mh xT xD xP xR xC xW xA xH xU xB xI xN xM xY xK xL xE xS m_ra m_ca m_tp m_fa m_at m_wr m_va m_pl m_st gl_1 m_bl m_bc m_fo m_yl m_yw m_nu m_nl m_lu m_ll m_ln kT kD kP kR gC_1 kW kA kH gU_1 kB gI kN kM kY kK kL kE kS) [(0, .ref mh), (1, .long (iL pz)), (3, .int (iI o9)), (4, .int (iI b9))] [] 129 := by
                    intro fu9
                    induction fu9 with
                    | zero => intro b9 o9 hb9 hst h9; exact absurd h9 (Nat.not_lt_zero _)
                    | succ fu9 ih129 =>
                      intro b9 o9 hb9 hst hm129
                      have ho9 : -1 ≤ o9 ∧ o9 ≤ 1 := by rcases hst with h | h; omega; exact lexS_o h.2
                      refine zz_iload C 3 dX10_tries_129 rfl ?_
                      refine zz_aload_n C 0 dX10_tries_131 rfl rfl ?_
                      refine zz_get C 0 (ci := 10) (k := 1) rfl rfl in_X10 (by decide) qw_927 rfl rfl dX10_tries_132 ?_
                      refine zz_iconst C dX10_tries_135 ?_
                      refine zz_iald C 1 rfl (by omega) (by omega) (by decide) dX10_tries_136 ?_
                      refine zz_icmp_ge (tgt := 176) C dX10_tries_137 (by decide) (by unfold rI; omega) (by unfold rI; omega) (fun c137 => ?_) (fun c137 => ?_)
                      · skip
                        refine zz_iload_n C 2 dX10_tries_176 rfl rfl ?_
                        refine zz_if_ge (tgt := 228) C dX10_tries_177 (by decide) (by unfold rI; omega) (fun c177 => ?_) (fun c177 => ?_)
                        · skip
                          exact zz_vret C hr dX10_tries_228 ⟨gC_1, gU_1, gl_1, gI, m_fo, m_bl, m_bc, kB, Or.inr ⟨pz, gl_1, gI, hca, hmb, by omega, by first | exact Or.inl ⟨by rcases hst with h | h; exact Or.inl h.1; exact Or.inr (lexS_yes h.2 (by omega) (by omega)), rfl, rfl, rfl, fun c h0 h1 => hB c h0 (by omega)⟩ | exact Or.inr ⟨⟨by omega, lexS_no (hst.resolve_left (fun h => by omega)).2 (by omega) (by omega) (by have := (hfv (by omega)).1; omega) (by omega) (fun _ => by omega)⟩, rfl, rfl, rfl, rfl⟩⟩, rfl, rfl⟩
                        · skip
                          refine zz_aload_n C 0 dX10_tries_180 rfl rfl ?_
                          refine zz_iconst C dX10_tries_181 ?_
                          refine zz_put (ty := .boolean) (ws' := wMod z mh xT xD xP xR xC xW xA xH xU xB xI xN xM xY xK xL xE xS m_ra m_ca m_tp m_fa m_at m_wr m_va m_pl m_st gl_1 m_bl m_bc 1 m_yl m_yw m_nu m_nl m_lu m_ll m_ln kT kD kP kR gC_1 kW kA kH gU_1 kB gI kN kM kY kK kL kE kS) C 0 (ci := 10) (k := 22) rfl rfl in_X10 tyX10 tyX10_ok nmX10 (by decide) qw_948 rfl rfl (by decide +kernel) (by decide +kernel) (by decide +kernel) (Nat.le_of_ble_eq_true rfl) rfl dX10_tries_182 ?_
                          refine zz_aload_n C 0 dX10_tries_185 rfl rfl ?_
                          refine zz_lload_n C 1 dX10_tries_186 rfl rfl ?_
                          refine zz_put (ty := .long) (ws' := wMod z mh xT xD xP xR xC xW xA xH xU xB xI xN xM xY xK xL xE xS m_ra m_ca m_tp m_fa m_at m_wr m_va m_pl m_st gl_1 m_bl pz 1 m_yl m_yw m_nu m_nl m_lu m_ll m_ln kT kD kP kR gC_1 kW kA kH gU_1 kB gI kN kM kY kK kL kE kS) C 0 (ci := 10) (k := 21) rfl rfl in_X10 tyX10 tyX10_ok nmX10 (by decide) qw_947 rfl rfl (by decide +kernel) rfl rfl (Nat.le_of_ble_eq_true rfl) rfl dX10_tries_187 ?_
                          refine zz_aload_n C 0 dX10_tries_190 rfl rfl ?_
                          refine zz_aload_n C 0 dX10_tries_191 rfl rfl ?_
                          refine zz_get C 0 (ci := 10) (k := 18) rfl rfl in_X10 (by decide) qw_944 rfl rfl dX10_tries_192 ?_
                          refine zz_put (ty := .long) (ws' := wMod z mh xT xD xP xR xC xW xA xH xU xB xI xN xM xY xK xL xE xS m_ra m_ca m_tp m_fa m_at m_wr m_va m_pl m_st gl_1 gl_1 pz 1 m_yl m_yw m_nu m_nl m_lu m_ll m_ln kT kD kP kR gC_1 kW kA kH gU_1 kB gI kN kM kY kK kL kE kS) C 0 (ci := 10) (k := 20) rfl rfl in_X10 tyX10 tyX10_ok nmX10 (by decide) qw_946 rfl rfl (by decide +kernel) rfl rfl (Nat.le_of_ble_eq_true rfl) rfl dX10_tries_195 ?_
                          refine zz_iconst C dX10_tries_198 ?_
                          refine zz_istore (ls' := [(4, .int (iI 0)), (0, .ref mh), (1, .long (iL pz)), (3, .int (iI o9))]) C dX10_tries_199 (by decide) rfl ?_
                          have Lp201 : ∀ (fu9 : Nat) (c9 : Int) (gB : Int → Int), (0 ≤ c9 ∧ c9 ≤ 10) → (∀ c : Int, 0 ≤ c → c < c9 → gB c = gI c) → (10 - c9).toNat < fu9 → zzW p l e rm_X10_tries s m ([.ref mh] : List Value).toArray below meth c z A 5 (MQ below (zQ z A (po_X10_tries z mh xT xD xP xR xC xW xA xH xU xB xI xN xM xY xK xL xE xS m_ra m_ca m_tp m_fa m_at m_wr m_va m_pl m_st m_lo m_bl m_bc m_fo m_yl m_yw m_nu m_nl m_lu m_ll m_ln kT kD kP kR kC kW kA kH kU kB kI kN kM kY kK kL kE kS)) ([.ref mh] : List Value).toArray s 0 0 A) 0 0 (wMod z mh xT xD xP xR xC xW xA xH xU xB xI xN xM xY xK xL xE xS m_ra m_ca m_tp m_fa m_at m_wr m_va m_pl m_st gl_1 gl_1 pz 1 m_yl m_yw m_nu m_nl m_lu m_ll m_ln kT kD kP kR gC_1 kW kA kH gU_1 gB gI kN kM kY kK kL kE kS) [(0, .ref mh), (1, .long (iL pz)), (3, .int (iI o9)), (4, .int (iI c9))] [] 201 := by
                            intro fu9
                            induction fu9 with
                            | zero => intro c9 gB hc9 hB h9; exact absurd h9 (Nat.not_lt_zero _)
                            | succ fu9 ih201 =>
                              intro c9 gB hc9 hB hm201
                              refine zz_iload C 3 dX10_tries_201 rfl ?_
                              refine zz_bipush C dX10_tries_203 (by decide +kernel) ?_
                              refine zz_icmp_ge (tgt := 228) C dX10_tries_205 (by decide) (by unfold rI; omega) (by unfold rI; omega) (fun c205 => ?_) (fun c205 => ?_)
                              · skip
                                exact zz_vret C hr dX10_tries_228 ⟨gC_1, gU_1, gl_1, gI, 1, gl_1, pz, gB, Or.inr ⟨pz, gl_1, gI, hca, hmb, by omega, by first | exact Or.inl ⟨by rcases hst with h | h; exact Or.inl h.1; exact Or.inr (lexS_yes h.2 (by omega) (by omega)), rfl, rfl, rfl, fun c h0 h1 => hB c h0 (by omega)⟩ | exact Or.inr ⟨⟨by omega, lexS_no (hst.resolve_left (fun h => by omega)).2 (by omega) (by omega) (by have := (hfv (by omega)).1; omega) (by omega) (fun _ => by omega)⟩, rfl, rfl, rfl, rfl⟩⟩, rfl, rfl⟩
                              · skip
                                refine zz_aload_n C 0 dX10_tries_208 rfl rfl ?_
                                refine zz_get C 0 (ci := 10) (k := 19) rfl rfl in_X10 (by decide) qw_945 rfl rfl dX10_tries_209 ?_
                                refine zz_iload C 3 dX10_tries_212 rfl ?_
                                refine zz_aload_n C 0 dX10_tries_214 rfl rfl ?_
                                refine zz_get C 0 (ci := 10) (k := 23) rfl rfl in_X10 (by decide) qw_949 rfl rfl dX10_tries_215 ?_
                                refine zz_iload C 3 dX10_tries_218 rfl ?_
                                refine zz_lald C 11 rfl (by omega) (by omega) (by decide) dX10_tries_220 ?_
                                refine zz_last (ws' := wMod z mh xT xD xP xR xC xW xA xH xU xB xI xN xM xY xK xL xE xS m_ra m_ca m_tp m_fa m_at m_wr m_va m_pl m_st gl_1 gl_1 pz 1 m_yl m_yw m_nu m_nl m_lu m_ll m_ln kT kD kP kR gC_1 kW kA kH gU_1 (zup gB c9 (gI c9)) gI kN kM kY kK kL kE kS) C 10 rfl (by omega) (by omega) (by decide) rfl dX10_tries_221 ?_
                                refine zz_iinc (ls' := [(4, .int (iI (c9 + 1))), (0, .ref mh), (1, .long (iL pz)), (3, .int (iI o9))]) C 3 dX10_tries_222 rfl (by decide) rfl ?_
                                refine zz_goto (tgt := 201) C dX10_tries_225 (by decide) ?_
                                refine zz_loc (ls' := [(0, .ref mh), (1, .long (iL pz)), (3, .int (iI o9)), (4, .int (iI (c9 + 1)))]) [1, 2, 3, 0] rfl ?_
                                exact ih201 (c9 + 1) (zup gB c9 (gI c9)) (by omega) (zup_all hB rfl) (by omega)
                          refine zz_loc (ls' := [(0, .ref mh), (1, .long (iL pz)), (3, .int (iI o9)), (4, .int (iI 0))]) [1, 2, 3, 0] rfl ?_
                          exact Lp201 _ 0 kB (by omega) (fun c h0 h1 => by omega) (Nat.lt_succ_self _)
                      · skip
                        refine zz_iload_n C 2 dX10_tries_140 rfl rfl ?_
                        refine zz_if_ne (tgt := 176) C dX10_tries_141 (by decide) (by unfold rI; omega) (fun c141 => ?_) (fun c141 => ?_)
                        · skip
                          refine zz_iload_n C 2 dX10_tries_176 rfl rfl ?_
                          refine zz_if_ge (tgt := 228) C dX10_tries_177 (by decide) (by unfold rI; omega) (fun c177 => ?_) (fun c177 => ?_)
                          · skip
                            exact zz_vret C hr dX10_tries_228 ⟨gC_1, gU_1, gl_1, gI, m_fo, m_bl, m_bc, kB, Or.inr ⟨pz, gl_1, gI, hca, hmb, by omega, by first | exact Or.inl ⟨by rcases hst with h | h; exact Or.inl h.1; exact Or.inr (lexS_yes h.2 (by omega) (by omega)), rfl, rfl, rfl, fun c h0 h1 => hB c h0 (by omega)⟩ | exact Or.inr ⟨⟨by omega, lexS_no (hst.resolve_left (fun h => by omega)).2 (by omega) (by omega) (by have := (hfv (by omega)).1; omega) (by omega) (fun _ => by omega)⟩, rfl, rfl, rfl, rfl⟩⟩, rfl, rfl⟩
                          · skip
                            refine zz_aload_n C 0 dX10_tries_180 rfl rfl ?_
                            refine zz_iconst C dX10_tries_181 ?_
                            refine zz_put (ty := .boolean) (ws' := wMod z mh xT xD xP xR xC xW xA xH xU xB xI xN xM xY xK xL xE xS m_ra m_ca m_tp m_fa m_at m_wr m_va m_pl m_st gl_1 m_bl m_bc 1 m_yl m_yw m_nu m_nl m_lu m_ll m_ln kT kD kP kR gC_1 kW kA kH gU_1 kB gI kN kM kY kK kL kE kS) C 0 (ci := 10) (k := 22) rfl rfl in_X10 tyX10 tyX10_ok nmX10 (by decide) qw_948 rfl rfl (by decide +kernel) (by decide +kernel) (by decide +kernel) (Nat.le_of_ble_eq_true rfl) rfl dX10_tries_182 ?_
                            refine zz_aload_n C 0 dX10_tries_185 rfl rfl ?_
                            refine zz_lload_n C 1 dX10_tries_186 rfl rfl ?_
                            refine zz_put (ty := .long) (ws' := wMod z mh xT xD xP xR xC xW xA xH xU xB xI xN xM xY xK xL xE xS m_ra m_ca m_tp m_fa m_at m_wr m_va m_pl m_st gl_1 m_bl pz 1 m_yl m_yw m_nu m_nl m_lu m_ll m_ln kT kD kP kR gC_1 kW kA kH gU_1 kB gI kN kM kY kK kL kE kS) C 0 (ci := 10) (k := 21) rfl rfl in_X10 tyX10 tyX10_ok nmX10 (by decide) qw_947 rfl rfl (by decide +kernel) rfl rfl (Nat.le_of_ble_eq_true rfl) rfl dX10_tries_187 ?_
                            refine zz_aload_n C 0 dX10_tries_190 rfl rfl ?_
                            refine zz_aload_n C 0 dX10_tries_191 rfl rfl ?_
                            refine zz_get C 0 (ci := 10) (k := 18) rfl rfl in_X10 (by decide) qw_944 rfl rfl dX10_tries_192 ?_
                            refine zz_put (ty := .long) (ws' := wMod z mh xT xD xP xR xC xW xA xH xU xB xI xN xM xY xK xL xE xS m_ra m_ca m_tp m_fa m_at m_wr m_va m_pl m_st gl_1 gl_1 pz 1 m_yl m_yw m_nu m_nl m_lu m_ll m_ln kT kD kP kR gC_1 kW kA kH gU_1 kB gI kN kM kY kK kL kE kS) C 0 (ci := 10) (k := 20) rfl rfl in_X10 tyX10 tyX10_ok nmX10 (by decide) qw_946 rfl rfl (by decide +kernel) rfl rfl (Nat.le_of_ble_eq_true rfl) rfl dX10_tries_195 ?_
                            refine zz_iconst C dX10_tries_198 ?_
                            refine zz_istore (ls' := [(4, .int (iI 0)), (0, .ref mh), (1, .long (iL pz)), (3, .int (iI o9))]) C dX10_tries_199 (by decide) rfl ?_
                            have Lp201 : ∀ (fu9 : Nat) (c9 : Int) (gB : Int → Int), (0 ≤ c9 ∧ c9 ≤ 10) → (∀ c : Int, 0 ≤ c → c < c9 → gB c = gI c) → (10 - c9).toNat < fu9 → zzW p l e rm_X10_tries s m ([.ref mh] : List Value).toArray below meth c z A 5 (MQ below (zQ z A (po_X10_tries z mh xT xD xP xR xC xW xA xH xU xB xI xN xM xY xK xL xE xS m_ra m_ca m_tp m_fa m_at m_wr m_va m_pl m_st m_lo m_bl m_bc m_fo m_yl m_yw m_nu m_nl m_lu m_ll m_ln kT kD kP kR kC kW kA kH kU kB kI kN kM kY kK kL kE kS)) ([.ref mh] : List Value).toArray s 0 0 A) 0 0 (wMod z mh xT xD xP xR xC xW xA xH xU xB xI xN xM xY xK xL xE xS m_ra m_ca m_tp m_fa m_at m_wr m_va m_pl m_st gl_1 gl_1 pz 1 m_yl m_yw m_nu m_nl m_lu m_ll m_ln kT kD kP kR gC_1 kW kA kH gU_1 gB gI kN kM kY kK kL kE kS) [(0, .ref mh), (1, .long (iL pz)), (3, .int (iI o9)), (4, .int (iI c9))] [] 201 := by
                              intro fu9
                              induction fu9 with
                              | zero => intro c9 gB hc9 hB h9; exact absurd h9 (Nat.not_lt_zero _)
                              | succ fu9 ih201 =>
                                intro c9 gB hc9 hB hm201
                                refine zz_iload C 3 dX10_tries_201 rfl ?_
                                refine zz_bipush C dX10_tries_203 (by decide +kernel) ?_
                                refine zz_icmp_ge (tgt := 228) C dX10_tries_205 (by decide) (by unfold rI; omega) (by unfold rI; omega) (fun c205 => ?_) (fun c205 => ?_)
                                · skip
                                  exact zz_vret C hr dX10_tries_228 ⟨gC_1, gU_1, gl_1, gI, 1, gl_1, pz, gB, Or.inr ⟨pz, gl_1, gI, hca, hmb, by omega, by first | exact Or.inl ⟨by rcases hst with h | h; exact Or.inl h.1; exact Or.inr (lexS_yes h.2 (by omega) (by omega)), rfl, rfl, rfl, fun c h0 h1 => hB c h0 (by omega)⟩ | exact Or.inr ⟨⟨by omega, lexS_no (hst.resolve_left (fun h => by omega)).2 (by omega) (by omega) (by have := (hfv (by omega)).1; omega) (by omega) (fun _ => by omega)⟩, rfl, rfl, rfl, rfl⟩⟩, rfl, rfl⟩
                                · skip
                                  refine zz_aload_n C 0 dX10_tries_208 rfl rfl ?_
                                  refine zz_get C 0 (ci := 10) (k := 19) rfl rfl in_X10 (by decide) qw_945 rfl rfl dX10_tries_209 ?_
                                  refine zz_iload C 3 dX10_tries_212 rfl ?_
                                  refine zz_aload_n C 0 dX10_tries_214 rfl rfl ?_
                                  refine zz_get C 0 (ci := 10) (k := 23) rfl rfl in_X10 (by decide) qw_949 rfl rfl dX10_tries_215 ?_
                                  refine zz_iload C 3 dX10_tries_218 rfl ?_
                                  refine zz_lald C 11 rfl (by omega) (by omega) (by decide) dX10_tries_220 ?_
                                  refine zz_last (ws' := wMod z mh xT xD xP xR xC xW xA xH xU xB xI xN xM xY xK xL xE xS m_ra m_ca m_tp m_fa m_at m_wr m_va m_pl m_st gl_1 gl_1 pz 1 m_yl m_yw m_nu m_nl m_lu m_ll m_ln kT kD kP kR gC_1 kW kA kH gU_1 (zup gB c9 (gI c9)) gI kN kM kY kK kL kE kS) C 10 rfl (by omega) (by omega) (by decide) rfl dX10_tries_221 ?_
                                  refine zz_iinc (ls' := [(4, .int (iI (c9 + 1))), (0, .ref mh), (1, .long (iL pz)), (3, .int (iI o9))]) C 3 dX10_tries_222 rfl (by decide) rfl ?_
                                  refine zz_goto (tgt := 201) C dX10_tries_225 (by decide) ?_
                                  refine zz_loc (ls' := [(0, .ref mh), (1, .long (iL pz)), (3, .int (iI o9)), (4, .int (iI (c9 + 1)))]) [1, 2, 3, 0] rfl ?_
                                  exact ih201 (c9 + 1) (zup gB c9 (gI c9)) (by omega) (zup_all hB rfl) (by omega)
                            refine zz_loc (ls' := [(0, .ref mh), (1, .long (iL pz)), (3, .int (iI o9)), (4, .int (iI 0))]) [1, 2, 3, 0] rfl ?_
                            exact Lp201 _ 0 kB (by omega) (fun c h0 h1 => by omega) (Nat.lt_succ_self _)
                        · skip
                          have hf8 := hfv (by omega)
                          have hv1 := hmb.2.2 b9 (by omega) (by omega)
                          have hv2 := hf8.2.2.2 b9 (by omega) (by omega)
                          have hf7 := hf8.1
                          refine zz_aload_n C 0 dX10_tries_144 rfl rfl ?_
                          refine zz_get C 0 (ci := 10) (k := 23) rfl rfl in_X10 (by decide) qw_949 rfl rfl dX10_tries_145 ?_
                          refine zz_iload C 3 dX10_tries_148 rfl ?_
                          refine zz_lald C 11 rfl (by omega) (by omega) (by decide) dX10_tries_150 ?_
                          refine zz_aload_n C 0 dX10_tries_151 rfl rfl ?_
                          refine zz_get C 0 (ci := 10) (k := 18) rfl rfl in_X10 (by decide) qw_944 rfl rfl dX10_tries_152 ?_
                          refine zz_aload_n C 0 dX10_tries_155 rfl rfl ?_
                          refine zz_get C 0 (ci := 10) (k := 19) rfl rfl in_X10 (by decide) qw_945 rfl rfl dX10_tries_156 ?_
                          refine zz_iload C 3 dX10_tries_159 rfl ?_
                          refine zz_lald C 10 rfl (by omega) (by omega) (by decide) dX10_tries_161 ?_
                          refine zz_aload_n C 0 dX10_tries_162 rfl rfl ?_
                          refine zz_get C 0 (ci := 10) (k := 20) rfl rfl in_X10 (by decide) qw_946 rfl rfl dX10_tries_163 ?_
                          refine zz_callS (wr := wMod z mh xT xD xP xR xC xW xA xH xU xB xI xN xM xY xK xL xE xS m_ra m_ca m_tp m_fa m_at m_wr m_va m_pl m_st gl_1 m_bl m_bc m_fo m_yl m_yw m_nu m_nl m_lu m_ll m_ln kT kD kP kR gC_1 kW kA kH gU_1 kB gI kN kM kY kK kL kE kS) (st := []) C (cc_X10_compares l z (gI b9) gl_1 (kB b9) m_bl (by omega) (by omega) (by omega) (by omega)) yk_X10_compares qw_1226 ⟨by decide, by decide⟩ [] [0, 1, 2, 3, 4, 5, 6, 7, 8, 9, 10, 11, 12, 13, 14, 15, 16, 17, 18] rfl rfl rfl rfl (by decide) rfl rfl (Nat.le_of_ble_eq_true rfl) dX10_tries_166 ⟨by decide, by decide⟩ ?_
                          rintro _ _ ⟨q_166, hq_166, rfl, rfl⟩
                          refine zz_st (st' := [.int (iI q_166)]) rfl (zz_ws (ws' := wMod z mh xT xD xP xR xC xW xA xH xU xB xI xN xM xY xK xL xE xS m_ra m_ca m_tp m_fa m_at m_wr m_va m_pl m_st gl_1 m_bl m_bc m_fo m_yl m_yw m_nu m_nl m_lu m_ll m_ln kT kD kP kR gC_1 kW kA kH gU_1 kB gI kN kM kY kK kL kE kS) rfl ?_)
                          refine zz_istore_n (ls' := [(3, .int (iI q_166)), (0, .ref mh), (1, .long (iL pz)), (4, .int (iI b9))]) C dX10_tries_169 rfl (by decide) rfl ?_
                          refine zz_iinc (ls' := [(4, .int (iI (b9 + 1))), (3, .int (iI q_166)), (0, .ref mh), (1, .long (iL pz))]) C 3 dX10_tries_170 rfl (by decide) rfl ?_
                          refine zz_goto (tgt := 129) C dX10_tries_173 (by decide) ?_
                          refine zz_loc (ls' := [(0, .ref mh), (1, .long (iL pz)), (3, .int (iI q_166)), (4, .int (iI (b9 + 1)))]) [2, 3, 1, 0] rfl ?_
                          exact ih129 (b9 + 1) q_166 (by omega) (Or.inr ⟨by omega, lexS_cs (hst.resolve_left (fun h => by omega)).2 (by omega) (by omega) (by rw [kk_s _ _ hb9.1, kk_s _ _ hb9.1]; exact hq_166)⟩) (by omega)
                  refine zz_loc (ls' := [(0, .ref mh), (1, .long (iL pz)), (3, .int (iI q_118)), (4, .int (iI 0))]) [2, 3, 1, 0] rfl ?_
                  exact Lp129 _ 0 q_118 (by omega) (by first | exact Or.inr ⟨by omega, hs9⟩ | exact Or.inl ⟨by omega, rfl⟩) (Nat.lt_succ_self _)
              · skip
                refine zz_aload_n C 0 dX10_tries_43 rfl rfl ?_
                refine zz_get C 0 (ci := 10) (k := 17) rfl rfl in_X10 (by decide) qw_943 rfl rfl dX10_tries_44 ?_
                refine zz_iload_n C 2 dX10_tries_47 rfl rfl ?_
                have hu9 := hsl.2.2.1 k (by omega) (by omega)
                have hh9 := hHr k (by omega) (by omega)
                refine zz_lald C 9 rfl (by omega) (by omega) (by decide) dX10_tries_48 ?_
                refine zz_lconst (a := 0) C dX10_tries_49 (by decide +kernel) ?_
                refine zz_lcmp_ge (tgt := 55) C dX10_tries_50 dX10_tries_51 (by decide) (by unfold rL; omega) (by unfold rL; omega) (fun c50 => ?_) (fun c50 => ?_)
                · skip
                  refine zz_aload_n C 0 dX10_tries_55 rfl rfl ?_
                  refine zz_get C 0 (ci := 10) (k := 23) rfl rfl in_X10 (by decide) qw_949 rfl rfl dX10_tries_56 ?_
                  refine zz_aload_n C 0 dX10_tries_59 rfl rfl ?_
                  refine zz_get C 0 (ci := 10) (k := 16) rfl rfl in_X10 (by decide) qw_942 rfl rfl dX10_tries_60 ?_
                  refine zz_iload_n C 2 dX10_tries_63 rfl rfl ?_
                  refine zz_iald C 8 rfl (by omega) (by omega) (by decide) dX10_tries_64 ?_
                  refine zz_aload_n C 0 dX10_tries_65 rfl rfl ?_
                  refine zz_get C 0 (ci := 10) (k := 17) rfl rfl in_X10 (by decide) qw_943 rfl rfl dX10_tries_66 ?_
                  refine zz_iload_n C 2 dX10_tries_69 rfl rfl ?_
                  refine zz_lald C 9 rfl (by omega) (by omega) (by decide) dX10_tries_70 ?_
                  refine zz_last (ws' := wMod z mh xT xD xP xR xC xW xA xH xU xB xI xN xM xY xK xL xE xS m_ra m_ca m_tp m_fa m_at m_wr m_va m_pl m_st gl_1 m_bl m_bc m_fo m_yl m_yw m_nu m_nl m_lu m_ll m_ln kT kD kP kR gC_1 kW kA kH gU_1 kB (zup gI (kH k) (gU_1 k)) kN kM kY kK kL kE kS) C 11 rfl (by omega) (by omega) (by decide) rfl dX10_tries_71 ?_
                  refine zz_lload_n C 1 dX10_tries_72 rfl rfl ?_
                  refine zz_aload_n C 0 dX10_tries_73 rfl rfl ?_
                  refine zz_get C 0 (ci := 10) (k := 17) rfl rfl in_X10 (by decide) qw_943 rfl rfl dX10_tries_74 ?_
                  refine zz_iload_n C 2 dX10_tries_77 rfl rfl ?_
                  refine zz_lald C 9 rfl (by omega) (by omega) (by decide) dX10_tries_78 ?_
                  refine zz_aload_n C 0 dX10_tries_79 rfl rfl ?_
                  refine zz_aload_n C 0 dX10_tries_80 rfl rfl ?_
                  refine zz_get C 0 (ci := 10) (k := 16) rfl rfl in_X10 (by decide) qw_942 rfl rfl dX10_tries_81 ?_
                  refine zz_iload_n C 2 dX10_tries_84 rfl rfl ?_
                  refine zz_iald C 8 rfl (by omega) (by omega) (by decide) dX10_tries_85 ?_
                  refine zz_callV (wr := ([] : va_W)) (st := [.long (iL (gU_1 k)), .long (iL pz)]) C (cc_X10_priceOf l z mh xT xD xP xR xC xW xA xH xU xB xI xN xM xY xK xL xE xS m_ra m_ca m_tp m_fa m_at m_wr m_va m_pl m_st gl_1 m_bl m_bc m_fo m_yl m_yw m_nu m_nl m_lu m_ll m_ln kT kD kP kR gC_1 kW kA kH gU_1 kB (zup gI (kH k) (gU_1 k)) kN kM kY kK kL kE kS (kH k) (by omega) (by omega)) yk_X10_priceOf qw_1222 ⟨by decide, by decide⟩ [0, 1, 2, 3, 4, 5, 6, 7, 8, 9, 10, 11, 12, 13, 14, 15, 16, 17, 18] [] rfl rfl rfl rfl (by decide) 0 10 rfl rfl rfl rfl (Nat.le_of_ble_eq_true rfl) dX10_tries_86 ⟨by decide, by decide⟩ ?_
                  rintro _ _ ⟨rfl, rfl⟩
                  refine zz_st (st' := [.long (iL (mP kT (kH k))), .long (iL (gU_1 k)), .long (iL pz)]) rfl (zz_ws (ws' := wMod z mh xT xD xP xR xC xW xA xH xU xB xI xN xM xY xK xL xE xS m_ra m_ca m_tp m_fa m_at m_wr m_va m_pl m_st gl_1 m_bl m_bc m_fo m_yl m_yw m_nu m_nl m_lu m_ll m_ln kT kD kP kR gC_1 kW kA kH gU_1 kB (zup gI (kH k) (gU_1 k)) kN kM kY kK kL kE kS) rfl ?_)
                  have hp9 := mP_rng hkT (c := kH k) (by omega)
                  refine zz_lmul C dX10_tries_89 ?_
                  refine zz_ladd C dX10_tries_90 ?_
                  refine zz_lstore_n (ls' := [(1, .long (iL (pz + ((gU_1 k) * (mP kT (kH k)))))), (0, .ref mh), (3, .int (iI k))]) C dX10_tries_91 rfl (by decide) rfl ?_
                  refine zz_iinc (ls' := [(3, .int (iI (k + 1))), (1, .long (iL (pz + ((gU_1 k) * (mP kT (kH k)))))), (0, .ref mh)]) C 2 dX10_tries_92 rfl (by decide) rfl ?_
                  refine zz_goto (tgt := 33) C dX10_tries_95 (by decide) ?_
                  refine zz_loc (ls' := [(0, .ref mh), (1, .long (iL (pz + ((gU_1 k) * (mP kT (kH k)))))), (3, .int (iI (k + 1)))]) [2, 1, 0] rfl ?_
                  exact ih33 (k + 1) (pz + ((gU_1 k) * (mP kT (kH k)))) (zup gI (kH k) (gU_1 k)) (by omega) (roM_step hro hj9 hk.1 (by omega) (by omega)) (by rw [zsum_succ _ hk.1, ← hpz]) (by omega)
                · skip
                  exact zz_vret C hr dX10_tries_54 ⟨gC_1, gU_1, gl_1, gI, m_fo, m_bl, m_bc, kB, Or.inl ⟨cand_sno hk0.1 hk0.2 hsl hk.1 (by omega) (by omega), rfl, rfl, rfl, rfl⟩, rfl, rfl⟩
          refine zz_loc (ls' := [(0, .ref mh), (1, .long (iL 0)), (3, .int (iI 0))]) [2, 1, 0] rfl ?_
          exact Lp33 _ 0 0 gI (by omega) ⟨fun k9 h0 h1 => by omega, fun c h0 h1 h2 => hI c h0 (by omega)⟩ rfl (Nat.lt_succ_self _)
        · skip
          refine zz_aload_n C 0 dX10_tries_16 rfl rfl ?_
          refine zz_get C 0 (ci := 10) (k := 23) rfl rfl in_X10 (by decide) qw_949 rfl rfl dX10_tries_17 ?_
          refine zz_iload_n C 1 dX10_tries_20 rfl rfl ?_
          refine zz_lconst (a := 0) C dX10_tries_21 (by decide +kernel) ?_
          refine zz_last (ws' := wMod z mh xT xD xP xR xC xW xA xH xU xB xI xN xM xY xK xL xE xS m_ra m_ca m_tp m_fa m_at m_wr m_va m_pl m_st gl_1 m_bl m_bc m_fo m_yl m_yw m_nu m_nl m_lu m_ll m_ln kT kD kP kR gC_1 kW kA kH gU_1 kB (zup gI z9 0) kN kM kY kK kL kE kS) C 11 rfl (by omega) (by omega) (by decide) rfl dX10_tries_22 ?_
          refine zz_iinc (ls' := [(1, .int (iI (z9 + 1))), (0, .ref mh)]) C 1 dX10_tries_23 rfl (by decide) rfl ?_
          refine zz_goto (tgt := 10) C dX10_tries_26 (by decide) ?_
          refine zz_loc (ls' := [(0, .ref mh), (1, .int (iI (z9 + 1)))]) [1, 0] rfl ?_
          exact ih10 (z9 + 1) (zup gI z9 0) (by omega) (zup_all (f := fun _ => 0) hI rfl) (by omega)
    refine zz_loc (ls' := [(0, .ref mh), (1, .int (iI 0))]) [1, 0] rfl ?_
    exact Lp10 _ 0 kI (by omega) (fun c h0 h1 => by omega) (Nat.lt_succ_self _)
  · skip
    have hno := (hq_1.resolve_left (fun h => by omega)).2
    exact zz_vret C hr dX10_tries_7 ⟨gC_1, gU_1, gl_1, kI, m_fo, m_bl, m_bc, kB, Or.inl ⟨fun D V h => h.2.1 hno, rfl, rfl, rfl, rfl⟩, rfl, rfl⟩
abbrev po_X10_choosesOn (z : zC) (mh : Nat) (xT : Nat) (xD : Nat) (xP : Nat) (xR : Nat) (xC : Nat) (xW : Nat) (xA : Nat) (xH : Nat) (xU : Nat) (xB : Nat) (xI : Nat) (xN : Nat) (xM : Nat) (xY : Nat) (xK : Nat) (xL : Nat) (xE : Nat) (xS : Nat) (m_ra : Int) (m_ca : Int) (m_tp : Int) (m_fa : Int) (m_at : Int) (m_wr : Int) (m_va : Int) (m_pl : Int) (m_st : Int) (m_lo : Int) (m_bl : Int) (m_bc : Int) (m_fo : Int) (m_yl : Int) (m_yw : Int) (m_nu : Int) (m_nl : Int) (m_lu : Int) (m_ll : Int) (m_ln : Int) (kT : Int → Int) (kD : Int → Int) (kP : Int → Int) (kR : Int → Int) (kC : Int → Int) (kW : Int → Int) (kA : Int → Int) (kH : Int → Int) (kU : Int → Int) (kB : Int → Int) (kI : Int → Int) (kN : Int → Int) (kM : Int → Int) (kY : Int → Int) (kK : Int → Int) (kL : Int → Int) (kE : Int → Int) (kS : Int → Int) (n9 : Int) : Option Value → va_W → Prop := fun v w => ∃ (q : Int), ∃ (gH : Int → Int), ((q = 1 ∧ srt4 (kT 0) n9 gH ∧ wt (kT 0) kH < wt (kT 0) gH ∧ wt (kT 0) gH ≤ 14640 ∧ ∀ g, srt4 (kT 0) n9 g → lx (kT 0) g gH → lx (kT 0) g kH ∨ eqT (kT 0) g kH) ∨ (q = 0 ∧ gH = kH ∧ ∀ g, srt4 (kT 0) n9 g → lx (kT 0) g kH ∨ eqT (kT 0) g kH)) ∧ v = some (Value.int (iI q)) ∧ w = wMod z mh xT xD xP xR xC xW xA xH xU xB xI xN xM xY xK xL xE xS m_ra m_ca m_tp m_fa m_at m_wr m_va m_pl m_st m_lo m_bl m_bc m_fo m_yl m_yw m_nu m_nl m_lu m_ll m_ln kT kD kP kR kC kW kA gH kU kB kI kN kM kY kK kL kE kS
abbrev rm_X10_choosesOn : Room := { frames := 1, cells := 0, slots := 0, locals := 40 }
set_option maxHeartbeats 4000000 in
set_option maxRecDepth 100000 in
theorem cc_X10_choosesOn (l : Launch) (z : zC) (mh : Nat) (xT : Nat) (xD : Nat) (xP : Nat) (xR : Nat) (xC : Nat) (xW : Nat) (xA : Nat) (xH : Nat) (xU : Nat) (xB : Nat) (xI : Nat) (xN : Nat) (xM : Nat) (xY : Nat) (xK : Nat) (xL : Nat) (xE : Nat) (xS : Nat) (m_ra : Int) (m_ca : Int) (m_tp : Int) (m_fa : Int) (m_at : Int) (m_wr : Int) (m_va : Int) (m_pl : Int) (m_st : Int) (m_lo : Int) (m_bl : Int) (m_bc : Int) (m_fo : Int) (m_yl : Int) (m_yw : Int) (m_nu : Int) (m_nl : Int) (m_lu : Int) (m_ll : Int) (m_ln : Int) (kT : Int → Int) (kD : Int → Int) (kP : Int → Int) (kR : Int → Int) (kC : Int → Int) (kW : Int → Int) (kA : Int → Int) (kH : Int → Int) (kU : Int → Int) (kB : Int → Int) (kI : Int → Int) (kN : Int → Int) (kM : Int → Int) (kY : Int → Int) (kK : Int → Int) (kL : Int → Int) (kE : Int → Int) (kS : Int → Int) (n9 : Int) (hkT : mOk kT) (hn9 : kT 0 ≤ n9 ∧ n9 ≤ 10) (hs : srt4 (kT 0) n9 kH) : zzMet l yX10_choosesOn cX10_choosesOn 5 (Option.some .boolean) rm_X10_choosesOn z [.ref mh, .int (iI n9)] (wMod z mh xT xD xP xR xC xW xA xH xU xB xI xN xM xY xK xL xE xS m_ra m_ca m_tp m_fa m_at m_wr m_va m_pl m_st m_lo m_bl m_bc m_fo m_yl m_yw m_nu m_nl m_lu m_ll m_ln kT kD kP kR kC kW kA kH kU kB kI kN kM kY kK kL kE kS) (po_X10_choosesOn z mh xT xD xP xR xC xW xA xH xU xB xI xN xM xY xK xL xE xS m_ra m_ca m_tp m_fa m_at m_wr m_va m_pl m_st m_lo m_bl m_bc m_fo m_yl m_yw m_nu m_nl m_lu m_ll m_ln kT kD kP kR kC kW kA kH kU kB kI kN kM kY kK kL kE kS n9) := by
  refine zzMet.of (own := RX10) (ls0 := [(0, .ref mh), (1, .int (iI n9))]) (by decide) rfl (Nat.le_of_ble_eq_true rfl) rfl ?_
  intro p e s m below meth c A C hr hnm
  have hk0 := hkT.1
  have hk1 := hkT.2.1
  obtain ⟨hi1, hi2⟩ := srt_of4 hk0.2 hs
  refine zz_aload_n C 0 dX10_choosesOn_0 rfl rfl ?_
  refine zz_get C 0 (ci := 10) (k := 1) rfl rfl in_X10 (by decide) qw_927 rfl rfl dX10_choosesOn_1 ?_
  refine zz_iconst C dX10_choosesOn_4 ?_
  refine zz_iald C 1 rfl (by omega) (by omega) (by decide) dX10_choosesOn_5 ?_
  refine zz_istore_n (ls' := [(2, .int (iI (kT 0))), (0, .ref mh), (1, .int (iI n9))]) C dX10_choosesOn_6 rfl (by decide) rfl ?_
  refine zz_iload_n C 0 dX10_choosesOn_7 rfl rfl ?_
  refine zz_iconst C dX10_choosesOn_8 ?_
  refine zz_isub C dX10_choosesOn_9 ?_
  refine zz_istore_n (ls' := [(3, .int (iI ((kT 0) - 1))), (2, .int (iI (kT 0))), (0, .ref mh), (1, .int (iI n9))]) C dX10_choosesOn_10 rfl (by decide) rfl ?_
  have Lp11 : ∀ (fu9 : Nat) (k : Int), (-1 ≤ k ∧ k < kT 0) → (∀ i : Int, k < i → i < kT 0 → kH i = n9 - kT 0 + i) → (k + 1).toNat < fu9 → zzW p l e rm_X10_choosesOn s m ([.ref mh, .int (iI n9)] : List Value).toArray below meth c z A 5 (MQ below (zQ z A (po_X10_choosesOn z mh xT xD xP xR xC xW xA xH xU xB xI xN xM xY xK xL xE xS m_ra m_ca m_tp m_fa m_at m_wr m_va m_pl m_st m_lo m_bl m_bc m_fo m_yl m_yw m_nu m_nl m_lu m_ll m_ln kT kD kP kR kC kW kA kH kU kB kI kN kM kY kK kL kE kS n9)) ([.ref mh, .int (iI n9)] : List Value).toArray s 0 0 A) 0 0 (wMod z mh xT xD xP xR xC xW xA xH xU xB xI xN xM xY xK xL xE xS m_ra m_ca m_tp m_fa m_at m_wr m_va m_pl m_st m_lo m_bl m_bc m_fo m_yl m_yw m_nu m_nl m_lu m_ll m_ln kT kD kP kR kC kW kA kH kU kB kI kN kM kY kK kL kE kS) [(0, .ref mh), (1, .int (iI n9)), (2, .int (iI (kT 0))), (3, .int (iI k))] [] 11 := by
    intro fu9
    induction fu9 with
    | zero => intro k hk hx h9; exact absurd h9 (Nat.not_lt_zero _)
    | succ fu9 ih11 =>
      intro k hk hx hm11
      refine zz_iload_n C 3 dX10_choosesOn_11 rfl rfl ?_
      refine zz_if_lt (tgt := 35) C dX10_choosesOn_12 (by decide) (by unfold rI; omega) (fun c12 => ?_) (fun c12 => ?_)
      · skip
        refine zz_iload_n C 3 dX10_choosesOn_35 rfl rfl ?_
        refine zz_if_ge (tgt := 41) C dX10_choosesOn_36 (by decide) (by unfold rI; omega) (fun c36 => ?_) (fun c36 => ?_)
        · skip
          have hh9 := hi1 k (by omega) (by omega)
          refine zz_aload_n C 0 dX10_choosesOn_41 rfl rfl ?_
          refine zz_get C 0 (ci := 10) (k := 16) rfl rfl in_X10 (by decide) qw_942 rfl rfl dX10_choosesOn_42 ?_
          refine zz_iload_n C 3 dX10_choosesOn_45 rfl rfl ?_
          refine zz_dup2 C dX10_choosesOn_46 rfl rfl ?_
          refine zz_iald C 8 rfl (by omega) (by omega) (by decide) dX10_choosesOn_47 ?_
          refine zz_iconst C dX10_choosesOn_48 ?_
          refine zz_iadd C dX10_choosesOn_49 ?_
          refine zz_iast (ws' := wMod z mh xT xD xP xR xC xW xA xH xU xB xI xN xM xY xK xL xE xS m_ra m_ca m_tp m_fa m_at m_wr m_va m_pl m_st m_lo m_bl m_bc m_fo m_yl m_yw m_nu m_nl m_lu m_ll m_ln kT kD kP kR kC kW kA (zup kH k ((kH k) + 1)) kU kB kI kN kM kY kK kL kE kS) C 8 rfl (by omega) (by omega) (by decide) rfl dX10_choosesOn_50 ?_
          refine zz_iload_n C 3 dX10_choosesOn_51 rfl rfl ?_
          refine zz_iconst C dX10_choosesOn_52 ?_
          refine zz_iadd C dX10_choosesOn_53 ?_
          refine zz_istore (ls' := [(4, .int (iI (k + 1))), (0, .ref mh), (1, .int (iI n9)), (2, .int (iI (kT 0))), (3, .int (iI k))]) C dX10_choosesOn_54 (by decide) rfl ?_
          have Lp56 : ∀ (fu9 : Nat) (j : Int) (gH : Int → Int), (k < j ∧ j ≤ kT 0) → (∀ i : Int, 0 ≤ i → i < k → gH i = kH i) → (gH k = kH k + 1) → (∀ i : Int, k < i → i < j → gH i = gH (i - 1) + 1) → (kT 0 - j).toNat < fu9 → zzW p l e rm_X10_choosesOn s m ([.ref mh, .int (iI n9)] : List Value).toArray below meth c z A 5 (MQ below (zQ z A (po_X10_choosesOn z mh xT xD xP xR xC xW xA xH xU xB xI xN xM xY xK xL xE xS m_ra m_ca m_tp m_fa m_at m_wr m_va m_pl m_st m_lo m_bl m_bc m_fo m_yl m_yw m_nu m_nl m_lu m_ll m_ln kT kD kP kR kC kW kA kH kU kB kI kN kM kY kK kL kE kS n9)) ([.ref mh, .int (iI n9)] : List Value).toArray s 0 0 A) 0 0 (wMod z mh xT xD xP xR xC xW xA xH xU xB xI xN xM xY xK xL xE xS m_ra m_ca m_tp m_fa m_at m_wr m_va m_pl m_st m_lo m_bl m_bc m_fo m_yl m_yw m_nu m_nl m_lu m_ll m_ln kT kD kP kR kC kW kA gH kU kB kI kN kM kY kK kL kE kS) [(0, .ref mh), (1, .int (iI n9)), (2, .int (iI (kT 0))), (3, .int (iI k)), (4, .int (iI j))] [] 56 := by
            intro fu9
            induction fu9 with
            | zero => intro j gH hj hg1 hg2 hg3 h9; exact absurd h9 (Nat.not_lt_zero _)
            | succ fu9 ih56 =>
              intro j gH hj hg1 hg2 hg3 hm56
              refine zz_iload C 4 dX10_choosesOn_56 rfl ?_
              refine zz_iload_n C 2 dX10_choosesOn_58 rfl rfl ?_
              refine zz_icmp_ge (tgt := 86) C dX10_choosesOn_59 (by decide) (by unfold rI; omega) (by unfold rI; omega) (fun c59 => ?_) (fun c59 => ?_)
              · skip
                refine zz_iconst C dX10_choosesOn_86 ?_
                exact zz_zret C hr (by decide +kernel) dX10_choosesOn_87 ⟨1, _, Or.inl ⟨rfl, nx_ok hk0.1 hk0.2 hn9.2 hs (by omega) (by omega) ⟨hg1, hg2, fun i h0 h1 => hg3 i h0 (by omega), by omega, hx⟩⟩, rfl, rfl⟩
              · skip
                refine zz_aload_n C 0 dX10_choosesOn_62 rfl rfl ?_
                refine zz_get C 0 (ci := 10) (k := 16) rfl rfl in_X10 (by decide) qw_942 rfl rfl dX10_choosesOn_63 ?_
                refine zz_iload C 4 dX10_choosesOn_66 rfl ?_
                refine zz_aload_n C 0 dX10_choosesOn_68 rfl rfl ?_
                refine zz_get C 0 (ci := 10) (k := 16) rfl rfl in_X10 (by decide) qw_942 rfl rfl dX10_choosesOn_69 ?_
                refine zz_iload C 4 dX10_choosesOn_72 rfl ?_
                refine zz_iconst C dX10_choosesOn_74 ?_
                refine zz_isub C dX10_choosesOn_75 ?_
                refine zz_iald C 8 rfl (by omega) (by omega) (by decide) dX10_choosesOn_76 ?_
                refine zz_iconst C dX10_choosesOn_77 ?_
                refine zz_iadd C dX10_choosesOn_78 ?_
                refine zz_iast (ws' := wMod z mh xT xD xP xR xC xW xA xH xU xB xI xN xM xY xK xL xE xS m_ra m_ca m_tp m_fa m_at m_wr m_va m_pl m_st m_lo m_bl m_bc m_fo m_yl m_yw m_nu m_nl m_lu m_ll m_ln kT kD kP kR kC kW kA (zup gH j ((gH (j - 1)) + 1)) kU kB kI kN kM kY kK kL kE kS) C 8 rfl (by omega) (by omega) (by decide) rfl dX10_choosesOn_79 ?_
                refine zz_iinc (ls' := [(4, .int (iI (j + 1))), (0, .ref mh), (1, .int (iI n9)), (2, .int (iI (kT 0))), (3, .int (iI k))]) C 4 dX10_choosesOn_80 rfl (by decide) rfl ?_
                refine zz_goto (tgt := 56) C dX10_choosesOn_83 (by decide) ?_
                refine zz_loc (ls' := [(0, .ref mh), (1, .int (iI n9)), (2, .int (iI (kT 0))), (3, .int (iI k)), (4, .int (iI (j + 1)))]) [1, 2, 3, 4, 0] rfl ?_
                exact ih56 (j + 1) (zup gH j ((gH (j - 1)) + 1)) (by omega) (fun i h0 h1 => by rw [zup_ne (by omega)]; exact hg1 i h0 h1) (by rw [zup_ne (by omega)]; exact hg2) (fun i h0 h1 => by rcases (show i = j ∨ i < j by omega) with e9 | e9; (rw [e9, zup_eq, zup_ne (by omega)]); (rw [zup_ne (by omega), zup_ne (by omega)]; exact hg3 i h0 e9)) (by omega)
          refine zz_loc (ls' := [(0, .ref mh), (1, .int (iI n9)), (2, .int (iI (kT 0))), (3, .int (iI k)), (4, .int (iI (k + 1)))]) [1, 2, 3, 4, 0] rfl ?_
          exact Lp56 _ (k + 1) (zup kH k ((kH k) + 1)) (by omega) (fun i h0 h1 => zup_ne (by omega)) (zup_eq _ _ _) (fun i h0 h1 => by omega) (Nat.lt_succ_self _)
        · skip
          refine zz_iconst C dX10_choosesOn_39 ?_
          exact zz_zret C hr (by decide +kernel) dX10_choosesOn_40 ⟨0, _, Or.inr ⟨rfl, rfl, nx_last hk0.1 hk0.2 (fun i h0 h1 => hx i (by omega) h1)⟩, rfl, rfl⟩
      · skip
        refine zz_aload_n C 0 dX10_choosesOn_15 rfl rfl ?_
        refine zz_get C 0 (ci := 10) (k := 16) rfl rfl in_X10 (by decide) qw_942 rfl rfl dX10_choosesOn_16 ?_
        have hh9 := hi1 k (by omega) (by omega)
        refine zz_iload_n C 3 dX10_choosesOn_19 rfl rfl ?_
        refine zz_iald C 8 rfl (by omega) (by omega) (by decide) dX10_choosesOn_20 ?_
        refine zz_iload_n C 1 dX10_choosesOn_21 rfl rfl ?_
        refine zz_iload_n C 2 dX10_choosesOn_22 rfl rfl ?_
        refine zz_isub C dX10_choosesOn_23 ?_
        refine zz_iload_n C 3 dX10_choosesOn_24 rfl rfl ?_
        refine zz_iadd C dX10_choosesOn_25 ?_
        refine zz_icmp_ne (tgt := 35) C dX10_choosesOn_26 (by decide) (by unfold rI; omega) (by unfold rI; omega) (fun c26 => ?_) (fun c26 => ?_)
        · skip
          refine zz_iload_n C 3 dX10_choosesOn_35 rfl rfl ?_
          refine zz_if_ge (tgt := 41) C dX10_choosesOn_36 (by decide) (by unfold rI; omega) (fun c36 => ?_) (fun c36 => ?_)
          · skip
            have hh9 := hi1 k (by omega) (by omega)
            refine zz_aload_n C 0 dX10_choosesOn_41 rfl rfl ?_
            refine zz_get C 0 (ci := 10) (k := 16) rfl rfl in_X10 (by decide) qw_942 rfl rfl dX10_choosesOn_42 ?_
            refine zz_iload_n C 3 dX10_choosesOn_45 rfl rfl ?_
            refine zz_dup2 C dX10_choosesOn_46 rfl rfl ?_
            refine zz_iald C 8 rfl (by omega) (by omega) (by decide) dX10_choosesOn_47 ?_
            refine zz_iconst C dX10_choosesOn_48 ?_
            refine zz_iadd C dX10_choosesOn_49 ?_
            refine zz_iast (ws' := wMod z mh xT xD xP xR xC xW xA xH xU xB xI xN xM xY xK xL xE xS m_ra m_ca m_tp m_fa m_at m_wr m_va m_pl m_st m_lo m_bl m_bc m_fo m_yl m_yw m_nu m_nl m_lu m_ll m_ln kT kD kP kR kC kW kA (zup kH k ((kH k) + 1)) kU kB kI kN kM kY kK kL kE kS) C 8 rfl (by omega) (by omega) (by decide) rfl dX10_choosesOn_50 ?_
            refine zz_iload_n C 3 dX10_choosesOn_51 rfl rfl ?_
            refine zz_iconst C dX10_choosesOn_52 ?_
            refine zz_iadd C dX10_choosesOn_53 ?_
            refine zz_istore (ls' := [(4, .int (iI (k + 1))), (0, .ref mh), (1, .int (iI n9)), (2, .int (iI (kT 0))), (3, .int (iI k))]) C dX10_choosesOn_54 (by decide) rfl ?_
            have Lp56 : ∀ (fu9 : Nat) (j : Int) (gH : Int → Int), (k < j ∧ j ≤ kT 0) → (∀ i : Int, 0 ≤ i → i < k → gH i = kH i) → (gH k = kH k + 1) → (∀ i : Int, k < i → i < j → gH i = gH (i - 1) + 1) → (kT 0 - j).toNat < fu9 → zzW p l e rm_X10_choosesOn s m ([.ref mh, .int (iI n9)] : List Value).toArray below meth c z A 5 (MQ below (zQ z A (po_X10_choosesOn z mh xT xD xP xR xC xW xA xH xU xB xI xN xM xY xK xL xE xS m_ra m_ca m_tp m_fa m_at m_wr m_va m_pl m_st m_lo m_bl m_bc m_fo m_yl m_yw m_nu m_nl m_lu m_ll m_ln kT kD kP kR kC kW kA kH kU kB kI kN kM kY kK kL kE kS n9)) ([.ref mh, .int (iI n9)] : List Value).toArray s 0 0 A) 0 0 (wMod z mh xT xD xP xR xC xW xA xH xU xB xI xN xM xY xK xL xE xS m_ra m_ca m_tp m_fa m_at m_wr m_va m_pl m_st m_lo m_bl m_bc m_fo m_yl m_yw m_nu m_nl m_lu m_ll m_ln kT kD kP kR kC kW kA gH kU kB kI kN kM kY kK kL kE kS) [(0, .ref mh), (1, .int (iI n9)), (2, .int (iI (kT 0))), (3, .int (iI k)), (4, .int (iI j))] [] 56 := by
              intro fu9
              induction fu9 with
              | zero => intro j gH hj hg1 hg2 hg3 h9; exact absurd h9 (Nat.not_lt_zero _)
              | succ fu9 ih56 =>
                intro j gH hj hg1 hg2 hg3 hm56
                refine zz_iload C 4 dX10_choosesOn_56 rfl ?_
                refine zz_iload_n C 2 dX10_choosesOn_58 rfl rfl ?_
                refine zz_icmp_ge (tgt := 86) C dX10_choosesOn_59 (by decide) (by unfold rI; omega) (by unfold rI; omega) (fun c59 => ?_) (fun c59 => ?_)
                · skip
                  refine zz_iconst C dX10_choosesOn_86 ?_
                  exact zz_zret C hr (by decide +kernel) dX10_choosesOn_87 ⟨1, _, Or.inl ⟨rfl, nx_ok hk0.1 hk0.2 hn9.2 hs (by omega) (by omega) ⟨hg1, hg2, fun i h0 h1 => hg3 i h0 (by omega), by omega, hx⟩⟩, rfl, rfl⟩
                · skip
                  refine zz_aload_n C 0 dX10_choosesOn_62 rfl rfl ?_
                  refine zz_get C 0 (ci := 10) (k := 16) rfl rfl in_X10 (by decide) qw_942 rfl rfl dX10_choosesOn_63 ?_
                  refine zz_iload C 4 dX10_choosesOn_66 rfl ?_
                  refine zz_aload_n C 0 dX10_choosesOn_68 rfl rfl ?_
                  refine zz_get C 0 (ci := 10) (k := 16) rfl rfl in_X10 (by decide) qw_942 rfl rfl dX10_choosesOn_69 ?_
                  refine zz_iload C 4 dX10_choosesOn_72 rfl ?_
                  refine zz_iconst C dX10_choosesOn_74 ?_
                  refine zz_isub C dX10_choosesOn_75 ?_
                  refine zz_iald C 8 rfl (by omega) (by omega) (by decide) dX10_choosesOn_76 ?_
                  refine zz_iconst C dX10_choosesOn_77 ?_
                  refine zz_iadd C dX10_choosesOn_78 ?_
                  refine zz_iast (ws' := wMod z mh xT xD xP xR xC xW xA xH xU xB xI xN xM xY xK xL xE xS m_ra m_ca m_tp m_fa m_at m_wr m_va m_pl m_st m_lo m_bl m_bc m_fo m_yl m_yw m_nu m_nl m_lu m_ll m_ln kT kD kP kR kC kW kA (zup gH j ((gH (j - 1)) + 1)) kU kB kI kN kM kY kK kL kE kS) C 8 rfl (by omega) (by omega) (by decide) rfl dX10_choosesOn_79 ?_
                  refine zz_iinc (ls' := [(4, .int (iI (j + 1))), (0, .ref mh), (1, .int (iI n9)), (2, .int (iI (kT 0))), (3, .int (iI k))]) C 4 dX10_choosesOn_80 rfl (by decide) rfl ?_
                  refine zz_goto (tgt := 56) C dX10_choosesOn_83 (by decide) ?_
                  refine zz_loc (ls' := [(0, .ref mh), (1, .int (iI n9)), (2, .int (iI (kT 0))), (3, .int (iI k)), (4, .int (iI (j + 1)))]) [1, 2, 3, 4, 0] rfl ?_
                  exact ih56 (j + 1) (zup gH j ((gH (j - 1)) + 1)) (by omega) (fun i h0 h1 => by rw [zup_ne (by omega)]; exact hg1 i h0 h1) (by rw [zup_ne (by omega)]; exact hg2) (fun i h0 h1 => by rcases (show i = j ∨ i < j by omega) with e9 | e9; (rw [e9, zup_eq, zup_ne (by omega)]); (rw [zup_ne (by omega), zup_ne (by omega)]; exact hg3 i h0 e9)) (by omega)
            refine zz_loc (ls' := [(0, .ref mh), (1, .int (iI n9)), (2, .int (iI (kT 0))), (3, .int (iI k)), (4, .int (iI (k + 1)))]) [1, 2, 3, 4, 0] rfl ?_
            exact Lp56 _ (k + 1) (zup kH k ((kH k) + 1)) (by omega) (fun i h0 h1 => zup_ne (by omega)) (zup_eq _ _ _) (fun i h0 h1 => by omega) (Nat.lt_succ_self _)
          · skip
            refine zz_iconst C dX10_choosesOn_39 ?_
            exact zz_zret C hr (by decide +kernel) dX10_choosesOn_40 ⟨0, _, Or.inr ⟨rfl, rfl, nx_last hk0.1 hk0.2 (fun i h0 h1 => hx i (by omega) h1)⟩, rfl, rfl⟩
        · skip
          refine zz_iinc (ls' := [(3, .int (iI (k + (-1)))), (0, .ref mh), (1, .int (iI n9)), (2, .int (iI (kT 0)))]) C 3 dX10_choosesOn_29 rfl (by decide) rfl ?_
          refine zz_goto (tgt := 11) C dX10_choosesOn_32 (by decide) ?_
          refine zz_loc (ls' := [(0, .ref mh), (1, .int (iI n9)), (2, .int (iI (kT 0))), (3, .int (iI (k + (-1))))]) [1, 2, 3, 0] rfl ?_
          exact ih11 (k + (-1)) (by omega) (fun i h0 h1 => by rcases (show i = k ∨ k < i by omega) with e9 | e9; (rw [e9]; omega); exact hx i e9 h1) (by omega)
  refine zz_loc (ls' := [(0, .ref mh), (1, .int (iI n9)), (2, .int (iI (kT 0))), (3, .int (iI ((kT 0) - 1)))]) [2, 3, 1, 0] rfl ?_
  exact Lp11 _ ((kT 0) - 1) (by omega) (fun i h0 h1 => by omega) (Nat.lt_succ_self _)
abbrev po_X10_isChosen (z : zC) (mh : Nat) (xT : Nat) (xD : Nat) (xP : Nat) (xR : Nat) (xC : Nat) (xW : Nat) (xA : Nat) (xH : Nat) (xU : Nat) (xB : Nat) (xI : Nat) (xN : Nat) (xM : Nat) (xY : Nat) (xK : Nat) (xL : Nat) (xE : Nat) (xS : Nat) (m_ra : Int) (m_ca : Int) (m_tp : Int) (m_fa : Int) (m_at : Int) (m_wr : Int) (m_va : Int) (m_pl : Int) (m_st : Int) (m_lo : Int) (m_bl : Int) (m_bc : Int) (m_fo : Int) (m_yl : Int) (m_yw : Int) (m_nu : Int) (m_nl : Int) (m_lu : Int) (m_ll : Int) (m_ln : Int) (kT : Int → Int) (kD : Int → Int) (kP : Int → Int) (kR : Int → Int) (kC : Int → Int) (kW : Int → Int) (kA : Int → Int) (kH : Int → Int) (kU : Int → Int) (kB : Int → Int) (kI : Int → Int) (kN : Int → Int) (kM : Int → Int) (kY : Int → Int) (kK : Int → Int) (kL : Int → Int) (kE : Int → Int) (kS : Int → Int) (w9 : Int) : Option Value → va_W → Prop := fun v w => ∃ (q : Int), ((q = 1 ∧ ∃ i : Int, 0 ≤ i ∧ i < kT 0 ∧ kH i = w9) ∨ (q = 0 ∧ ∀ i : Int, 0 ≤ i → i < kT 0 → ¬ kH i = w9)) ∧ v = some (Value.int (iI q)) ∧ w = wMod z mh xT xD xP xR xC xW xA xH xU xB xI xN xM xY xK xL xE xS m_ra m_ca m_tp m_fa m_at m_wr m_va m_pl m_st m_lo m_bl m_bc m_fo m_yl m_yw m_nu m_nl m_lu m_ll m_ln kT kD kP kR kC kW kA kH kU kB kI kN kM kY kK kL kE kS
abbrev rm_X10_isChosen : Room := { frames := 1, cells := 0, slots := 0, locals := 40 }
set_option maxHeartbeats 4000000 in
set_option maxRecDepth 100000 in
theorem cc_X10_isChosen (l : Launch) (z : zC) (mh : Nat) (xT : Nat) (xD : Nat) (xP : Nat) (xR : Nat) (xC : Nat) (xW : Nat) (xA : Nat) (xH : Nat) (xU : Nat) (xB : Nat) (xI : Nat) (xN : Nat) (xM : Nat) (xY : Nat) (xK : Nat) (xL : Nat) (xE : Nat) (xS : Nat) (m_ra : Int) (m_ca : Int) (m_tp : Int) (m_fa : Int) (m_at : Int) (m_wr : Int) (m_va : Int) (m_pl : Int) (m_st : Int) (m_lo : Int) (m_bl : Int) (m_bc : Int) (m_fo : Int) (m_yl : Int) (m_yw : Int) (m_nu : Int) (m_nl : Int) (m_lu : Int) (m_ll : Int) (m_ln : Int) (kT : Int → Int) (kD : Int → Int) (kP : Int → Int) (kR : Int → Int) (kC : Int → Int) (kW : Int → Int) (kA : Int → Int) (kH : Int → Int) (kU : Int → Int) (kB : Int → Int) (kI : Int → Int) (kN : Int → Int) (kM : Int → Int) (kY : Int → Int) (kK : Int → Int) (kL : Int → Int) (kE : Int → Int) (kS : Int → Int) (w9 : Int) (hkT : mOk kT) (hHr : ∀ i : Int, 0 ≤ i → i < kT 0 → 0 ≤ kH i ∧ kH i < 10) (hw9 : -1 ≤ w9 ∧ w9 < 10) : zzMet l yX10_isChosen cX10_isChosen 3 (Option.some .boolean) rm_X10_isChosen z [.ref mh, .int (iI w9)] (wMod z mh xT xD xP xR xC xW xA xH xU xB xI xN xM xY xK xL xE xS m_ra m_ca m_tp m_fa m_at m_wr m_va m_pl m_st m_lo m_bl m_bc m_fo m_yl m_yw m_nu m_nl m_lu m_ll m_ln kT kD kP kR kC kW kA kH kU kB kI kN kM kY kK kL kE kS) (po_X10_isChosen z mh xT xD xP xR xC xW xA xH xU xB xI xN xM xY xK xL xE xS m_ra m_ca m_tp m_fa m_at m_wr m_va m_pl m_st m_lo m_bl m_bc m_fo m_yl m_yw m_nu m_nl m_lu m_ll m_ln kT kD kP kR kC kW kA kH kU kB kI kN kM kY kK kL kE kS w9) := by
  refine zzMet.of (own := RX10) (ls0 := [(0, .ref mh), (1, .int (iI w9))]) (by decide) rfl (Nat.le_of_ble_eq_true rfl) rfl ?_
  intro p e s m below meth c A C hr hnm
  have hk0 := hkT.1
  have hk1 := hkT.2.1
  refine zz_iconst C dX10_isChosen_0 ?_
  refine zz_istore_n (ls' := [(2, .int (iI 0)), (0, .ref mh), (1, .int (iI w9))]) C dX10_isChosen_1 rfl (by decide) rfl ?_
  have Lp2 : ∀ (fu9 : Nat) (k : Int), (0 ≤ k ∧ k ≤ kT 0) → (∀ i : Int, 0 ≤ i → i < k → ¬ kH i = w9) → (kT 0 - k).toNat < fu9 → zzW p l e rm_X10_isChosen s m ([.ref mh, .int (iI w9)] : List Value).toArray below meth c z A 3 (MQ below (zQ z A (po_X10_isChosen z mh xT xD xP xR xC xW xA xH xU xB xI xN xM xY xK xL xE xS m_ra m_ca m_tp m_fa m_at m_wr m_va m_pl m_st m_lo m_bl m_bc m_fo m_yl m_yw m_nu m_nl m_lu m_ll m_ln kT kD kP kR kC kW kA kH kU kB kI kN kM kY kK kL kE kS w9)) ([.ref mh, .int (iI w9)] : List Value).toArray s 0 0 A) 0 0 (wMod z mh xT xD xP xR xC xW xA xH xU xB xI xN xM xY xK xL xE xS m_ra m_ca m_tp m_fa m_at m_wr m_va m_pl m_st m_lo m_bl m_bc m_fo m_yl m_yw m_nu m_nl m_lu m_ll m_ln kT kD kP kR kC kW kA kH kU kB kI kN kM kY kK kL kE kS) [(0, .ref mh), (1, .int (iI w9)), (2, .int (iI k))] [] 2 := by
    intro fu9
    induction fu9 with
    | zero => intro k hk hx h9; exact absurd h9 (Nat.not_lt_zero _)
    | succ fu9 ih2 =>
      intro k hk hx hm2
      refine zz_iload_n C 2 dX10_isChosen_2 rfl rfl ?_
      refine zz_aload_n C 0 dX10_isChosen_3 rfl rfl ?_
      refine zz_get C 0 (ci := 10) (k := 1) rfl rfl in_X10 (by decide) qw_927 rfl rfl dX10_isChosen_4 ?_
      refine zz_iconst C dX10_isChosen_7 ?_
      refine zz_iald C 1 rfl (by omega) (by omega) (by decide) dX10_isChosen_8 ?_
      refine zz_icmp_ge (tgt := 30) C dX10_isChosen_9 (by decide) (by unfold rI; omega) (by unfold rI; omega) (fun c9 => ?_) (fun c9 => ?_)
      · skip
        refine zz_iconst C dX10_isChosen_30 ?_
        exact zz_zret C hr (by decide +kernel) dX10_isChosen_31 ⟨0, Or.inr ⟨rfl, fun i h0 h1 => hx i h0 (by omega)⟩, rfl, rfl⟩
      · skip
        refine zz_aload_n C 0 dX10_isChosen_12 rfl rfl ?_
        refine zz_get C 0 (ci := 10) (k := 16) rfl rfl in_X10 (by decide) qw_942 rfl rfl dX10_isChosen_13 ?_
        have hh9 := hHr k (by omega) (by omega)
        refine zz_iload_n C 2 dX10_isChosen_16 rfl rfl ?_
        refine zz_iald C 8 rfl (by omega) (by omega) (by decide) dX10_isChosen_17 ?_
        refine zz_iload_n C 1 dX10_isChosen_18 rfl rfl ?_
        refine zz_icmp_ne (tgt := 24) C dX10_isChosen_19 (by decide) (by unfold rI; omega) (by unfold rI; omega) (fun c19 => ?_) (fun c19 => ?_)
        · skip
          refine zz_iinc (ls' := [(2, .int (iI (k + 1))), (0, .ref mh), (1, .int (iI w9))]) C 2 dX10_isChosen_24 rfl (by decide) rfl ?_
          refine zz_goto (tgt := 2) C dX10_isChosen_27 (by decide) ?_
          refine zz_loc (ls' := [(0, .ref mh), (1, .int (iI w9)), (2, .int (iI (k + 1)))]) [1, 2, 0] rfl ?_
          exact ih2 (k + 1) (by omega) (fun i h0 h1 => by rcases (show i = k ∨ i < k by omega) with e9 | e9; (rw [e9]; omega); exact hx i h0 e9) (by omega)
        · skip
          refine zz_iconst C dX10_isChosen_22 ?_
          exact zz_zret C hr (by decide +kernel) dX10_isChosen_23 ⟨1, Or.inl ⟨rfl, k, by omega, by omega, by omega⟩, rfl, rfl⟩
  refine zz_loc (ls' := [(0, .ref mh), (1, .int (iI w9)), (2, .int (iI 0))]) [1, 2, 0] rfl ?_
  exact Lp2 _ 0 (by omega) (fun i h0 h1 => by omega) (Nat.lt_succ_self _)
