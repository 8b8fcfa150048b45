def eqR (f g : Int → Int) (n : Int) : Prop := ∀ i : Int, 0 ≤ i → i < n → f i = g i
def mDates (t : Int) : Int → Int := fun i => if i = 0 then t else 0
def mLaid (kD : Int → Int) (v1 v2 v3 v4 : Int) : Int → Int := zup (zup (zup (zup (zup (zup (zup (zup kD (12 + kD 1) v1) (17 + kD 1) v2) (22 + kD 1) v3) (27 + kD 1) v4) (32 + kD 1) 10) (37 + kD 1) 0) (42 + kD 1) 0) 1 (kD 1 + 1)
theorem eqR_step {f g : Int → Int} {k v : Int} (h : ∀ i : Int, 0 ≤ i → i < k → f i = g i) (hv : v = g k) : ∀ i : Int, 0 ≤ i → i < k + 1 → zup f k v i = g i := zup_all h hv
theorem eqR_zup {f g : Int → Int} {n i v : Int} (h : eqR f g n) : eqR (zup f i v) (zup g i v) n := by
  intro j h0 h1
  unfold zup
  split
  · rfl
  · exact h j h0 h1
theorem mLaid_congr {f g : Int → Int} {n v1 v2 v3 v4 : Int} (h : eqR f g n) (h1 : f 1 = g 1) : eqR (mLaid f v1 v2 v3 v4) (mLaid g v1 v2 v3 v4) n := by
  unfold mLaid
  rw [h1]
  exact eqR_zup (eqR_zup (eqR_zup (eqR_zup (eqR_zup (eqR_zup (eqR_zup (eqR_zup h)))))))
def mYield (kT : Int → Int) (b d : Int) : Int :=
  if (if 0 < kT (37 + b) then kT (37 + b) else kT (22 + b)) < d then 0 else kT (12 + b) + (if d = (if 0 < kT (37 + b) then kT (37 + b) else kT (22 + b)) then kT (17 + b) else 0)
/-- what is told stays within its bounds -/
def mOk (kT : Int → Int) : Prop := (1 ≤ kT 0 ∧ kT 0 ≤ 4) ∧ (0 ≤ kT 1 ∧ kT 1 ≤ 5) ∧ ∀ i : Int, 0 ≤ i → i < 47 → 0 ≤ kT i ∧ kT i ≤ 200
theorem mOk_eq {f g : Int → Int} (h : mOk g) (e : eqR f g 47) : mOk f := by
  obtain ⟨h1, h2, h3⟩ := h
  refine ⟨?_, ?_, fun i a b => ?_⟩
  · rw [e 0 (by omega) (by omega)]; exact h1
  · rw [e 1 (by omega) (by omega)]; exact h2
  · rw [e i a b]; exact h3 i a b
/-- the columns behind b move up by one (drop) -/
def mDrop (kT : Int → Int) (b : Int) : Int → Int := fun i => if i = 1 then kT 1 - 1 else if 12 ≤ i ∧ i < 47 ∧ b ≤ (i - 12) % 5 ∧ (i - 12) % 5 + 1 < kT 1 then kT (i + 1) else kT i

abbrev po_X10_thrown (z : zC) (mh : Nat) (xT : Nat) (xD : Nat) (xP : Nat) (xR : Nat) (xC : Nat) (xW : Nat) (xA : Nat) (xH : Nat) (xU : Nat) (xB : Nat) (xI : Nat) (xN : Nat) (xM : Nat) (xY : Nat) (xK : Nat) (xL : Nat) (xE : Nat) (xS : Nat) (m_ra : Int) (m_ca : Int) (m_tp : Int) (m_fa : Int) (m_at : Int) (m_wr : Int) (m_va : Int) (m_pl : Int) (m_st : Int) (m_lo : Int) (m_bl : Int) (m_bc : Int) (m_fo : Int) (m_yl : Int) (m_yw : Int) (m_nu : Int) (m_nl : Int) (m_lu : Int) (m_ll : Int) (m_ln : Int) (kT : Int → Int) (kD : Int → Int) (kP : Int → Int) (kR : Int → Int) (kC : Int → Int) (kW : Int → Int) (kA : Int → Int) (kH : Int → Int) (kU : Int → Int) (kB : Int → Int) (kI : Int → Int) (kN : Int → Int) (kM : Int → Int) (kY : Int → Int) (kK : Int → Int) (kL : Int → Int) (kE : Int → Int) (kS : Int → Int) : Option Value → va_W → Prop := fun v w => v = some (Value.int (iI m_ra)) ∧ w = wMod z mh xT xD xP xR xC xW xA xH xU xB xI xN xM xY xK xL xE xS m_ra m_ca m_tp m_fa m_at m_wr m_va m_pl m_st m_lo m_bl m_bc m_fo m_yl m_yw m_nu m_nl m_lu m_ll m_ln kT kD kP kR kC kW kA kH kU kB kI kN kM kY kK kL kE kS
abbrev rm_X10_thrown : Room := { frames := 1, cells := 0, slots := 0, locals := 40 }
set_option maxHeartbeats 4000000 in
set_option maxRecDepth 100000 in
theorem cc_X10_thrown (l : Launch) (z : zC) (mh : Nat) (xT : Nat) (xD : Nat) (xP : Nat) (xR : Nat) (xC : Nat) (xW : Nat) (xA : Nat) (xH : Nat) (xU : Nat) (xB : Nat) (xI : Nat) (xN : Nat) (xM : Nat) (xY : Nat) (xK : Nat) (xL : Nat) (xE : Nat) (xS : Nat) (m_ra : Int) (m_ca : Int) (m_tp : Int) (m_fa : Int) (m_at : Int) (m_wr : Int) (m_va : Int) (m_pl : Int) (m_st : Int) (m_lo : Int) (m_bl : Int) (m_bc : Int) (m_fo : Int) (m_yl : Int) (m_yw : Int) (m_nu : Int) (m_nl : Int) (m_lu : Int) (m_ll : Int) (m_ln : Int) (kT : Int → Int) (kD : Int → Int) (kP : Int → Int) (kR : Int → Int) (kC : Int → Int) (kW : Int → Int) (kA : Int → Int) (kH : Int → Int) (kU : Int → Int) (kB : Int → Int) (kI : Int → Int) (kN : Int → Int) (kM : Int → Int) (kY : Int → Int) (kK : Int → Int) (kL : Int → Int) (kE : Int → Int) (kS : Int → Int)  : zzMet l yX10_thrown cX10_thrown 1 (Option.some .int) rm_X10_thrown z [.ref mh] (wMod z mh xT xD xP xR xC xW xA xH xU xB xI xN xM xY xK xL xE xS m_ra m_ca m_tp m_fa m_at m_wr m_va m_pl m_st m_lo m_bl m_bc m_fo m_yl m_yw m_nu m_nl m_lu m_ll m_ln kT kD kP kR kC kW kA kH kU kB kI kN kM kY kK kL kE kS) (po_X10_thrown z mh xT xD xP xR xC xW xA xH xU xB xI xN xM xY xK xL xE xS m_ra m_ca m_tp m_fa m_at m_wr m_va m_pl m_st m_lo m_bl m_bc m_fo m_yl m_yw m_nu m_nl m_lu m_ll m_ln kT kD kP kR kC kW kA kH kU kB kI kN kM kY kK kL kE kS) := by
  refine zzMet.of (own := RX10) (ls0 := [(0, .ref mh)]) (by decide) rfl (Nat.le_of_ble_eq_true rfl) rfl ?_
  intro p e s m below meth c A C hr hnm
  refine zz_aload_n C 0 dX10_thrown_0 rfl rfl ?_
  refine zz_get C 0 (ci := 10) (k := 0) rfl rfl in_X10 (by decide) qw_926 rfl rfl dX10_thrown_1 ?_
  exact zz_iret C hr dX10_thrown_4 ⟨zz_vI rfl, rfl⟩
abbrev po_X10_drafts (z : zC) (mh : Nat) (xT : Nat) (xD : Nat) (xP : Nat) (xR : Nat) (xC : Nat) (xW : Nat) (xA : Nat) (xH : Nat) (xU : Nat) (xB : Nat) (xI : Nat) (xN : Nat) (xM : Nat) (xY : Nat) (xK : Nat) (xL : Nat) (xE : Nat) (xS : Nat) (m_ra : Int) (m_ca : Int) (m_tp : Int) (m_fa : Int) (m_at : Int) (m_wr : Int) (m_va : Int) (m_pl : Int) (m_st : Int) (m_lo : Int) (m_bl : Int) (m_bc : Int) (m_fo : Int) (m_yl : Int) (m_yw : Int) (m_nu : Int) (m_nl : Int) (m_lu : Int) (m_ll : Int) (m_ln : Int) (kT : Int → Int) (kD : Int → Int) (kP : Int → Int) (kR : Int → Int) (kC : Int → Int) (kW : Int → Int) (kA : Int → Int) (kH : Int → Int) (kU : Int → Int) (kB : Int → Int) (kI : Int → Int) (kN : Int → Int) (kM : Int → Int) (kY : Int → Int) (kK : Int → Int) (kL : Int → Int) (kE : Int → Int) (kS : Int → Int) : Option Value → va_W → Prop := fun v w => ∃ (gD : Int → Int), (eqR gD kT 47) ∧ v = none ∧ w = wMod z mh xT xD xP xR xC xW xA xH xU xB xI xN xM xY xK xL xE xS m_ra m_ca m_tp m_fa m_at m_wr m_va m_pl m_st m_lo m_bl m_bc m_fo m_yl m_yw m_nu m_nl m_lu m_ll m_ln kT gD kP kR kC kW kA kH kU kB kI kN kM kY kK kL kE kS
abbrev rm_X10_drafts : Room := { frames := 1, cells := 0, slots := 0, locals := 40 }
set_option maxHeartbeats 4000000 in
set_option maxRecDepth 100000 in
theorem cc_X10_drafts (l : Launch) (z : zC) (mh : Nat) (xT : Nat) (xD : Nat) (xP : Nat) (xR : Nat) (xC : Nat) (xW : Nat) (xA : Nat) (xH : Nat) (xU : Nat) (xB : Nat) (xI : Nat) (xN : Nat) (xM : Nat) (xY : Nat) (xK : Nat) (xL : Nat) (xE : Nat) (xS : Nat) (m_ra : Int) (m_ca : Int) (m_tp : Int) (m_fa : Int) (m_at : Int) (m_wr : Int) (m_va : Int) (m_pl : Int) (m_st : Int) (m_lo : Int) (m_bl : Int) (m_bc : Int) (m_fo : Int) (m_yl : Int) (m_yw : Int) (m_nu : Int) (m_nl : Int) (m_lu : Int) (m_ll : Int) (m_ln : Int) (kT : Int → Int) (kD : Int → Int) (kP : Int → Int) (kR : Int → Int) (kC : Int → Int) (kW : Int → Int) (kA : Int → Int) (kH : Int → Int) (kU : Int → Int) (kB : Int → Int) (kI : Int → Int) (kN : Int → Int) (kM : Int → Int) (kY : Int → Int) (kK : Int → Int) (kL : Int → Int) (kE : Int → Int) (kS : Int → Int)  : zzMet l yX10_drafts cX10_drafts 2 none rm_X10_drafts z [.ref mh] (wMod z mh xT xD xP xR xC xW xA xH xU xB xI xN xM xY xK xL xE xS m_ra m_ca m_tp m_fa m_at m_wr m_va m_pl m_st m_lo m_bl m_bc m_fo m_yl m_yw m_nu m_nl m_lu m_ll m_ln kT kD kP kR kC kW kA kH kU kB kI kN kM kY kK kL kE kS) (po_X10_drafts z mh xT xD xP xR xC xW xA xH xU xB xI xN xM xY xK xL xE xS m_ra m_ca m_tp m_fa m_at m_wr m_va m_pl m_st m_lo m_bl m_bc m_fo m_yl m_yw m_nu m_nl m_lu m_ll m_ln kT kD kP kR kC kW kA kH kU kB kI kN kM kY kK kL kE kS) := by
  refine zzMet.of (own := RX10) (ls0 := [(0, .ref mh)]) (by decide) rfl (Nat.le_of_ble_eq_true rfl) rfl ?_
  intro p e s m below meth c A C hr hnm
  refine zz_iconst C dX10_drafts_0 ?_
  refine zz_istore_n (ls' := [(1, .int (iI 0)), (0, .ref mh)]) C dX10_drafts_1 rfl (by decide) rfl ?_
  have Lp2 : ∀ (fu9 : Nat) (k : Int) (gD : Int → Int), (0 ≤ k ∧ k ≤ 47) → (∀ i : Int, 0 ≤ i → i < k → gD i = kT i) → (47 - k).toNat < fu9 → zzW p l e rm_X10_drafts s m ([.ref mh] : List Value).toArray below meth c z A 2 (MQ below (zQ z A (po_X10_drafts z mh xT xD xP xR xC xW xA xH xU xB xI xN xM xY xK xL xE xS m_ra m_ca m_tp m_fa m_at m_wr m_va m_pl m_st m_lo m_bl m_bc m_fo m_yl m_yw m_nu m_nl m_lu m_ll m_ln kT kD kP kR kC kW kA kH kU kB kI kN kM kY kK kL kE kS)) ([.ref mh] : List Value).toArray s 0 0 A) 0 0 (wMod z mh xT xD xP xR xC xW xA xH xU xB xI xN xM xY xK xL xE xS m_ra m_ca m_tp m_fa m_at m_wr m_va m_pl m_st m_lo m_bl m_bc m_fo m_yl m_yw m_nu m_nl m_lu m_ll m_ln kT gD kP kR kC kW kA kH kU kB kI kN kM kY kK kL kE kS) [(0, .ref mh), (1, .int (iI k))] [] 2 := by
    intro fu9
    induction fu9 with
    | zero => intro k gD hk hgD h9; exact absurd h9 (Nat.not_lt_zero _)
    | succ fu9 ih2 =>
      intro k gD hk hgD hm2
      refine zz_iload_n C 1 dX10_drafts_2 rfl rfl ?_
      refine zz_bipush C dX10_drafts_3 (by decide +kernel) ?_
      refine zz_icmp_ge (tgt := 26) C dX10_drafts_5 (by decide) (by unfold rI; omega) (by unfold rI; omega) (fun c5 => ?_) (fun c5 => ?_)
      · skip
        have hk5 : k = 47 := by omega
        subst hk5
        exact zz_vret C hr dX10_drafts_26 ⟨gD, hgD, rfl, rfl⟩
      · skip
        refine zz_aload_n C 0 dX10_drafts_8 rfl rfl ?_
        refine zz_get C 0 (ci := 10) (k := 2) rfl rfl in_X10 (by decide) qw_928 rfl rfl dX10_drafts_9 ?_
        refine zz_iload_n C 1 dX10_drafts_12 rfl rfl ?_
        refine zz_aload_n C 0 dX10_drafts_13 rfl rfl ?_
        refine zz_get C 0 (ci := 10) (k := 1) rfl rfl in_X10 (by decide) qw_927 rfl rfl dX10_drafts_14 ?_
        refine zz_iload_n C 1 dX10_drafts_17 rfl rfl ?_
        refine zz_iald C 1 rfl (by omega) (by omega) (by decide) dX10_drafts_18 ?_
        refine zz_iast (ws' := wMod z mh xT xD xP xR xC xW xA xH xU xB xI xN xM xY xK xL xE xS m_ra m_ca m_tp m_fa m_at m_wr m_va m_pl m_st m_lo m_bl m_bc m_fo m_yl m_yw m_nu m_nl m_lu m_ll m_ln kT (zup gD k (kT k)) kP kR kC kW kA kH kU kB kI kN kM kY kK kL kE kS) C 2 rfl (by omega) (by omega) (by decide) rfl dX10_drafts_19 ?_
        refine zz_iinc (ls' := [(1, .int (iI (k + 1))), (0, .ref mh)]) C 1 dX10_drafts_20 rfl (by decide) rfl ?_
        refine zz_goto (tgt := 2) C dX10_drafts_23 (by decide) ?_
        refine zz_loc (ls' := [(0, .ref mh), (1, .int (iI (k + 1)))]) [1, 0] rfl ?_
        exact ih2 (k + 1) (zup gD k (kT k)) (by omega) (eqR_step hgD rfl) (by omega)
  refine zz_loc (ls' := [(0, .ref mh), (1, .int (iI 0))]) [1, 0] rfl ?_
  exact Lp2 _ 0 kD (by omega) (fun i h0 h1 => by omega) (Nat.lt_succ_self _)
abbrev po_X10_takes_1 (z : zC) (mh : Nat) (xT : Nat) (xD : Nat) (xP : Nat) (xR : Nat) (xC : Nat) (xW : Nat) (xA : Nat) (xH : Nat) (xU : Nat) (xB : Nat) (xI : Nat) (xN : Nat) (xM : Nat) (xY : Nat) (xK : Nat) (xL : Nat) (xE : Nat) (xS : Nat) (m_ra : Int) (m_ca : Int) (m_tp : Int) (m_fa : Int) (m_at : Int) (m_wr : Int) (m_va : Int) (m_pl : Int) (m_st : Int) (m_lo : Int) (m_bl : Int) (m_bc : Int) (m_fo : Int) (m_yl : Int) (m_yw : Int) (m_nu : Int) (m_nl : Int) (m_lu : Int) (m_ll : Int) (m_ln : Int) (kT : Int → Int) (kD : Int → Int) (kP : Int → Int) (kR : Int → Int) (kC : Int → Int) (kW : Int → Int) (kA : Int → Int) (kH : Int → Int) (kU : Int → Int) (kB : Int → Int) (kI : Int → Int) (kN : Int → Int) (kM : Int → Int) (kY : Int → Int) (kK : Int → Int) (kL : Int → Int) (kE : Int → Int) (kS : Int → Int) : Option Value → va_W → Prop := fun v w => ∃ (gT : Int → Int), (eqR gT kD 47) ∧ v = some (Value.int (iI 1)) ∧ w = wMod z mh xT xD xP xR xC xW xA xH xU xB xI xN xM xY xK xL xE xS m_ra m_ca m_tp m_fa m_at m_wr m_va m_pl m_st m_lo m_bl m_bc m_fo m_yl m_yw m_nu m_nl m_lu m_ll m_ln gT kD kP kR kC kW kA kH kU kB kI kN kM kY kK kL kE kS
abbrev rm_X10_takes_1 : Room := { frames := 1, cells := 0, slots := 0, locals := 40 }
set_option maxHeartbeats 4000000 in
set_option maxRecDepth 100000 in
theorem cc_X10_takes_1 (l : Launch) (z : zC) (mh : Nat) (xT : Nat) (xD : Nat) (xP : Nat) (xR : Nat) (xC : Nat) (xW : Nat) (xA : Nat) (xH : Nat) (xU : Nat) (xB : Nat) (xI : Nat) (xN : Nat) (xM : Nat) (xY : Nat) (xK : Nat) (xL : Nat) (xE : Nat) (xS : Nat) (m_ra : Int) (m_ca : Int) (m_tp : Int) (m_fa : Int) (m_at : Int) (m_wr : Int) (m_va : Int) (m_pl : Int) (m_st : Int) (m_lo : Int) (m_bl : Int) (m_bc : Int) (m_fo : Int) (m_yl : Int) (m_yw : Int) (m_nu : Int) (m_nl : Int) (m_lu : Int) (m_ll : Int) (m_ln : Int) (kT : Int → Int) (kD : Int → Int) (kP : Int → Int) (kR : Int → Int) (kC : Int → Int) (kW : Int → Int) (kA : Int → Int) (kH : Int → Int) (kU : Int → Int) (kB : Int → Int) (kI : Int → Int) (kN : Int → Int) (kM : Int → Int) (kY : Int → Int) (kK : Int → Int) (kL : Int → Int) (kE : Int → Int) (kS : Int → Int)  : zzMet l yX10_takes cX10_takes 3 (Option.some .boolean) rm_X10_takes_1 z [.ref mh, .int (iI 1)] (wMod z mh xT xD xP xR xC xW xA xH xU xB xI xN xM xY xK xL xE xS m_ra m_ca m_tp m_fa m_at m_wr m_va m_pl m_st m_lo m_bl m_bc m_fo m_yl m_yw m_nu m_nl m_lu m_ll m_ln kT kD kP kR kC kW kA kH kU kB kI kN kM kY kK kL kE kS) (po_X10_takes_1 z mh xT xD xP xR xC xW xA xH xU xB xI xN xM xY xK xL xE xS m_ra m_ca m_tp m_fa m_at m_wr m_va m_pl m_st m_lo m_bl m_bc m_fo m_yl m_yw m_nu m_nl m_lu m_ll m_ln kT kD kP kR kC kW kA kH kU kB kI kN kM kY kK kL kE kS) := by
  refine zzMet.of (own := RX10) (ls0 := [(0, .ref mh), (1, .int (iI 1))]) (by decide) rfl (Nat.le_of_ble_eq_true rfl) rfl ?_
  intro p e s m below meth c A C hr hnm
  refine zz_iconst C dX10_takes_0 ?_
  refine zz_istore_n (ls' := [(2, .int (iI 0)), (0, .ref mh), (1, .int (iI 1))]) C dX10_takes_1 rfl (by decide) rfl ?_
  have Lp2 : ∀ (fu9 : Nat) (k : Int) (gT : Int → Int), (0 ≤ k ∧ k ≤ 47) → (∀ i : Int, 0 ≤ i → i < k → gT i = kD i) → (47 - k).toNat < fu9 → zzW p l e rm_X10_takes_1 s m ([.ref mh, .int (iI 1)] : List Value).toArray below meth c z A 3 (MQ below (zQ z A (po_X10_takes_1 z mh xT xD xP xR xC xW xA xH xU xB xI xN xM xY xK xL xE xS m_ra m_ca m_tp m_fa m_at m_wr m_va m_pl m_st m_lo m_bl m_bc m_fo m_yl m_yw m_nu m_nl m_lu m_ll m_ln kT kD kP kR kC kW kA kH kU kB kI kN kM kY kK kL kE kS)) ([.ref mh, .int (iI 1)] : List Value).toArray s 0 0 A) 0 0 (wMod z mh xT xD xP xR xC xW xA xH xU xB xI xN xM xY xK xL xE xS m_ra m_ca m_tp m_fa m_at m_wr m_va m_pl m_st m_lo m_bl m_bc m_fo m_yl m_yw m_nu m_nl m_lu m_ll m_ln gT kD kP kR kC kW kA kH kU kB kI kN kM kY kK kL kE kS) [(0, .ref mh), (1, .int (iI 1)), (2, .int (iI k))] [] 2 := by
    intro fu9
    induction fu9 with
    | zero => intro k gT hk hgT h9; exact absurd h9 (Nat.not_lt_zero _)
    | succ fu9 ih2 =>
      intro k gT hk hgT hm2
      refine zz_iload_n C 2 dX10_takes_2 rfl rfl ?_
      refine zz_bipush C dX10_takes_3 (by decide +kernel) ?_
      refine zz_icmp_ge (tgt := 30) C dX10_takes_5 (by decide) (by unfold rI; omega) (by unfold rI; omega) (fun c5 => ?_) (fun c5 => ?_)
      · skip
        refine zz_iload_n C 1 dX10_takes_30 rfl rfl ?_
        have hk5 : k = 47 := by omega
        subst hk5
        exact zz_zret C hr (by decide +kernel) dX10_takes_31 ⟨gT, hgT, rfl, rfl⟩
      · skip
        refine zz_iload_n C 1 dX10_takes_8 rfl rfl ?_
        refine zz_if_eq (tgt := 30) C dX10_takes_9 (by decide) (by unfold rI; omega) (fun c9 => ?_) (fun c9 => ?_)
        · skip
          exfalso; omega
        · skip
          refine zz_aload_n C 0 dX10_takes_12 rfl rfl ?_
          refine zz_get C 0 (ci := 10) (k := 1) rfl rfl in_X10 (by decide) qw_927 rfl rfl dX10_takes_13 ?_
          refine zz_iload_n C 2 dX10_takes_16 rfl rfl ?_
          refine zz_aload_n C 0 dX10_takes_17 rfl rfl ?_
          refine zz_get C 0 (ci := 10) (k := 2) rfl rfl in_X10 (by decide) qw_928 rfl rfl dX10_takes_18 ?_
          refine zz_iload_n C 2 dX10_takes_21 rfl rfl ?_
          refine zz_iald C 2 rfl (by omega) (by omega) (by decide) dX10_takes_22 ?_
          refine zz_iast (ws' := wMod z mh xT xD xP xR xC xW xA xH xU xB xI xN xM xY xK xL xE xS m_ra m_ca m_tp m_fa m_at m_wr m_va m_pl m_st m_lo m_bl m_bc m_fo m_yl m_yw m_nu m_nl m_lu m_ll m_ln (zup gT k (kD k)) kD kP kR kC kW kA kH kU kB kI kN kM kY kK kL kE kS) C 1 rfl (by omega) (by omega) (by decide) rfl dX10_takes_23 ?_
          refine zz_iinc (ls' := [(2, .int (iI (k + 1))), (0, .ref mh), (1, .int (iI 1))]) C 2 dX10_takes_24 rfl (by decide) rfl ?_
          refine zz_goto (tgt := 2) C dX10_takes_27 (by decide) ?_
          refine zz_loc (ls' := [(0, .ref mh), (1, .int (iI 1)), (2, .int (iI (k + 1)))]) [1, 2, 0] rfl ?_
          exact ih2 (k + 1) (zup gT k (kD k)) (by omega) (eqR_step hgT rfl) (by omega)
  refine zz_loc (ls' := [(0, .ref mh), (1, .int (iI 1)), (2, .int (iI 0))]) [1, 2, 0] rfl ?_
  exact Lp2 _ 0 kT (by omega) (fun i h0 h1 => by omega) (Nat.lt_succ_self _)
abbrev po_X10_takes_0 (z : zC) (mh : Nat) (xT : Nat) (xD : Nat) (xP : Nat) (xR : Nat) (xC : Nat) (xW : Nat) (xA : Nat) (xH : Nat) (xU : Nat) (xB : Nat) (xI : Nat) (xN : Nat) (xM : Nat) (xY : Nat) (xK : Nat) (xL : Nat) (xE : Nat) (xS : Nat) (m_ra : Int) (m_ca : Int) (m_tp : Int) (m_fa : Int) (m_at : Int) (m_wr : Int) (m_va : Int) (m_pl : Int) (m_st : Int) (m_lo : Int) (m_bl : Int) (m_bc : Int) (m_fo : Int) (m_yl : Int) (m_yw : Int) (m_nu : Int) (m_nl : Int) (m_lu : Int) (m_ll : Int) (m_ln : Int) (kT : Int → Int) (kD : Int → Int) (kP : Int → Int) (kR : Int → Int) (kC : Int → Int) (kW : Int → Int) (kA : Int → Int) (kH : Int → Int) (kU : Int → Int) (kB : Int → Int) (kI : Int → Int) (kN : Int → Int) (kM : Int → Int) (kY : Int → Int) (kK : Int → Int) (kL : Int → Int) (kE : Int → Int) (kS : Int → Int) : Option Value → va_W → Prop := fun v w => v = some (Value.int (iI 0)) ∧ w = wMod z mh xT xD xP xR xC xW xA xH xU xB xI xN xM xY xK xL xE xS m_ra m_ca m_tp m_fa m_at m_wr m_va m_pl m_st m_lo m_bl m_bc m_fo m_yl m_yw m_nu m_nl m_lu m_ll m_ln kT kD kP kR kC kW kA kH kU kB kI kN kM kY kK kL kE kS
abbrev rm_X10_takes_0 : Room := { frames := 1, cells := 0, slots := 0, locals := 40 }
set_option maxHeartbeats 4000000 in
set_option maxRecDepth 100000 in
theorem cc_X10_takes_0 (l : Launch) (z : zC) (mh : Nat) (xT : Nat) (xD : Nat) (xP : Nat) (xR : Nat) (xC : Nat) (xW : Nat) (xA : Nat) (xH : Nat) (xU : Nat) (xB : Nat) (xI : Nat) (xN : Nat) (xM : Nat) (xY : Nat) (xK : Nat) (xL : Nat) (xE : Nat) (xS : Nat) (m_ra : Int) (m_ca : Int) (m_tp : Int) (m_fa : Int) (m_at : Int) (m_wr : Int) (m_va : Int) (m_pl : Int) (m_st : Int) (m_lo : Int) (m_bl : Int) (m_bc : Int) (m_fo : Int) (m_yl : Int) (m_yw : Int) (m_nu : Int) (m_nl : Int) (m_lu : Int) (m_ll : Int) (m_ln : Int) (kT : Int → Int) (kD : Int → Int) (kP : Int → Int) (kR : Int → Int) (kC : Int → Int) (kW : Int → Int) (kA : Int → Int) (kH : Int → Int) (kU : Int → Int) (kB : Int → Int) (kI : Int → Int) (kN : Int → Int) (kM : Int → Int) (kY : Int → Int) (kK : Int → Int) (kL : Int → Int) (kE : Int → Int) (kS : Int → Int)  : zzMet l yX10_takes cX10_takes 3 (Option.some .boolean) rm_X10_takes_0 z [.ref mh, .int (iI 0)] (wMod z mh xT xD xP xR xC xW xA xH xU xB xI xN xM xY xK xL xE xS m_ra m_ca m_tp m_fa m_at m_wr m_va m_pl m_st m_lo m_bl m_bc m_fo m_yl m_yw m_nu m_nl m_lu m_ll m_ln kT kD kP kR kC kW kA kH kU kB kI kN kM kY kK kL kE kS) (po_X10_takes_0 z mh xT xD xP xR xC xW xA xH xU xB xI xN xM xY xK xL xE xS m_ra m_ca m_tp m_fa m_at m_wr m_va m_pl m_st m_lo m_bl m_bc m_fo m_yl m_yw m_nu m_nl m_lu m_ll m_ln kT kD kP kR kC kW kA kH kU kB kI kN kM kY kK kL kE kS) := by
  refine zzMet.of (own := RX10) (ls0 := [(0, .ref mh), (1, .int (iI 0))]) (by decide) rfl (Nat.le_of_ble_eq_true rfl) rfl ?_
  intro p e s m below meth c A C hr hnm
  refine zz_iconst C dX10_takes_0 ?_
  refine zz_istore_n (ls' := [(2, .int (iI 0)), (0, .ref mh), (1, .int (iI 0))]) C dX10_takes_1 rfl (by decide) rfl ?_
  refine zz_iload_n C 0 dX10_takes_2 rfl rfl ?_
  refine zz_bipush C dX10_takes_3 (by decide +kernel) ?_
  refine zz_icmp_ge (tgt := 30) C dX10_takes_5 (by decide) (by unfold rI; omega) (by unfold rI; omega) (fun c5 => ?_) (fun c5 => ?_)
  · skip
    exfalso; omega
  · skip
    refine zz_iload_n C 2 dX10_takes_8 rfl rfl ?_
    refine zz_if_eq (tgt := 30) C dX10_takes_9 (by decide) (by unfold rI; omega) (fun c9 => ?_) (fun c9 => ?_)
    · skip
      refine zz_iload_n C 2 dX10_takes_30 rfl rfl ?_
      exact zz_zret C hr (by decide +kernel) dX10_takes_31 ⟨zz_vI rfl, rfl⟩
    · skip
      exfalso; omega
abbrev po_X10_lays_1 (z : zC) (mh : Nat) (xT : Nat) (xD : Nat) (xP : Nat) (xR : Nat) (xC : Nat) (xW : Nat) (xA : Nat) (xH : Nat) (xU : Nat) (xB : Nat) (xI : Nat) (xN : Nat) (xM : Nat) (xY : Nat) (xK : Nat) (xL : Nat) (xE : Nat) (xS : Nat) (m_ra : Int) (m_ca : Int) (m_tp : Int) (m_fa : Int) (m_at : Int) (m_wr : Int) (m_va : Int) (m_pl : Int) (m_st : Int) (m_lo : Int) (m_bl : Int) (m_bc : Int) (m_fo : Int) (m_yl : Int) (m_yw : Int) (m_nu : Int) (m_nl : Int) (m_lu : Int) (m_ll : Int) (m_ln : Int) (kT : Int → Int) (kD : Int → Int) (kP : Int → Int) (kR : Int → Int) (kC : Int → Int) (kW : Int → Int) (kA : Int → Int) (kH : Int → Int) (kU : Int → Int) (kB : Int → Int) (kI : Int → Int) (kN : Int → Int) (kM : Int → Int) (kY : Int → Int) (kK : Int → Int) (kL : Int → Int) (kE : Int → Int) (kS : Int → Int) (pl9 : Int) (v9 : Int) : Option Value → va_W → Prop := fun v w => v = some (Value.int (iI 1)) ∧ w = wMod z mh xT xD xP xR xC xW xA xH xU xB xI xN xM xY xK xL xE xS m_ra m_ca m_tp m_fa m_at m_wr m_va m_pl m_st m_lo m_bl m_bc m_fo m_yl m_yw m_nu m_nl m_lu m_ll m_ln kT (zup kD pl9 v9) kP kR kC kW kA kH kU kB kI kN kM kY kK kL kE kS
abbrev rm_X10_lays_1 : Room := { frames := 1, cells := 0, slots := 0, locals := 40 }
set_option maxHeartbeats 4000000 in
set_option maxRecDepth 100000 in
theorem cc_X10_lays_1 (l : Launch) (z : zC) (mh : Nat) (xT : Nat) (xD : Nat) (xP : Nat) (xR : Nat) (xC : Nat) (xW : Nat) (xA : Nat) (xH : Nat) (xU : Nat) (xB : Nat) (xI : Nat) (xN : Nat) (xM : Nat) (xY : Nat) (xK : Nat) (xL : Nat) (xE : Nat) (xS : Nat) (m_ra : Int) (m_ca : Int) (m_tp : Int) (m_fa : Int) (m_at : Int) (m_wr : Int) (m_va : Int) (m_pl : Int) (m_st : Int) (m_lo : Int) (m_bl : Int) (m_bc : Int) (m_fo : Int) (m_yl : Int) (m_yw : Int) (m_nu : Int) (m_nl : Int) (m_lu : Int) (m_ll : Int) (m_ln : Int) (kT : Int → Int) (kD : Int → Int) (kP : Int → Int) (kR : Int → Int) (kC : Int → Int) (kW : Int → Int) (kA : Int → Int) (kH : Int → Int) (kU : Int → Int) (kB : Int → Int) (kI : Int → Int) (kN : Int → Int) (kM : Int → Int) (kY : Int → Int) (kK : Int → Int) (kL : Int → Int) (kE : Int → Int) (kS : Int → Int) (pl9 : Int) (v9 : Int) (hpl : 0 ≤ pl9 ∧ pl9 < 47) : zzMet l yX10_lays cX10_lays 4 (Option.some .boolean) rm_X10_lays_1 z [.ref mh, .int (iI pl9), .int (iI v9), .int (iI 1)] (wMod z mh xT xD xP xR xC xW xA xH xU xB xI xN xM xY xK xL xE xS m_ra m_ca m_tp m_fa m_at m_wr m_va m_pl m_st m_lo m_bl m_bc m_fo m_yl m_yw m_nu m_nl m_lu m_ll m_ln kT kD kP kR kC kW kA kH kU kB kI kN kM kY kK kL kE kS) (po_X10_lays_1 z mh xT xD xP xR xC xW xA xH xU xB xI xN xM xY xK xL xE xS m_ra m_ca m_tp m_fa m_at m_wr m_va m_pl m_st m_lo m_bl m_bc m_fo m_yl m_yw m_nu m_nl m_lu m_ll m_ln kT kD kP kR kC kW kA kH kU kB kI kN kM kY kK kL kE kS pl9 v9) := by
  refine zzMet.of (own := RX10) (ls0 := [(0, .ref mh), (1, .int (iI pl9)), (2, .int (iI v9)), (3, .int (iI 1))]) (by decide) rfl (Nat.le_of_ble_eq_true rfl) rfl ?_
  intro p e s m below meth c A C hr hnm
  refine zz_iload_n C 3 dX10_lays_0 rfl rfl ?_
  refine zz_if_eq (tgt := 11) C dX10_lays_1 (by decide) (by unfold rI; omega) (fun c1 => ?_) (fun c1 => ?_)
  · skip
    exfalso; omega
  · skip
    refine zz_aload_n C 0 dX10_lays_4 rfl rfl ?_
    refine zz_get C 0 (ci := 10) (k := 2) rfl rfl in_X10 (by decide) qw_928 rfl rfl dX10_lays_5 ?_
    refine zz_iload_n C 1 dX10_lays_8 rfl rfl ?_
    refine zz_iload_n C 2 dX10_lays_9 rfl rfl ?_
    refine zz_iast (ws' := wMod z mh xT xD xP xR xC xW xA xH xU xB xI xN xM xY xK xL xE xS m_ra m_ca m_tp m_fa m_at m_wr m_va m_pl m_st m_lo m_bl m_bc m_fo m_yl m_yw m_nu m_nl m_lu m_ll m_ln kT (zup kD pl9 v9) kP kR kC kW kA kH kU kB kI kN kM kY kK kL kE kS) C 2 rfl (by omega) (by omega) (by decide) rfl dX10_lays_10 ?_
    refine zz_iload_n C 3 dX10_lays_11 rfl rfl ?_
    exact zz_zret C hr (by decide +kernel) dX10_lays_12 ⟨zz_vI rfl, rfl⟩
abbrev po_X10_lays_0 (z : zC) (mh : Nat) (xT : Nat) (xD : Nat) (xP : Nat) (xR : Nat) (xC : Nat) (xW : Nat) (xA : Nat) (xH : Nat) (xU : Nat) (xB : Nat) (xI : Nat) (xN : Nat) (xM : Nat) (xY : Nat) (xK : Nat) (xL : Nat) (xE : Nat) (xS : Nat) (m_ra : Int) (m_ca : Int) (m_tp : Int) (m_fa : Int) (m_at : Int) (m_wr : Int) (m_va : Int) (m_pl : Int) (m_st : Int) (m_lo : Int) (m_bl : Int) (m_bc : Int) (m_fo : Int) (m_yl : Int) (m_yw : Int) (m_nu : Int) (m_nl : Int) (m_lu : Int) (m_ll : Int) (m_ln : Int) (kT : Int → Int) (kD : Int → Int) (kP : Int → Int) (kR : Int → Int) (kC : Int → Int) (kW : Int → Int) (kA : Int → Int) (kH : Int → Int) (kU : Int → Int) (kB : Int → Int) (kI : Int → Int) (kN : Int → Int) (kM : Int → Int) (kY : Int → Int) (kK : Int → Int) (kL : Int → Int) (kE : Int → Int) (kS : Int → Int) (pl9 : Int) (v9 : Int) : Option Value → va_W → Prop := fun v w => v = some (Value.int (iI 0)) ∧ w = wMod z mh xT xD xP xR xC xW xA xH xU xB xI xN xM xY xK xL xE xS m_ra m_ca m_tp m_fa m_at m_wr m_va m_pl m_st m_lo m_bl m_bc m_fo m_yl m_yw m_nu m_nl m_lu m_ll m_ln kT kD kP kR kC kW kA kH kU kB kI kN kM kY kK kL kE kS
abbrev rm_X10_lays_0 : Room := { frames := 1, cells := 0, slots := 0, locals := 40 }
set_option maxHeartbeats 4000000 in
set_option maxRecDepth 100000 in
theorem cc_X10_lays_0 (l : Launch) (z : zC) (mh : Nat) (xT : Nat) (xD : Nat) (xP : Nat) (xR : Nat) (xC : Nat) (xW : Nat) (xA : Nat) (xH : Nat) (xU : Nat) (xB : Nat) (xI : Nat) (xN : Nat) (xM : Nat) (xY : Nat) (xK : Nat) (xL : Nat) (xE : Nat) (xS : Nat) (m_ra : Int) (m_ca : Int) (m_tp : Int) (m_fa : Int) (m_at : Int) (m_wr : Int) (m_va : Int) (m_pl : Int) (m_st : Int) (m_lo : Int) (m_bl : Int) (m_bc : Int) (m_fo : Int) (m_yl : Int) (m_yw : Int) (m_nu : Int) (m_nl : Int) (m_lu : Int) (m_ll : Int) (m_ln : Int) (kT : Int → Int) (kD : Int → Int) (kP : Int → Int) (kR : Int → Int) (kC : Int → Int) (kW : Int → Int) (kA : Int → Int) (kH : Int → Int) (kU : Int → Int) (kB : Int → Int) (kI : Int → Int) (kN : Int → Int) (kM : Int → Int) (kY : Int → Int) (kK : Int → Int) (kL : Int → Int) (kE : Int → Int) (kS : Int → Int) (pl9 : Int) (v9 : Int)  : zzMet l yX10_lays cX10_lays 4 (Option.some .boolean) rm_X10_lays_0 z [.ref mh, .int (iI pl9), .int (iI v9), .int (iI 0)] (wMod z mh xT xD xP xR xC xW xA xH xU xB xI xN xM xY xK xL xE xS m_ra m_ca m_tp m_fa m_at m_wr m_va m_pl m_st m_lo m_bl m_bc m_fo m_yl m_yw m_nu m_nl m_lu m_ll m_ln kT kD kP kR kC kW kA kH kU kB kI kN kM kY kK kL kE kS) (po_X10_lays_0 z mh xT xD xP xR xC xW xA xH xU xB xI xN xM xY xK xL xE xS m_ra m_ca m_tp m_fa m_at m_wr m_va m_pl m_st m_lo m_bl m_bc m_fo m_yl m_yw m_nu m_nl m_lu m_ll m_ln kT kD kP kR kC kW kA kH kU kB kI kN kM kY kK kL kE kS pl9 v9) := by
  refine zzMet.of (own := RX10) (ls0 := [(0, .ref mh), (1, .int (iI pl9)), (2, .int (iI v9)), (3, .int (iI 0))]) (by decide) rfl (Nat.le_of_ble_eq_true rfl) rfl ?_
  intro p e s m below meth c A C hr hnm
  refine zz_iload_n C 3 dX10_lays_0 rfl rfl ?_
  refine zz_if_eq (tgt := 11) C dX10_lays_1 (by decide) (by unfold rI; omega) (fun c1 => ?_) (fun c1 => ?_)
  · skip
    refine zz_iload_n C 3 dX10_lays_11 rfl rfl ?_
    exact zz_zret C hr (by decide +kernel) dX10_lays_12 ⟨zz_vI rfl, rfl⟩
  · skip
    exfalso; omega
abbrev po_X10_laysDates (z : zC) (mh : Nat) (xT : Nat) (xD : Nat) (xP : Nat) (xR : Nat) (xC : Nat) (xW : Nat) (xA : Nat) (xH : Nat) (xU : Nat) (xB : Nat) (xI : Nat) (xN : Nat) (xM : Nat) (xY : Nat) (xK : Nat) (xL : Nat) (xE : Nat) (xS : Nat) (m_ra : Int) (m_ca : Int) (m_tp : Int) (m_fa : Int) (m_at : Int) (m_wr : Int) (m_va : Int) (m_pl : Int) (m_st : Int) (m_lo : Int) (m_bl : Int) (m_bc : Int) (m_fo : Int) (m_yl : Int) (m_yw : Int) (m_nu : Int) (m_nl : Int) (m_lu : Int) (m_ll : Int) (m_ln : Int) (kT : Int → Int) (kD : Int → Int) (kP : Int → Int) (kR : Int → Int) (kC : Int → Int) (kW : Int → Int) (kA : Int → Int) (kH : Int → Int) (kU : Int → Int) (kB : Int → Int) (kI : Int → Int) (kN : Int → Int) (kM : Int → Int) (kY : Int → Int) (kK : Int → Int) (kL : Int → Int) (kE : Int → Int) (kS : Int → Int) (t9 : Int) : Option Value → va_W → Prop := fun v w => ∃ (gD : Int → Int), (eqR gD (mDates t9) 47) ∧ v = none ∧ w = wMod z mh xT xD xP xR xC xW xA xH xU xB xI xN xM xY xK xL xE xS m_ra m_ca m_tp m_fa m_at m_wr m_va m_pl m_st m_lo m_bl m_bc m_fo m_yl m_yw m_nu m_nl m_lu m_ll m_ln kT gD kP kR kC kW kA kH kU kB kI kN kM kY kK kL kE kS
abbrev rm_X10_laysDates : Room := { frames := 1, cells := 0, slots := 0, locals := 40 }
set_option maxHeartbeats 4000000 in
set_option maxRecDepth 100000 in
theorem cc_X10_laysDates (l : Launch) (z : zC) (mh : Nat) (xT : Nat) (xD : Nat) (xP : Nat) (xR : Nat) (xC : Nat) (xW : Nat) (xA : Nat) (xH : Nat) (xU : Nat) (xB : Nat) (xI : Nat) (xN : Nat) (xM : Nat) (xY : Nat) (xK : Nat) (xL : Nat) (xE : Nat) (xS : Nat) (m_ra : Int) (m_ca : Int) (m_tp : Int) (m_fa : Int) (m_at : Int) (m_wr : Int) (m_va : Int) (m_pl : Int) (m_st : Int) (m_lo : Int) (m_bl : Int) (m_bc : Int) (m_fo : Int) (m_yl : Int) (m_yw : Int) (m_nu : Int) (m_nl : Int) (m_lu : Int) (m_ll : Int) (m_ln : Int) (kT : Int → Int) (kD : Int → Int) (kP : Int → Int) (kR : Int → Int) (kC : Int → Int) (kW : Int → Int) (kA : Int → Int) (kH : Int → Int) (kU : Int → Int) (kB : Int → Int) (kI : Int → Int) (kN : Int → Int) (kM : Int → Int) (kY : Int → Int) (kK : Int → Int) (kL : Int → Int) (kE : Int → Int) (kS : Int → Int) (t9 : Int)  : zzMet l yX10_laysDates cX10_laysDates 3 none rm_X10_laysDates z [.ref mh, .int (iI t9)] (wMod z mh xT xD xP xR xC xW xA xH xU xB xI xN xM xY xK xL xE xS m_ra m_ca m_tp m_fa m_at m_wr m_va m_pl m_st m_lo m_bl m_bc m_fo m_yl m_yw m_nu m_nl m_lu m_ll m_ln kT kD kP kR kC kW kA kH kU kB kI kN kM kY kK kL kE kS) (po_X10_laysDates z mh xT xD xP xR xC xW xA xH xU xB xI xN xM xY xK xL xE xS m_ra m_ca m_tp m_fa m_at m_wr m_va m_pl m_st m_lo m_bl m_bc m_fo m_yl m_yw m_nu m_nl m_lu m_ll m_ln kT kD kP kR kC kW kA kH kU kB kI kN kM kY kK kL kE kS t9) := by
  refine zzMet.of (own := RX10) (ls0 := [(0, .ref mh), (1, .int (iI t9))]) (by decide) rfl (Nat.le_of_ble_eq_true rfl) rfl ?_
  intro p e s m below meth c A C hr hnm
  refine zz_iconst C dX10_laysDates_0 ?_
  refine zz_istore_n (ls' := [(2, .int (iI 0)), (0, .ref mh), (1, .int (iI t9))]) C dX10_laysDates_1 rfl (by decide) rfl ?_
  have Lp2 : ∀ (fu9 : Nat) (k : Int) (gD : Int → Int), (0 ≤ k ∧ k ≤ 47) → (∀ i : Int, 0 ≤ i → i < k → gD i = 0) → (47 - k).toNat < fu9 → zzW p l e rm_X10_laysDates s m ([.ref mh, .int (iI t9)] : List Value).toArray below meth c z A 3 (MQ below (zQ z A (po_X10_laysDates z mh xT xD xP xR xC xW xA xH xU xB xI xN xM xY xK xL xE xS m_ra m_ca m_tp m_fa m_at m_wr m_va m_pl m_st m_lo m_bl m_bc m_fo m_yl m_yw m_nu m_nl m_lu m_ll m_ln kT kD kP kR kC kW kA kH kU kB kI kN kM kY kK kL kE kS t9)) ([.ref mh, .int (iI t9)] : List Value).toArray s 0 0 A) 0 0 (wMod z mh xT xD xP xR xC xW xA xH xU xB xI xN xM xY xK xL xE xS m_ra m_ca m_tp m_fa m_at m_wr m_va m_pl m_st m_lo m_bl m_bc m_fo m_yl m_yw m_nu m_nl m_lu m_ll m_ln kT gD kP kR kC kW kA kH kU kB kI kN kM kY kK kL kE kS) [(0, .ref mh), (1, .int (iI t9)), (2, .int (iI k))] [] 2 := by
    intro fu9
    induction fu9 with
    | zero => intro k gD hk hgD h9; exact absurd h9 (Nat.not_lt_zero _)
    | succ fu9 ih2 =>
      intro k gD hk hgD hm2
      refine zz_iload_n C 2 dX10_laysDates_2 rfl rfl ?_
      refine zz_bipush C dX10_laysDates_3 (by decide +kernel) ?_
      refine zz_icmp_ge (tgt := 21) C dX10_laysDates_5 (by decide) (by unfold rI; omega) (by unfold rI; omega) (fun c5 => ?_) (fun c5 => ?_)
      · skip
        refine zz_aload_n C 0 dX10_laysDates_21 rfl rfl ?_
        refine zz_get C 0 (ci := 10) (k := 2) rfl rfl in_X10 (by decide) qw_928 rfl rfl dX10_laysDates_22 ?_
        refine zz_iconst C dX10_laysDates_25 ?_
        refine zz_iload_n C 1 dX10_laysDates_26 rfl rfl ?_
        refine zz_iast (ws' := wMod z mh xT xD xP xR xC xW xA xH xU xB xI xN xM xY xK xL xE xS m_ra m_ca m_tp m_fa m_at m_wr m_va m_pl m_st m_lo m_bl m_bc m_fo m_yl m_yw m_nu m_nl m_lu m_ll m_ln kT (zup gD 0 t9) kP kR kC kW kA kH kU kB kI kN kM kY kK kL kE kS) C 2 rfl (by omega) (by omega) (by decide) rfl dX10_laysDates_27 ?_
        have hk5 : k = 47 := by omega
        subst hk5
        exact zz_vret C hr dX10_laysDates_28 ⟨_, fun i h0 h1 => by unfold zup mDates; (split; · rfl); exact hgD i h0 h1, rfl, rfl⟩
      · skip
        refine zz_aload_n C 0 dX10_laysDates_8 rfl rfl ?_
        refine zz_get C 0 (ci := 10) (k := 2) rfl rfl in_X10 (by decide) qw_928 rfl rfl dX10_laysDates_9 ?_
        refine zz_iload_n C 2 dX10_laysDates_12 rfl rfl ?_
        refine zz_iconst C dX10_laysDates_13 ?_
        refine zz_iast (ws' := wMod z mh xT xD xP xR xC xW xA xH xU xB xI xN xM xY xK xL xE xS m_ra m_ca m_tp m_fa m_at m_wr m_va m_pl m_st m_lo m_bl m_bc m_fo m_yl m_yw m_nu m_nl m_lu m_ll m_ln kT (zup gD k 0) kP kR kC kW kA kH kU kB kI kN kM kY kK kL kE kS) C 2 rfl (by omega) (by omega) (by decide) rfl dX10_laysDates_14 ?_
        refine zz_iinc (ls' := [(2, .int (iI (k + 1))), (0, .ref mh), (1, .int (iI t9))]) C 2 dX10_laysDates_15 rfl (by decide) rfl ?_
        refine zz_goto (tgt := 2) C dX10_laysDates_18 (by decide) ?_
        refine zz_loc (ls' := [(0, .ref mh), (1, .int (iI t9)), (2, .int (iI (k + 1)))]) [1, 2, 0] rfl ?_
        exact ih2 (k + 1) (zup gD k 0) (by omega) (eqR_step (g := fun _ => 0) hgD rfl) (by omega)
  refine zz_loc (ls' := [(0, .ref mh), (1, .int (iI t9)), (2, .int (iI 0))]) [1, 2, 0] rfl ?_
  exact Lp2 _ 0 kD (by omega) (fun i h0 h1 => by omega) (Nat.lt_succ_self _)
abbrev po_X10_isDate (z : zC) (mh : Nat) (xT : Nat) (xD : Nat) (xP : Nat) (xR : Nat) (xC : Nat) (xW : Nat) (xA : Nat) (xH : Nat) (xU : Nat) (xB : Nat) (xI : Nat) (xN : Nat) (xM : Nat) (xY : Nat) (xK : Nat) (xL : Nat) (xE : Nat) (xS : Nat) (m_ra : Int) (m_ca : Int) (m_tp : Int) (m_fa : Int) (m_at : Int) (m_wr : Int) (m_va : Int) (m_pl : Int) (m_st : Int) (m_lo : Int) (m_bl : Int) (m_bc : Int) (m_fo : Int) (m_yl : Int) (m_yw : Int) (m_nu : Int) (m_nl : Int) (m_lu : Int) (m_ll : Int) (m_ln : Int) (kT : Int → Int) (kD : Int → Int) (kP : Int → Int) (kR : Int → Int) (kC : Int → Int) (kW : Int → Int) (kA : Int → Int) (kH : Int → Int) (kU : Int → Int) (kB : Int → Int) (kI : Int → Int) (kN : Int → Int) (kM : Int → Int) (kY : Int → Int) (kK : Int → Int) (kL : Int → Int) (kE : Int → Int) (kS : Int → Int) (d9 : Int) : Option Value → va_W → Prop := fun v w => ∃ (q : Int), ((q = 1 ∧ (1 ≤ d9 ∧ d9 ≤ kD 0)) ∨ (q = 0 ∧ ¬ (1 ≤ d9 ∧ d9 ≤ kD 0))) ∧ v = some (Value.int (iI q)) ∧ w = wMod z mh xT xD xP xR xC xW xA xH xU xB xI xN xM xY xK xL xE xS m_ra m_ca m_tp m_fa m_at m_wr m_va m_pl m_st m_lo m_bl m_bc m_fo m_yl m_yw m_nu m_nl m_lu m_ll m_ln kT kD kP kR kC kW kA kH kU kB kI kN kM kY kK kL kE kS
abbrev rm_X10_isDate : Room := { frames := 2, cells := 0, slots := 0, locals := 62 }
set_option maxHeartbeats 4000000 in
set_option maxRecDepth 100000 in
theorem cc_X10_isDate (l : Launch) (z : zC) (mh : Nat) (xT : Nat) (xD : Nat) (xP : Nat) (xR : Nat) (xC : Nat) (xW : Nat) (xA : Nat) (xH : Nat) (xU : Nat) (xB : Nat) (xI : Nat) (xN : Nat) (xM : Nat) (xY : Nat) (xK : Nat) (xL : Nat) (xE : Nat) (xS : Nat) (m_ra : Int) (m_ca : Int) (m_tp : Int) (m_fa : Int) (m_at : Int) (m_wr : Int) (m_va : Int) (m_pl : Int) (m_st : Int) (m_lo : Int) (m_bl : Int) (m_bc : Int) (m_fo : Int) (m_yl : Int) (m_yw : Int) (m_nu : Int) (m_nl : Int) (m_lu : Int) (m_ll : Int) (m_ln : Int) (kT : Int → Int) (kD : Int → Int) (kP : Int → Int) (kR : Int → Int) (kC : Int → Int) (kW : Int → Int) (kA : Int → Int) (kH : Int → Int) (kU : Int → Int) (kB : Int → Int) (kI : Int → Int) (kN : Int → Int) (kM : Int → Int) (kY : Int → Int) (kK : Int → Int) (kL : Int → Int) (kE : Int → Int) (kS : Int → Int) (d9 : Int) (hd : -2147483648 ≤ d9 ∧ d9 < 2147483648) (h0 : 0 ≤ kD 0 ∧ kD 0 ≤ 200) : zzMet l yX10_isDate cX10_isDate 2 (Option.some .boolean) rm_X10_isDate z [.ref mh, .int (iI d9)] (wMod z mh xT xD xP xR xC xW xA xH xU xB xI xN xM xY xK xL xE xS m_ra m_ca m_tp m_fa m_at m_wr m_va m_pl m_st m_lo m_bl m_bc m_fo m_yl m_yw m_nu m_nl m_lu m_ll m_ln kT kD kP kR kC kW kA kH kU kB kI kN kM kY kK kL kE kS) (po_X10_isDate z mh xT xD xP xR xC xW xA xH xU xB xI xN xM xY xK xL xE xS m_ra m_ca m_tp m_fa m_at m_wr m_va m_pl m_st m_lo m_bl m_bc m_fo m_yl m_yw m_nu m_nl m_lu m_ll m_ln kT kD kP kR kC kW kA kH kU kB kI kN kM kY kK kL kE kS d9) := by
  refine zzMet.of (own := RX10) (ls0 := [(0, .ref mh), (1, .int (iI d9))]) (by decide) rfl (Nat.le_of_ble_eq_true rfl) rfl ?_
  intro p e s m below meth c A C hr hnm
  refine zz_iload_n C 1 dX10_isDate_0 rfl rfl ?_
  refine zz_iconst C dX10_isDate_1 ?_
  refine zz_aload_n C 0 dX10_isDate_2 rfl rfl ?_
  refine zz_get C 0 (ci := 10) (k := 2) rfl rfl in_X10 (by decide) qw_928 rfl rfl dX10_isDate_3 ?_
  refine zz_iconst C dX10_isDate_6 ?_
  refine zz_iald C 2 rfl (by omega) (by omega) (by decide) dX10_isDate_7 ?_
  refine zz_callS (wr := wMod z mh xT xD xP xR xC xW xA xH xU xB xI xN xM xY xK xL xE xS m_ra m_ca m_tp m_fa m_at m_wr m_va m_pl m_st m_lo m_bl m_bc m_fo m_yl m_yw m_nu m_nl m_lu m_ll m_ln kT kD kP kR kC kW kA kH kU kB kI kN kM kY kK kL kE kS) (st := []) C (cc_X10_in l z d9 1 (kD 0) (by omega) (by omega) (by omega)) yk_X10_in qw_1049 ⟨by decide, by decide⟩ [] [0, 1, 2, 3, 4, 5, 6, 7, 8, 9, 10, 11, 12, 13, 14, 15, 16, 17, 18] rfl rfl rfl rfl (by decide) rfl rfl (Nat.le_of_ble_eq_true rfl) dX10_isDate_8 ⟨by decide, by decide⟩ ?_
  rintro _ _ ⟨q_8, hq_8, rfl, rfl⟩
  refine zz_st (st' := [.int (iI q_8)]) rfl (zz_ws (ws' := wMod z mh xT xD xP xR xC xW xA xH xU xB xI xN xM xY xK xL xE xS m_ra m_ca m_tp m_fa m_at m_wr m_va m_pl m_st m_lo m_bl m_bc m_fo m_yl m_yw m_nu m_nl m_lu m_ll m_ln kT kD kP kR kC kW kA kH kU kB kI kN kM kY kK kL kE kS) rfl ?_)
  exact zz_zret C hr (zz_bool (by omega)) dX10_isDate_11 ⟨q_8, by omega, rfl, rfl⟩
abbrev po_X10_isBond (z : zC) (mh : Nat) (xT : Nat) (xD : Nat) (xP : Nat) (xR : Nat) (xC : Nat) (xW : Nat) (xA : Nat) (xH : Nat) (xU : Nat) (xB : Nat) (xI : Nat) (xN : Nat) (xM : Nat) (xY : Nat) (xK : Nat) (xL : Nat) (xE : Nat) (xS : Nat) (m_ra : Int) (m_ca : Int) (m_tp : Int) (m_fa : Int) (m_at : Int) (m_wr : Int) (m_va : Int) (m_pl : Int) (m_st : Int) (m_lo : Int) (m_bl : Int) (m_bc : Int) (m_fo : Int) (m_yl : Int) (m_yw : Int) (m_nu : Int) (m_nl : Int) (m_lu : Int) (m_ll : Int) (m_ln : Int) (kT : Int → Int) (kD : Int → Int) (kP : Int → Int) (kR : Int → Int) (kC : Int → Int) (kW : Int → Int) (kA : Int → Int) (kH : Int → Int) (kU : Int → Int) (kB : Int → Int) (kI : Int → Int) (kN : Int → Int) (kM : Int → Int) (kY : Int → Int) (kK : Int → Int) (kL : Int → Int) (kE : Int → Int) (kS : Int → Int) (b9 : Int) : Option Value → va_W → Prop := fun v w => ∃ (q : Int), ((q = 1 ∧ (0 ≤ b9 ∧ b9 < kD 1)) ∨ (q = 0 ∧ ¬ (0 ≤ b9 ∧ b9 < kD 1))) ∧ v = some (Value.int (iI q)) ∧ w = wMod z mh xT xD xP xR xC xW xA xH xU xB xI xN xM xY xK xL xE xS m_ra m_ca m_tp m_fa m_at m_wr m_va m_pl m_st m_lo m_bl m_bc m_fo m_yl m_yw m_nu m_nl m_lu m_ll m_ln kT kD kP kR kC kW kA kH kU kB kI kN kM kY kK kL kE kS
abbrev rm_X10_isBond : Room := { frames := 2, cells := 0, slots := 0, locals := 62 }
set_option maxHeartbeats 4000000 in
set_option maxRecDepth 100000 in
theorem cc_X10_isBond (l : Launch) (z : zC) (mh : Nat) (xT : Nat) (xD : Nat) (xP : Nat) (xR : Nat) (xC : Nat) (xW : Nat) (xA : Nat) (xH : Nat) (xU : Nat) (xB : Nat) (xI : Nat) (xN : Nat) (xM : Nat) (xY : Nat) (xK : Nat) (xL : Nat) (xE : Nat) (xS : Nat) (m_ra : Int) (m_ca : Int) (m_tp : Int) (m_fa : Int) (m_at : Int) (m_wr : Int) (m_va : Int) (m_pl : Int) (m_st : Int) (m_lo : Int) (m_bl : Int) (m_bc : Int) (m_fo : Int) (m_yl : Int) (m_yw : Int) (m_nu : Int) (m_nl : Int) (m_lu : Int) (m_ll : Int) (m_ln : Int) (kT : Int → Int) (kD : Int → Int) (kP : Int → Int) (kR : Int → Int) (kC : Int → Int) (kW : Int → Int) (kA : Int → Int) (kH : Int → Int) (kU : Int → Int) (kB : Int → Int) (kI : Int → Int) (kN : Int → Int) (kM : Int → Int) (kY : Int → Int) (kK : Int → Int) (kL : Int → Int) (kE : Int → Int) (kS : Int → Int) (b9 : Int) (hd : -2147483648 ≤ b9 ∧ b9 < 2147483648) (h0 : 0 ≤ kD 1 ∧ kD 1 ≤ 200) : zzMet l yX10_isBond cX10_isBond 2 (Option.some .boolean) rm_X10_isBond z [.ref mh, .int (iI b9)] (wMod z mh xT xD xP xR xC xW xA xH xU xB xI xN xM xY xK xL xE xS m_ra m_ca m_tp m_fa m_at m_wr m_va m_pl m_st m_lo m_bl m_bc m_fo m_yl m_yw m_nu m_nl m_lu m_ll m_ln kT kD kP kR kC kW kA kH kU kB kI kN kM kY kK kL kE kS) (po_X10_isBond z mh xT xD xP xR xC xW xA xH xU xB xI xN xM xY xK xL xE xS m_ra m_ca m_tp m_fa m_at m_wr m_va m_pl m_st m_lo m_bl m_bc m_fo m_yl m_yw m_nu m_nl m_lu m_ll m_ln kT kD kP kR kC kW kA kH kU kB kI kN kM kY kK kL kE kS b9) := by
  refine zzMet.of (own := RX10) (ls0 := [(0, .ref mh), (1, .int (iI b9))]) (by decide) rfl (Nat.le_of_ble_eq_true rfl) rfl ?_
  intro p e s m below meth c A C hr hnm
  refine zz_iload_n C 1 dX10_isBond_0 rfl rfl ?_
  refine zz_iconst C dX10_isBond_1 ?_
  refine zz_aload_n C 0 dX10_isBond_2 rfl rfl ?_
  refine zz_get C 0 (ci := 10) (k := 2) rfl rfl in_X10 (by decide) qw_928 rfl rfl dX10_isBond_3 ?_
  refine zz_iconst C dX10_isBond_6 ?_
  refine zz_iald C 2 rfl (by omega) (by omega) (by decide) dX10_isBond_7 ?_
  refine zz_iconst C dX10_isBond_8 ?_
  refine zz_isub C dX10_isBond_9 ?_
  refine zz_callS (wr := wMod z mh xT xD xP xR xC xW xA xH xU xB xI xN xM xY xK xL xE xS m_ra m_ca m_tp m_fa m_at m_wr m_va m_pl m_st m_lo m_bl m_bc m_fo m_yl m_yw m_nu m_nl m_lu m_ll m_ln kT kD kP kR kC kW kA kH kU kB kI kN kM kY kK kL kE kS) (st := []) C (cc_X10_in l z b9 0 ((kD 1) - 1) (by omega) (by omega) (by omega)) yk_X10_in qw_1049 ⟨by decide, by decide⟩ [] [0, 1, 2, 3, 4, 5, 6, 7, 8, 9, 10, 11, 12, 13, 14, 15, 16, 17, 18] rfl rfl rfl rfl (by decide) rfl rfl (Nat.le_of_ble_eq_true rfl) dX10_isBond_10 ⟨by decide, by decide⟩ ?_
  rintro _ _ ⟨q_10, hq_10, rfl, rfl⟩
  refine zz_st (st' := [.int (iI q_10)]) rfl (zz_ws (ws' := wMod z mh xT xD xP xR xC xW xA xH xU xB xI xN xM xY xK xL xE xS m_ra m_ca m_tp m_fa m_at m_wr m_va m_pl m_st m_lo m_bl m_bc m_fo m_yl m_yw m_nu m_nl m_lu m_ll m_ln kT kD kP kR kC kW kA kH kU kB kI kN kM kY kK kL kE kS) rfl ?_)
  exact zz_zret C hr (zz_bool (by omega)) dX10_isBond_13 ⟨q_10, by omega, rfl, rfl⟩
abbrev po_X10_laysBond (z : zC) (mh : Nat) (xT : Nat) (xD : Nat) (xP : Nat) (xR : Nat) (xC : Nat) (xW : Nat) (xA : Nat) (xH : Nat) (xU : Nat) (xB : Nat) (xI : Nat) (xN : Nat) (xM : Nat) (xY : Nat) (xK : Nat) (xL : Nat) (xE : Nat) (xS : Nat) (m_ra : Int) (m_ca : Int) (m_tp : Int) (m_fa : Int) (m_at : Int) (m_wr : Int) (m_va : Int) (m_pl : Int) (m_st : Int) (m_lo : Int) (m_bl : Int) (m_bc : Int) (m_fo : Int) (m_yl : Int) (m_yw : Int) (m_nu : Int) (m_nl : Int) (m_lu : Int) (m_ll : Int) (m_ln : Int) (kT : Int → Int) (kD : Int → Int) (kP : Int → Int) (kR : Int → Int) (kC : Int → Int) (kW : Int → Int) (kA : Int → Int) (kH : Int → Int) (kU : Int → Int) (kB : Int → Int) (kI : Int → Int) (kN : Int → Int) (kM : Int → Int) (kY : Int → Int) (kK : Int → Int) (kL : Int → Int) (kE : Int → Int) (kS : Int → Int) (v1 : Int) (v2 : Int) (v3 : Int) (v4 : Int) : Option Value → va_W → Prop := fun v w => ∃ (gD : Int → Int), (gD = mLaid kD v1 v2 v3 v4) ∧ v = none ∧ w = wMod z mh xT xD xP xR xC xW xA xH xU xB xI xN xM xY xK xL xE xS m_ra m_ca m_tp m_fa m_at m_wr m_va m_pl m_st m_lo m_bl m_bc m_fo m_yl m_yw m_nu m_nl m_lu m_ll m_ln kT gD kP kR kC kW kA kH kU kB kI kN kM kY kK kL kE kS
abbrev rm_X10_laysBond : Room := { frames := 1, cells := 0, slots := 0, locals := 40 }
set_option maxHeartbeats 4000000 in
set_option maxRecDepth 100000 in
theorem cc_X10_laysBond (l : Launch) (z : zC) (mh : Nat) (xT : Nat) (xD : Nat) (xP : Nat) (xR : Nat) (xC : Nat) (xW : Nat) (xA : Nat) (xH : Nat) (xU : Nat) (xB : Nat) (xI : Nat) (xN : Nat) (xM : Nat) (xY : Nat) (xK : Nat) (xL : Nat) (xE : Nat) (xS : Nat) (m_ra : Int) (m_ca : Int) (m_tp : Int) (m_fa : Int) (m_at : Int) (m_wr : Int) (m_va : Int) (m_pl : Int) (m_st : Int) (m_lo : Int) (m_bl : Int) (m_bc : Int) (m_fo : Int) (m_yl : Int) (m_yw : Int) (m_nu : Int) (m_nl : Int) (m_lu : Int) (m_ll : Int) (m_ln : Int) (kT : Int → Int) (kD : Int → Int) (kP : Int → Int) (kR : Int → Int) (kC : Int → Int) (kW : Int → Int) (kA : Int → Int) (kH : Int → Int) (kU : Int → Int) (kB : Int → Int) (kI : Int → Int) (kN : Int → Int) (kM : Int → Int) (kY : Int → Int) (kK : Int → Int) (kL : Int → Int) (kE : Int → Int) (kS : Int → Int) (v1 : Int) (v2 : Int) (v3 : Int) (v4 : Int) (hb : 0 ≤ kD 1 ∧ kD 1 ≤ 4) : zzMet l yX10_laysBond cX10_laysBond 6 none rm_X10_laysBond z [.ref mh, .int (iI v1), .int (iI v2), .int (iI v3), .int (iI v4)] (wMod z mh xT xD xP xR xC xW xA xH xU xB xI xN xM xY xK xL xE xS m_ra m_ca m_tp m_fa m_at m_wr m_va m_pl m_st m_lo m_bl m_bc m_fo m_yl m_yw m_nu m_nl m_lu m_ll m_ln kT kD kP kR kC kW kA kH kU kB kI kN kM kY kK kL kE kS) (po_X10_laysBond z mh xT xD xP xR xC xW xA xH xU xB xI xN xM xY xK xL xE xS m_ra m_ca m_tp m_fa m_at m_wr m_va m_pl m_st m_lo m_bl m_bc m_fo m_yl m_yw m_nu m_nl m_lu m_ll m_ln kT kD kP kR kC kW kA kH kU kB kI kN kM kY kK kL kE kS v1 v2 v3 v4) := by
  refine zzMet.of (own := RX10) (ls0 := [(0, .ref mh), (1, .int (iI v1)), (2, .int (iI v2)), (3, .int (iI v3)), (4, .int (iI v4))]) (by decide) rfl (Nat.le_of_ble_eq_true rfl) rfl ?_
  intro p e s m below meth c A C hr hnm
  refine zz_aload_n C 0 dX10_laysBond_0 rfl rfl ?_
  refine zz_get C 0 (ci := 10) (k := 2) rfl rfl in_X10 (by decide) qw_928 rfl rfl dX10_laysBond_1 ?_
  refine zz_iconst C dX10_laysBond_4 ?_
  refine zz_iald C 2 rfl (by omega) (by omega) (by decide) dX10_laysBond_5 ?_
  refine zz_istore (ls' := [(5, .int (iI (kD 1))), (0, .ref mh), (1, .int (iI v1)), (2, .int (iI v2)), (3, .int (iI v3)), (4, .int (iI v4))]) C dX10_laysBond_6 (by decide) rfl ?_
  refine zz_aload_n C 1 dX10_laysBond_8 rfl rfl ?_
  refine zz_get C 0 (ci := 10) (k := 2) rfl rfl in_X10 (by decide) qw_928 rfl rfl dX10_laysBond_9 ?_
  refine zz_bipush C dX10_laysBond_12 (by decide +kernel) ?_
  refine zz_iload C 0 dX10_laysBond_14 rfl ?_
  refine zz_iadd C dX10_laysBond_16 ?_
  refine zz_iload_n C 2 dX10_laysBond_17 rfl rfl ?_
  refine zz_iast (ws' := wMod z mh xT xD xP xR xC xW xA xH xU xB xI xN xM xY xK xL xE xS m_ra m_ca m_tp m_fa m_at m_wr m_va m_pl m_st m_lo m_bl m_bc m_fo m_yl m_yw m_nu m_nl m_lu m_ll m_ln kT (zup kD (12 + (kD 1)) v1) kP kR kC kW kA kH kU kB kI kN kM kY kK kL kE kS) C 2 rfl (by omega) (by omega) (by decide) rfl dX10_laysBond_18 ?_
  refine zz_aload_n C 1 dX10_laysBond_19 rfl rfl ?_
  refine zz_get C 0 (ci := 10) (k := 2) rfl rfl in_X10 (by decide) qw_928 rfl rfl dX10_laysBond_20 ?_
  refine zz_bipush C dX10_laysBond_23 (by decide +kernel) ?_
  refine zz_iload C 0 dX10_laysBond_25 rfl ?_
  refine zz_iadd C dX10_laysBond_27 ?_
  refine zz_iload_n C 3 dX10_laysBond_28 rfl rfl ?_
  refine zz_iast (ws' := wMod z mh xT xD xP xR xC xW xA xH xU xB xI xN xM xY xK xL xE xS m_ra m_ca m_tp m_fa m_at m_wr m_va m_pl m_st m_lo m_bl m_bc m_fo m_yl m_yw m_nu m_nl m_lu m_ll m_ln kT (zup (zup kD (12 + (kD 1)) v1) (17 + (kD 1)) v2) kP kR kC kW kA kH kU kB kI kN kM kY kK kL kE kS) C 2 rfl (by omega) (by omega) (by decide) rfl dX10_laysBond_29 ?_
  refine zz_aload_n C 1 dX10_laysBond_30 rfl rfl ?_
  refine zz_get C 0 (ci := 10) (k := 2) rfl rfl in_X10 (by decide) qw_928 rfl rfl dX10_laysBond_31 ?_
  refine zz_bipush C dX10_laysBond_34 (by decide +kernel) ?_
  refine zz_iload C 0 dX10_laysBond_36 rfl ?_
  refine zz_iadd C dX10_laysBond_38 ?_
  refine zz_iload_n C 4 dX10_laysBond_39 rfl rfl ?_
  refine zz_iast (ws' := wMod z mh xT xD xP xR xC xW xA xH xU xB xI xN xM xY xK xL xE xS m_ra m_ca m_tp m_fa m_at m_wr m_va m_pl m_st m_lo m_bl m_bc m_fo m_yl m_yw m_nu m_nl m_lu m_ll m_ln kT (zup (zup (zup kD (12 + (kD 1)) v1) (17 + (kD 1)) v2) (22 + (kD 1)) v3) kP kR kC kW kA kH kU kB kI kN kM kY kK kL kE kS) C 2 rfl (by omega) (by omega) (by decide) rfl dX10_laysBond_40 ?_
  refine zz_aload_n C 1 dX10_laysBond_41 rfl rfl ?_
  refine zz_get C 0 (ci := 10) (k := 2) rfl rfl in_X10 (by decide) qw_928 rfl rfl dX10_laysBond_42 ?_
  refine zz_bipush C dX10_laysBond_45 (by decide +kernel) ?_
  refine zz_iload C 0 dX10_laysBond_47 rfl ?_
  refine zz_iadd C dX10_laysBond_49 ?_
  refine zz_iload C 5 dX10_laysBond_50 rfl ?_
  refine zz_iast (ws' := wMod z mh xT xD xP xR xC xW xA xH xU xB xI xN xM xY xK xL xE xS m_ra m_ca m_tp m_fa m_at m_wr m_va m_pl m_st m_lo m_bl m_bc m_fo m_yl m_yw m_nu m_nl m_lu m_ll m_ln kT (zup (zup (zup (zup kD (12 + (kD 1)) v1) (17 + (kD 1)) v2) (22 + (kD 1)) v3) (27 + (kD 1)) v4) kP kR kC kW kA kH kU kB kI kN kM kY kK kL kE kS) C 2 rfl (by omega) (by omega) (by decide) rfl dX10_laysBond_52 ?_
  refine zz_aload_n C 1 dX10_laysBond_53 rfl rfl ?_
  refine zz_get C 0 (ci := 10) (k := 2) rfl rfl in_X10 (by decide) qw_928 rfl rfl dX10_laysBond_54 ?_
  refine zz_bipush C dX10_laysBond_57 (by decide +kernel) ?_
  refine zz_iload C 0 dX10_laysBond_59 rfl ?_
  refine zz_iadd C dX10_laysBond_61 ?_
  refine zz_bipush C dX10_laysBond_62 (by decide +kernel) ?_
  refine zz_iast (ws' := wMod z mh xT xD xP xR xC xW xA xH xU xB xI xN xM xY xK xL xE xS m_ra m_ca m_tp m_fa m_at m_wr m_va m_pl m_st m_lo m_bl m_bc m_fo m_yl m_yw m_nu m_nl m_lu m_ll m_ln kT (zup (zup (zup (zup (zup kD (12 + (kD 1)) v1) (17 + (kD 1)) v2) (22 + (kD 1)) v3) (27 + (kD 1)) v4) (32 + (kD 1)) 10) kP kR kC kW kA kH kU kB kI kN kM kY kK kL kE kS) C 2 rfl (by omega) (by omega) (by decide) rfl dX10_laysBond_64 ?_
  refine zz_aload_n C 1 dX10_laysBond_65 rfl rfl ?_
  refine zz_get C 0 (ci := 10) (k := 2) rfl rfl in_X10 (by decide) qw_928 rfl rfl dX10_laysBond_66 ?_
  refine zz_bipush C dX10_laysBond_69 (by decide +kernel) ?_
  refine zz_iload C 0 dX10_laysBond_71 rfl ?_
  refine zz_iadd C dX10_laysBond_73 ?_
  refine zz_iconst C dX10_laysBond_74 ?_
  refine zz_iast (ws' := wMod z mh xT xD xP xR xC xW xA xH xU xB xI xN xM xY xK xL xE xS m_ra m_ca m_tp m_fa m_at m_wr m_va m_pl m_st m_lo m_bl m_bc m_fo m_yl m_yw m_nu m_nl m_lu m_ll m_ln kT (zup (zup (zup (zup (zup (zup kD (12 + (kD 1)) v1) (17 + (kD 1)) v2) (22 + (kD 1)) v3) (27 + (kD 1)) v4) (32 + (kD 1)) 10) (37 + (kD 1)) 0) kP kR kC kW kA kH kU kB kI kN kM kY kK kL kE kS) C 2 rfl (by omega) (by omega) (by decide) rfl dX10_laysBond_75 ?_
  refine zz_aload_n C 1 dX10_laysBond_76 rfl rfl ?_
  refine zz_get C 0 (ci := 10) (k := 2) rfl rfl in_X10 (by decide) qw_928 rfl rfl dX10_laysBond_77 ?_
  refine zz_bipush C dX10_laysBond_80 (by decide +kernel) ?_
  refine zz_iload C 0 dX10_laysBond_82 rfl ?_
  refine zz_iadd C dX10_laysBond_84 ?_
  refine zz_iconst C dX10_laysBond_85 ?_
  refine zz_iast (ws' := wMod z mh xT xD xP xR xC xW xA xH xU xB xI xN xM xY xK xL xE xS m_ra m_ca m_tp m_fa m_at m_wr m_va m_pl m_st m_lo m_bl m_bc m_fo m_yl m_yw m_nu m_nl m_lu m_ll m_ln kT (zup (zup (zup (zup (zup (zup (zup kD (12 + (kD 1)) v1) (17 + (kD 1)) v2) (22 + (kD 1)) v3) (27 + (kD 1)) v4) (32 + (kD 1)) 10) (37 + (kD 1)) 0) (42 + (kD 1)) 0) kP kR kC kW kA kH kU kB kI kN kM kY kK kL kE kS) C 2 rfl (by omega) (by omega) (by decide) rfl dX10_laysBond_86 ?_
  refine zz_aload_n C 1 dX10_laysBond_87 rfl rfl ?_
  refine zz_get C 0 (ci := 10) (k := 2) rfl rfl in_X10 (by decide) qw_928 rfl rfl dX10_laysBond_88 ?_
  refine zz_iconst C dX10_laysBond_91 ?_
  refine zz_dup2 C dX10_laysBond_92 rfl rfl ?_
  have hx93 : (zup (zup (zup (zup (zup (zup (zup kD (12 + (kD 1)) v1) (17 + (kD 1)) v2) (22 + (kD 1)) v3) (27 + (kD 1)) v4) (32 + (kD 1)) 10) (37 + (kD 1)) 0) (42 + (kD 1)) 0) 1 = kD 1 := by simp only [zup]; repeat' (rw [if_neg (by omega)])
  refine zz_iald C 2 rfl (by omega) (by omega) (by decide) dX10_laysBond_93 ?_
  refine zz_iconst C dX10_laysBond_94 ?_
  refine zz_iadd C dX10_laysBond_95 ?_
  refine zz_iast (ws' := wMod z mh xT xD xP xR xC xW xA xH xU xB xI xN xM xY xK xL xE xS m_ra m_ca m_tp m_fa m_at m_wr m_va m_pl m_st m_lo m_bl m_bc m_fo m_yl m_yw m_nu m_nl m_lu m_ll m_ln kT (zup (zup (zup (zup (zup (zup (zup (zup kD (12 + (kD 1)) v1) (17 + (kD 1)) v2) (22 + (kD 1)) v3) (27 + (kD 1)) v4) (32 + (kD 1)) 10) (37 + (kD 1)) 0) (42 + (kD 1)) 0) 1 (((zup (zup (zup (zup (zup (zup (zup kD (12 + (kD 1)) v1) (17 + (kD 1)) v2) (22 + (kD 1)) v3) (27 + (kD 1)) v4) (32 + (kD 1)) 10) (37 + (kD 1)) 0) (42 + (kD 1)) 0) 1) + 1)) kP kR kC kW kA kH kU kB kI kN kM kY kK kL kE kS) C 2 rfl (by omega) (by omega) (by decide) rfl dX10_laysBond_96 ?_
  exact zz_vret C hr dX10_laysBond_97 ⟨_, by unfold mLaid; rw [hx93], rfl, rfl⟩
abbrev po_X10_pay (z : zC) (mh : Nat) (xT : Nat) (xD : Nat) (xP : Nat) (xR : Nat) (xC : Nat) (xW : Nat) (xA : Nat) (xH : Nat) (xU : Nat) (xB : Nat) (xI : Nat) (xN : Nat) (xM : Nat) (xY : Nat) (xK : Nat) (xL : Nat) (xE : Nat) (xS : Nat) (m_ra : Int) (m_ca : Int) (m_tp : Int) (m_fa : Int) (m_at : Int) (m_wr : Int) (m_va : Int) (m_pl : Int) (m_st : Int) (m_lo : Int) (m_bl : Int) (m_bc : Int) (m_fo : Int) (m_yl : Int) (m_yw : Int) (m_nu : Int) (m_nl : Int) (m_lu : Int) (m_ll : Int) (m_ln : Int) (kT : Int → Int) (kD : Int → Int) (kP : Int → Int) (kR : Int → Int) (kC : Int → Int) (kW : Int → Int) (kA : Int → Int) (kH : Int → Int) (kU : Int → Int) (kB : Int → Int) (kI : Int → Int) (kN : Int → Int) (kM : Int → Int) (kY : Int → Int) (kK : Int → Int) (kL : Int → Int) (kE : Int → Int) (kS : Int → Int) (d9 : Int) (v9 : Int) : Option Value → va_W → Prop := fun v w => ∃ (q : Int), ∃ (gD : Int → Int), ∃ (gT : Int → Int), ((q = 1 ∧ ((1 ≤ d9 ∧ d9 ≤ kT 0) ∧ (0 ≤ v9 ∧ v9 ≤ 200)) ∧ eqR gT (zup kT (2 + d9) v9) 47) ∨ (q = 0 ∧ ¬ ((1 ≤ d9 ∧ d9 ≤ kT 0) ∧ (0 ≤ v9 ∧ v9 ≤ 200)) ∧ eqR gT kT 47)) ∧ v = some (Value.int (iI q)) ∧ w = wMod z mh xT xD xP xR xC xW xA xH xU xB xI xN xM xY xK xL xE xS 0 m_ca m_tp m_fa m_at m_wr m_va m_pl m_st m_lo m_bl m_bc m_fo m_yl m_yw m_nu m_nl m_lu m_ll m_ln gT gD kP kR kC kW kA kH kU kB kI kN kM kY kK kL kE kS
abbrev rm_X10_pay : Room := { frames := 3, cells := 0, slots := 0, locals := 83 }
set_option maxHeartbeats 4000000 in
set_option maxRecDepth 100000 in
theorem cc_X10_pay (l : Launch) (z : zC) (mh : Nat) (xT : Nat) (xD : Nat) (xP : Nat) (xR : Nat) (xC : Nat) (xW : Nat) (xA : Nat) (xH : Nat) (xU : Nat) (xB : Nat) (xI : Nat) (xN : Nat) (xM : Nat) (xY : Nat) (xK : Nat) (xL : Nat) (xE : Nat) (xS : Nat) (m_ra : Int) (m_ca : Int) (m_tp : Int) (m_fa : Int) (m_at : Int) (m_wr : Int) (m_va : Int) (m_pl : Int) (m_st : Int) (m_lo : Int) (m_bl : Int) (m_bc : Int) (m_fo : Int) (m_yl : Int) (m_yw : Int) (m_nu : Int) (m_nl : Int) (m_lu : Int) (m_ll : Int) (m_ln : Int) (kT : Int → Int) (kD : Int → Int) (kP : Int → Int) (kR : Int → Int) (kC : Int → Int) (kW : Int → Int) (kA : Int → Int) (kH : Int → Int) (kU : Int → Int) (kB : Int → Int) (kI : Int → Int) (kN : Int → Int) (kM : Int → Int) (kY : Int → Int) (kK : Int → Int) (kL : Int → Int) (kE : Int → Int) (kS : Int → Int) (d9 : Int) (v9 : Int) (hkT : mOk kT) (hd9 : -2147483648 ≤ d9 ∧ d9 < 2147483648) (hv9 : -2147483648 ≤ v9 ∧ v9 < 2147483648) : zzMet l yX10_pay cX10_pay 3 (Option.some .boolean) rm_X10_pay z [.ref mh, .int (iI d9), .int (iI v9)] (wMod z mh xT xD xP xR xC xW xA xH xU xB xI xN xM xY xK xL xE xS m_ra m_ca m_tp m_fa m_at m_wr m_va m_pl m_st m_lo m_bl m_bc m_fo m_yl m_yw m_nu m_nl m_lu m_ll m_ln kT kD kP kR kC kW kA kH kU kB kI kN kM kY kK kL kE kS) (po_X10_pay z mh xT xD xP xR xC xW xA xH xU xB xI xN xM xY xK xL xE xS m_ra m_ca m_tp m_fa m_at m_wr m_va m_pl m_st m_lo m_bl m_bc m_fo m_yl m_yw m_nu m_nl m_lu m_ll m_ln kT kD kP kR kC kW kA kH kU kB kI kN kM kY kK kL kE kS d9 v9) := by
  refine zzMet.of (own := RX10) (ls0 := [(0, .ref mh), (1, .int (iI d9)), (2, .int (iI v9))]) (by decide) rfl (Nat.le_of_ble_eq_true rfl) rfl ?_
  intro p e s m below meth c A C hr hnm
  have hk0 := hkT.1
  have hk1 := hkT.2.1
  refine zz_aload_n C 0 dX10_pay_0 rfl rfl ?_
  refine zz_iconst C dX10_pay_1 ?_
  refine zz_put (ty := .int) (ws' := wMod z mh xT xD xP xR xC xW xA xH xU xB xI xN xM xY xK xL xE xS 0 m_ca m_tp m_fa m_at m_wr m_va m_pl m_st m_lo m_bl m_bc m_fo m_yl m_yw m_nu m_nl m_lu m_ll m_ln kT kD kP kR kC kW kA kH kU kB kI kN kM kY kK kL kE kS) C 0 (ci := 10) (k := 0) rfl rfl in_X10 tyX10 tyX10_ok nmX10 (by decide) qw_926 rfl rfl (by decide +kernel) rfl rfl (Nat.le_of_ble_eq_true rfl) rfl dX10_pay_2 ?_
  refine zz_aload_n C 0 dX10_pay_5 rfl rfl ?_
  refine zz_callV (wr := ([] : va_W)) (st := []) C (cc_X10_drafts l z mh xT xD xP xR xC xW xA xH xU xB xI xN xM xY xK xL xE xS 0 m_ca m_tp m_fa m_at m_wr m_va m_pl m_st m_lo m_bl m_bc m_fo m_yl m_yw m_nu m_nl m_lu m_ll m_ln kT kD kP kR kC kW kA kH kU kB kI kN kM kY kK kL kE kS ) yk_X10_drafts qw_1064 ⟨by decide, by decide⟩ [0, 1, 2, 3, 4, 5, 6, 7, 8, 9, 10, 11, 12, 13, 14, 15, 16, 17, 18] [] rfl rfl rfl rfl (by decide) 0 10 rfl rfl rfl rfl (Nat.le_of_ble_eq_true rfl) dX10_pay_6 ⟨by decide, by decide⟩ ?_
  rintro _ _ ⟨gD_6, hgD_6, rfl, rfl⟩
  refine zz_st (st' := []) rfl (zz_ws (ws' := wMod z mh xT xD xP xR xC xW xA xH xU xB xI xN xM xY xK xL xE xS 0 m_ca m_tp m_fa m_at m_wr m_va m_pl m_st m_lo m_bl m_bc m_fo m_yl m_yw m_nu m_nl m_lu m_ll m_ln kT gD_6 kP kR kC kW kA kH kU kB kI kN kM kY kK kL kE kS) rfl ?_)
  have hd0 := hgD_6 0 (by omega) (by omega)
  have hd1 := hgD_6 1 (by omega) (by omega)
  refine zz_aload_n C 0 dX10_pay_9 rfl rfl ?_
  refine zz_aload_n C 0 dX10_pay_10 rfl rfl ?_
  refine zz_iconst C dX10_pay_11 ?_
  refine zz_iload_n C 1 dX10_pay_12 rfl rfl ?_
  refine zz_iadd C dX10_pay_13 ?_
  refine zz_iload_n C 2 dX10_pay_14 rfl rfl ?_
  refine zz_aload_n C 0 dX10_pay_15 rfl rfl ?_
  refine zz_iload_n C 1 dX10_pay_16 rfl rfl ?_
  refine zz_callV (wr := ([] : va_W)) (st := [.int (iI v9), .int (iI (2 + d9)), .ref mh, .ref mh]) C (cc_X10_isDate l z mh xT xD xP xR xC xW xA xH xU xB xI xN xM xY xK xL xE xS 0 m_ca m_tp m_fa m_at m_wr m_va m_pl m_st m_lo m_bl m_bc m_fo m_yl m_yw m_nu m_nl m_lu m_ll m_ln kT gD_6 kP kR kC kW kA kH kU kB kI kN kM kY kK kL kE kS d9 (by omega) (by omega)) yk_X10_isDate qw_1068 ⟨by decide, by decide⟩ [0, 1, 2, 3, 4, 5, 6, 7, 8, 9, 10, 11, 12, 13, 14, 15, 16, 17, 18] [] rfl rfl rfl rfl (by decide) 0 10 rfl rfl rfl rfl (Nat.le_of_ble_eq_true rfl) dX10_pay_17 ⟨by decide, by decide⟩ ?_
  rintro _ _ ⟨q_17, hq_17, rfl, rfl⟩
  refine zz_st (st' := [.int (iI q_17), .int (iI v9), .int (iI (2 + d9)), .ref mh, .ref mh]) rfl (zz_ws (ws' := wMod z mh xT xD xP xR xC xW xA xH xU xB xI xN xM xY xK xL xE xS 0 m_ca m_tp m_fa m_at m_wr m_va m_pl m_st m_lo m_bl m_bc m_fo m_yl m_yw m_nu m_nl m_lu m_ll m_ln kT gD_6 kP kR kC kW kA kH kU kB kI kN kM kY kK kL kE kS) rfl ?_)
  refine zz_if_eq (tgt := 38) C dX10_pay_20 (by decide) (by unfold rI; omega) (fun c20 => ?_) (fun c20 => ?_)
  · skip
    refine zz_iconst C dX10_pay_38 ?_
    refine zz_callV (wr := ([] : va_W)) (st := [.ref mh]) C (cc_X10_lays_0 l z mh xT xD xP xR xC xW xA xH xU xB xI xN xM xY xK xL xE xS 0 m_ca m_tp m_fa m_at m_wr m_va m_pl m_st m_lo m_bl m_bc m_fo m_yl m_yw m_nu m_nl m_lu m_ll m_ln kT gD_6 kP kR kC kW kA kH kU kB kI kN kM kY kK kL kE kS (2 + d9) v9 ) yk_X10_lays qw_1072 ⟨by decide, by decide⟩ [0, 1, 2, 3, 4, 5, 6, 7, 8, 9, 10, 11, 12, 13, 14, 15, 16, 17, 18] [] rfl rfl rfl rfl (by decide) 0 10 rfl rfl rfl rfl (Nat.le_of_ble_eq_true rfl) dX10_pay_39 ⟨by decide, by decide⟩ ?_
    rintro _ _ ⟨rfl, rfl⟩
    refine zz_st (st' := [.int (iI 0), .ref mh]) rfl (zz_ws (ws' := wMod z mh xT xD xP xR xC xW xA xH xU xB xI xN xM xY xK xL xE xS 0 m_ca m_tp m_fa m_at m_wr m_va m_pl m_st m_lo m_bl m_bc m_fo m_yl m_yw m_nu m_nl m_lu m_ll m_ln kT gD_6 kP kR kC kW kA kH kU kB kI kN kM kY kK kL kE kS) rfl ?_)
    refine zz_callV (wr := ([] : va_W)) (st := []) C (cc_X10_takes_0 l z mh xT xD xP xR xC xW xA xH xU xB xI xN xM xY xK xL xE xS 0 m_ca m_tp m_fa m_at m_wr m_va m_pl m_st m_lo m_bl m_bc m_fo m_yl m_yw m_nu m_nl m_lu m_ll m_ln kT gD_6 kP kR kC kW kA kH kU kB kI kN kM kY kK kL kE kS ) yk_X10_takes qw_1056 ⟨by decide, by decide⟩ [0, 1, 2, 3, 4, 5, 6, 7, 8, 9, 10, 11, 12, 13, 14, 15, 16, 17, 18] [] rfl rfl rfl rfl (by decide) 0 10 rfl rfl rfl rfl (Nat.le_of_ble_eq_true rfl) dX10_pay_42 ⟨by decide, by decide⟩ ?_
    rintro _ _ ⟨rfl, rfl⟩
    refine zz_st (st' := [.int (iI 0)]) rfl (zz_ws (ws' := wMod z mh xT xD xP xR xC xW xA xH xU xB xI xN xM xY xK xL xE xS 0 m_ca m_tp m_fa m_at m_wr m_va m_pl m_st m_lo m_bl m_bc m_fo m_yl m_yw m_nu m_nl m_lu m_ll m_ln kT gD_6 kP kR kC kW kA kH kU kB kI kN kM kY kK kL kE kS) rfl ?_)
    exact zz_zret C hr (by decide +kernel) dX10_pay_45 ⟨0, _, _, Or.inr ⟨rfl, by omega, fun i h0 h1 => rfl⟩, rfl, rfl⟩
  · skip
    refine zz_iload_n C 2 dX10_pay_23 rfl rfl ?_
    refine zz_iconst C dX10_pay_24 ?_
    refine zz_sipush C dX10_pay_25 (by decide +kernel) ?_
    refine zz_callS (wr := wMod z mh xT xD xP xR xC xW xA xH xU xB xI xN xM xY xK xL xE xS 0 m_ca m_tp m_fa m_at m_wr m_va m_pl m_st m_lo m_bl m_bc m_fo m_yl m_yw m_nu m_nl m_lu m_ll m_ln kT gD_6 kP kR kC kW kA kH kU kB kI kN kM kY kK kL kE kS) (st := [.int (iI v9), .int (iI (2 + d9)), .ref mh, .ref mh]) C (cc_X10_in l z v9 0 200 (by omega) (by omega) (by omega)) yk_X10_in qw_1049 ⟨by decide, by decide⟩ [] [0, 1, 2, 3, 4, 5, 6, 7, 8, 9, 10, 11, 12, 13, 14, 15, 16, 17, 18] rfl rfl rfl rfl (by decide) rfl rfl (Nat.le_of_ble_eq_true rfl) dX10_pay_28 ⟨by decide, by decide⟩ ?_
    rintro _ _ ⟨q_28, hq_28, rfl, rfl⟩
    refine zz_st (st' := [.int (iI q_28), .int (iI v9), .int (iI (2 + d9)), .ref mh, .ref mh]) rfl (zz_ws (ws' := wMod z mh xT xD xP xR xC xW xA xH xU xB xI xN xM xY xK xL xE xS 0 m_ca m_tp m_fa m_at m_wr m_va m_pl m_st m_lo m_bl m_bc m_fo m_yl m_yw m_nu m_nl m_lu m_ll m_ln kT gD_6 kP kR kC kW kA kH kU kB kI kN kM kY kK kL kE kS) rfl ?_)
    refine zz_if_eq (tgt := 38) C dX10_pay_31 (by decide) (by unfold rI; omega) (fun c31 => ?_) (fun c31 => ?_)
    · skip
      refine zz_iconst C dX10_pay_38 ?_
      refine zz_callV (wr := ([] : va_W)) (st := [.ref mh]) C (cc_X10_lays_0 l z mh xT xD xP xR xC xW xA xH xU xB xI xN xM xY xK xL xE xS 0 m_ca m_tp m_fa m_at m_wr m_va m_pl m_st m_lo m_bl m_bc m_fo m_yl m_yw m_nu m_nl m_lu m_ll m_ln kT gD_6 kP kR kC kW kA kH kU kB kI kN kM kY kK kL kE kS (2 + d9) v9 ) yk_X10_lays qw_1072 ⟨by decide, by decide⟩ [0, 1, 2, 3, 4, 5, 6, 7, 8, 9, 10, 11, 12, 13, 14, 15, 16, 17, 18] [] rfl rfl rfl rfl (by decide) 0 10 rfl rfl rfl rfl (Nat.le_of_ble_eq_true rfl) dX10_pay_39 ⟨by decide, by decide⟩ ?_
      rintro _ _ ⟨rfl, rfl⟩
      refine zz_st (st' := [.int (iI 0), .ref mh]) rfl (zz_ws (ws' := wMod z mh xT xD xP xR xC xW xA xH xU xB xI xN xM xY xK xL xE xS 0 m_ca m_tp m_fa m_at m_wr m_va m_pl m_st m_lo m_bl m_bc m_fo m_yl m_yw m_nu m_nl m_lu m_ll m_ln kT gD_6 kP kR kC kW kA kH kU kB kI kN kM kY kK kL kE kS) rfl ?_)
      refine zz_callV (wr := ([] : va_W)) (st := []) C (cc_X10_takes_0 l z mh xT xD xP xR xC xW xA xH xU xB xI xN xM xY xK xL xE xS 0 m_ca m_tp m_fa m_at m_wr m_va m_pl m_st m_lo m_bl m_bc m_fo m_yl m_yw m_nu m_nl m_lu m_ll m_ln kT gD_6 kP kR kC kW kA kH kU kB kI kN kM kY kK kL kE kS ) yk_X10_takes qw_1056 ⟨by decide, by decide⟩ [0, 1, 2, 3, 4, 5, 6, 7, 8, 9, 10, 11, 12, 13, 14, 15, 16, 17, 18] [] rfl rfl rfl rfl (by decide) 0 10 rfl rfl rfl rfl (Nat.le_of_ble_eq_true rfl) dX10_pay_42 ⟨by decide, by decide⟩ ?_
      rintro _ _ ⟨rfl, rfl⟩
      refine zz_st (st' := [.int (iI 0)]) rfl (zz_ws (ws' := wMod z mh xT xD xP xR xC xW xA xH xU xB xI xN xM xY xK xL xE xS 0 m_ca m_tp m_fa m_at m_wr m_va m_pl m_st m_lo m_bl m_bc m_fo m_yl m_yw m_nu m_nl m_lu m_ll m_ln kT gD_6 kP kR kC kW kA kH kU kB kI kN kM kY kK kL kE kS) rfl ?_)
      exact zz_zret C hr (by decide +kernel) dX10_pay_45 ⟨0, _, _, Or.inr ⟨rfl, by omega, fun i h0 h1 => rfl⟩, rfl, rfl⟩
    · skip
      refine zz_iconst C dX10_pay_34 ?_
      refine zz_goto (tgt := 39) C dX10_pay_35 (by decide) ?_
      refine zz_callV (wr := ([] : va_W)) (st := [.ref mh]) C (cc_X10_lays_1 l z mh xT xD xP xR xC xW xA xH xU xB xI xN xM xY xK xL xE xS 0 m_ca m_tp m_fa m_at m_wr m_va m_pl m_st m_lo m_bl m_bc m_fo m_yl m_yw m_nu m_nl m_lu m_ll m_ln kT gD_6 kP kR kC kW kA kH kU kB kI kN kM kY kK kL kE kS (2 + d9) v9 (by omega)) yk_X10_lays qw_1072 ⟨by decide, by decide⟩ [0, 1, 2, 3, 4, 5, 6, 7, 8, 9, 10, 11, 12, 13, 14, 15, 16, 17, 18] [] rfl rfl rfl rfl (by decide) 0 10 rfl rfl rfl rfl (Nat.le_of_ble_eq_true rfl) dX10_pay_39 ⟨by decide, by decide⟩ ?_
      rintro _ _ ⟨rfl, rfl⟩
      refine zz_st (st' := [.int (iI 1), .ref mh]) rfl (zz_ws (ws' := wMod z mh xT xD xP xR xC xW xA xH xU xB xI xN xM xY xK xL xE xS 0 m_ca m_tp m_fa m_at m_wr m_va m_pl m_st m_lo m_bl m_bc m_fo m_yl m_yw m_nu m_nl m_lu m_ll m_ln kT (zup gD_6 (2 + d9) v9) kP kR kC kW kA kH kU kB kI kN kM kY kK kL kE kS) rfl ?_)
      refine zz_callV (wr := ([] : va_W)) (st := []) C (cc_X10_takes_1 l z mh xT xD xP xR xC xW xA xH xU xB xI xN xM xY xK xL xE xS 0 m_ca m_tp m_fa m_at m_wr m_va m_pl m_st m_lo m_bl m_bc m_fo m_yl m_yw m_nu m_nl m_lu m_ll m_ln kT (zup gD_6 (2 + d9) v9) kP kR kC kW kA kH kU kB kI kN kM kY kK kL kE kS ) yk_X10_takes qw_1056 ⟨by decide, by decide⟩ [0, 1, 2, 3, 4, 5, 6, 7, 8, 9, 10, 11, 12, 13, 14, 15, 16, 17, 18] [] rfl rfl rfl rfl (by decide) 0 10 rfl rfl rfl rfl (Nat.le_of_ble_eq_true rfl) dX10_pay_42 ⟨by decide, by decide⟩ ?_
      rintro _ _ ⟨gT_42, hgT_42, rfl, rfl⟩
      refine zz_st (st' := [.int (iI 1)]) rfl (zz_ws (ws' := wMod z mh xT xD xP xR xC xW xA xH xU xB xI xN xM xY xK xL xE xS 0 m_ca m_tp m_fa m_at m_wr m_va m_pl m_st m_lo m_bl m_bc m_fo m_yl m_yw m_nu m_nl m_lu m_ll m_ln gT_42 (zup gD_6 (2 + d9) v9) kP kR kC kW kA kH kU kB kI kN kM kY kK kL kE kS) rfl ?_)
      exact zz_zret C hr (by decide +kernel) dX10_pay_45 ⟨1, _, _, Or.inl ⟨rfl, by omega, fun i h0 h1 => by rw [hgT_42 i h0 h1]; exact eqR_zup hgD_6 i h0 h1⟩, rfl, rfl⟩
abbrev po_X10_rate (z : zC) (mh : Nat) (xT : Nat) (xD : Nat) (xP : Nat) (xR : Nat) (xC : Nat) (xW : Nat) (xA : Nat) (xH : Nat) (xU : Nat) (xB : Nat) (xI : Nat) (xN : Nat) (xM : Nat) (xY : Nat) (xK : Nat) (xL : Nat) (xE : Nat) (xS : Nat) (m_ra : Int) (m_ca : Int) (m_tp : Int) (m_fa : Int) (m_at : Int) (m_wr : Int) (m_va : Int) (m_pl : Int) (m_st : Int) (m_lo : Int) (m_bl : Int) (m_bc : Int) (m_fo : Int) (m_yl : Int) (m_yw : Int) (m_nu : Int) (m_nl : Int) (m_lu : Int) (m_ll : Int) (m_ln : Int) (kT : Int → Int) (kD : Int → Int) (kP : Int → Int) (kR : Int → Int) (kC : Int → Int) (kW : Int → Int) (kA : Int → Int) (kH : Int → Int) (kU : Int → Int) (kB : Int → Int) (kI : Int → Int) (kN : Int → Int) (kM : Int → Int) (kY : Int → Int) (kK : Int → Int) (kL : Int → Int) (kE : Int → Int) (kS : Int → Int) (d9 : Int) (v9 : Int) : Option Value → va_W → Prop := fun v w => ∃ (q : Int), ∃ (gD : Int → Int), ∃ (gT : Int → Int), ((q = 1 ∧ ((1 ≤ d9 ∧ d9 ≤ kT 0) ∧ (0 ≤ v9 ∧ v9 ≤ 6)) ∧ eqR gT (zup kT (7 + d9) v9) 47) ∨ (q = 0 ∧ ¬ ((1 ≤ d9 ∧ d9 ≤ kT 0) ∧ (0 ≤ v9 ∧ v9 ≤ 6)) ∧ eqR gT kT 47)) ∧ v = some (Value.int (iI q)) ∧ w = wMod z mh xT xD xP xR xC xW xA xH xU xB xI xN xM xY xK xL xE xS 0 m_ca m_tp m_fa m_at m_wr m_va m_pl m_st m_lo m_bl m_bc m_fo m_yl m_yw m_nu m_nl m_lu m_ll m_ln gT gD kP kR kC kW kA kH kU kB kI kN kM kY kK kL kE kS
abbrev rm_X10_rate : Room := { frames := 3, cells := 0, slots := 0, locals := 83 }
set_option maxHeartbeats 4000000 in
set_option maxRecDepth 100000 in
theorem cc_X10_rate (l : Launch) (z : zC) (mh : Nat) (xT : Nat) (xD : Nat) (xP : Nat) (xR : Nat) (xC : Nat) (xW : Nat) (xA : Nat) (xH : Nat) (xU : Nat) (xB : Nat) (xI : Nat) (xN : Nat) (xM : Nat) (xY : Nat) (xK : Nat) (xL : Nat) (xE : Nat) (xS : Nat) (m_ra : Int) (m_ca : Int) (m_tp : Int) (m_fa : Int) (m_at : Int) (m_wr : Int) (m_va : Int) (m_pl : Int) (m_st : Int) (m_lo : Int) (m_bl : Int) (m_bc : Int) (m_fo : Int) (m_yl : Int) (m_yw : Int) (m_nu : Int) (m_nl : Int) (m_lu : Int) (m_ll : Int) (m_ln : Int) (kT : Int → Int) (kD : Int → Int) (kP : Int → Int) (kR : Int → Int) (kC : Int → Int) (kW : Int → Int) (kA : Int → Int) (kH : Int → Int) (kU : Int → Int) (kB : Int → Int) (kI : Int → Int) (kN : Int → Int) (kM : Int → Int) (kY : Int → Int) (kK : Int → Int) (kL : Int → Int) (kE : Int → Int) (kS : Int → Int) (d9 : Int) (v9 : Int) (hkT : mOk kT) (hd9 : -2147483648 ≤ d9 ∧ d9 < 2147483648) (hv9 : -2147483648 ≤ v9 ∧ v9 < 2147483648) : zzMet l yX10_rate cX10_rate 3 (Option.some .boolean) rm_X10_rate z [.ref mh, .int (iI d9), .int (iI v9)] (wMod z mh xT xD xP xR xC xW xA xH xU xB xI xN xM xY xK xL xE xS m_ra m_ca m_tp m_fa m_at m_wr m_va m_pl m_st m_lo m_bl m_bc m_fo m_yl m_yw m_nu m_nl m_lu m_ll m_ln kT kD kP kR kC kW kA kH kU kB kI kN kM kY kK kL kE kS) (po_X10_rate z mh xT xD xP xR xC xW xA xH xU xB xI xN xM xY xK xL xE xS m_ra m_ca m_tp m_fa m_at m_wr m_va m_pl m_st m_lo m_bl m_bc m_fo m_yl m_yw m_nu m_nl m_lu m_ll m_ln kT kD kP kR kC kW kA kH kU kB kI kN kM kY kK kL kE kS d9 v9) := by
  refine zzMet.of (own := RX10) (ls0 := [(0, .ref mh), (1, .int (iI d9)), (2, .int (iI v9))]) (by decide) rfl (Nat.le_of_ble_eq_true rfl) rfl ?_
  intro p e s m below meth c A C hr hnm
  have hk0 := hkT.1
  have hk1 := hkT.2.1
  refine zz_aload_n C 0 dX10_rate_0 rfl rfl ?_
  refine zz_iconst C dX10_rate_1 ?_
  refine zz_put (ty := .int) (ws' := wMod z mh xT xD xP xR xC xW xA xH xU xB xI xN xM xY xK xL xE xS 0 m_ca m_tp m_fa m_at m_wr m_va m_pl m_st m_lo m_bl m_bc m_fo m_yl m_yw m_nu m_nl m_lu m_ll m_ln kT kD kP kR kC kW kA kH kU kB kI kN kM kY kK kL kE kS) C 0 (ci := 10) (k := 0) rfl rfl in_X10 tyX10 tyX10_ok nmX10 (by decide) qw_926 rfl rfl (by decide +kernel) rfl rfl (Nat.le_of_ble_eq_true rfl) rfl dX10_rate_2 ?_
  refine zz_aload_n C 0 dX10_rate_5 rfl rfl ?_
  refine zz_callV (wr := ([] : va_W)) (st := []) C (cc_X10_drafts l z mh xT xD xP xR xC xW xA xH xU xB xI xN xM xY xK xL xE xS 0 m_ca m_tp m_fa m_at m_wr m_va m_pl m_st m_lo m_bl m_bc m_fo m_yl m_yw m_nu m_nl m_lu m_ll m_ln kT kD kP kR kC kW kA kH kU kB kI kN kM kY kK kL kE kS ) yk_X10_drafts qw_1064 ⟨by decide, by decide⟩ [0, 1, 2, 3, 4, 5, 6, 7, 8, 9, 10, 11, 12, 13, 14, 15, 16, 17, 18] [] rfl rfl rfl rfl (by decide) 0 10 rfl rfl rfl rfl (Nat.le_of_ble_eq_true rfl) dX10_rate_6 ⟨by decide, by decide⟩ ?_
  rintro _ _ ⟨gD_6, hgD_6, rfl, rfl⟩
  refine zz_st (st' := []) rfl (zz_ws (ws' := wMod z mh xT xD xP xR xC xW xA xH xU xB xI xN xM xY xK xL xE xS 0 m_ca m_tp m_fa m_at m_wr m_va m_pl m_st m_lo m_bl m_bc m_fo m_yl m_yw m_nu m_nl m_lu m_ll m_ln kT gD_6 kP kR kC kW kA kH kU kB kI kN kM kY kK kL kE kS) rfl ?_)
  have hd0 := hgD_6 0 (by omega) (by omega)
  have hd1 := hgD_6 1 (by omega) (by omega)
  refine zz_aload_n C 0 dX10_rate_9 rfl rfl ?_
  refine zz_aload_n C 0 dX10_rate_10 rfl rfl ?_
  refine zz_bipush C dX10_rate_11 (by decide +kernel) ?_
  refine zz_iload_n C 1 dX10_rate_13 rfl rfl ?_
  refine zz_iadd C dX10_rate_14 ?_
  refine zz_iload_n C 2 dX10_rate_15 rfl rfl ?_
  refine zz_aload_n C 0 dX10_rate_16 rfl rfl ?_
  refine zz_iload_n C 1 dX10_rate_17 rfl rfl ?_
  refine zz_callV (wr := ([] : va_W)) (st := [.int (iI v9), .int (iI (7 + d9)), .ref mh, .ref mh]) C (cc_X10_isDate l z mh xT xD xP xR xC xW xA xH xU xB xI xN xM xY xK xL xE xS 0 m_ca m_tp m_fa m_at m_wr m_va m_pl m_st m_lo m_bl m_bc m_fo m_yl m_yw m_nu m_nl m_lu m_ll m_ln kT gD_6 kP kR kC kW kA kH kU kB kI kN kM kY kK kL kE kS d9 (by omega) (by omega)) yk_X10_isDate qw_1068 ⟨by decide, by decide⟩ [0, 1, 2, 3, 4, 5, 6, 7, 8, 9, 10, 11, 12, 13, 14, 15, 16, 17, 18] [] rfl rfl rfl rfl (by decide) 0 10 rfl rfl rfl rfl (Nat.le_of_ble_eq_true rfl) dX10_rate_18 ⟨by decide, by decide⟩ ?_
  rintro _ _ ⟨q_18, hq_18, rfl, rfl⟩
  refine zz_st (st' := [.int (iI q_18), .int (iI v9), .int (iI (7 + d9)), .ref mh, .ref mh]) rfl (zz_ws (ws' := wMod z mh xT xD xP xR xC xW xA xH xU xB xI xN xM xY xK xL xE xS 0 m_ca m_tp m_fa m_at m_wr m_va m_pl m_st m_lo m_bl m_bc m_fo m_yl m_yw m_nu m_nl m_lu m_ll m_ln kT gD_6 kP kR kC kW kA kH kU kB kI kN kM kY kK kL kE kS) rfl ?_)
  refine zz_if_eq (tgt := 38) C dX10_rate_21 (by decide) (by unfold rI; omega) (fun c21 => ?_) (fun c21 => ?_)
  · skip
    refine zz_iconst C dX10_rate_38 ?_
    refine zz_callV (wr := ([] : va_W)) (st := [.ref mh]) C (cc_X10_lays_0 l z mh xT xD xP xR xC xW xA xH xU xB xI xN xM xY xK xL xE xS 0 m_ca m_tp m_fa m_at m_wr m_va m_pl m_st m_lo m_bl m_bc m_fo m_yl m_yw m_nu m_nl m_lu m_ll m_ln kT gD_6 kP kR kC kW kA kH kU kB kI kN kM kY kK kL kE kS (7 + d9) v9 ) yk_X10_lays qw_1072 ⟨by decide, by decide⟩ [0, 1, 2, 3, 4, 5, 6, 7, 8, 9, 10, 11, 12, 13, 14, 15, 16, 17, 18] [] rfl rfl rfl rfl (by decide) 0 10 rfl rfl rfl rfl (Nat.le_of_ble_eq_true rfl) dX10_rate_39 ⟨by decide, by decide⟩ ?_
    rintro _ _ ⟨rfl, rfl⟩
    refine zz_st (st' := [.int (iI 0), .ref mh]) rfl (zz_ws (ws' := wMod z mh xT xD xP xR xC xW xA xH xU xB xI xN xM xY xK xL xE xS 0 m_ca m_tp m_fa m_at m_wr m_va m_pl m_st m_lo m_bl m_bc m_fo m_yl m_yw m_nu m_nl m_lu m_ll m_ln kT gD_6 kP kR kC kW kA kH kU kB kI kN kM kY kK kL kE kS) rfl ?_)
    refine zz_callV (wr := ([] : va_W)) (st := []) C (cc_X10_takes_0 l z mh xT xD xP xR xC xW xA xH xU xB xI xN xM xY xK xL xE xS 0 m_ca m_tp m_fa m_at m_wr m_va m_pl m_st m_lo m_bl m_bc m_fo m_yl m_yw m_nu m_nl m_lu m_ll m_ln kT gD_6 kP kR kC kW kA kH kU kB kI kN kM kY kK kL kE kS ) yk_X10_takes qw_1056 ⟨by decide, by decide⟩ [0, 1, 2, 3, 4, 5, 6, 7, 8, 9, 10, 11, 12, 13, 14, 15, 16, 17, 18] [] rfl rfl rfl rfl (by decide) 0 10 rfl rfl rfl rfl (Nat.le_of_ble_eq_true rfl) dX10_rate_42 ⟨by decide, by decide⟩ ?_
    rintro _ _ ⟨rfl, rfl⟩
    refine zz_st (st' := [.int (iI 0)]) rfl (zz_ws (ws' := wMod z mh xT xD xP xR xC xW xA xH xU xB xI xN xM xY xK xL xE xS 0 m_ca m_tp m_fa m_at m_wr m_va m_pl m_st m_lo m_bl m_bc m_fo m_yl m_yw m_nu m_nl m_lu m_ll m_ln kT gD_6 kP kR kC kW kA kH kU kB kI kN kM kY kK kL kE kS) rfl ?_)
    exact zz_zret C hr (by decide +kernel) dX10_rate_45 ⟨0, _, _, Or.inr ⟨rfl, by omega, fun i h0 h1 => rfl⟩, rfl, rfl⟩
  · skip
    refine zz_iload_n C 2 dX10_rate_24 rfl rfl ?_
    refine zz_iconst C dX10_rate_25 ?_
    refine zz_bipush C dX10_rate_26 (by decide +kernel) ?_
    refine zz_callS (wr := wMod z mh xT xD xP xR xC xW xA xH xU xB xI xN xM xY xK xL xE xS 0 m_ca m_tp m_fa m_at m_wr m_va m_pl m_st m_lo m_bl m_bc m_fo m_yl m_yw m_nu m_nl m_lu m_ll m_ln kT gD_6 kP kR kC kW kA kH kU kB kI kN kM kY kK kL kE kS) (st := [.int (iI v9), .int (iI (7 + d9)), .ref mh, .ref mh]) C (cc_X10_in l z v9 0 6 (by omega) (by omega) (by omega)) yk_X10_in qw_1049 ⟨by decide, by decide⟩ [] [0, 1, 2, 3, 4, 5, 6, 7, 8, 9, 10, 11, 12, 13, 14, 15, 16, 17, 18] rfl rfl rfl rfl (by decide) rfl rfl (Nat.le_of_ble_eq_true rfl) dX10_rate_28 ⟨by decide, by decide⟩ ?_
    rintro _ _ ⟨q_28, hq_28, rfl, rfl⟩
    refine zz_st (st' := [.int (iI q_28), .int (iI v9), .int (iI (7 + d9)), .ref mh, .ref mh]) rfl (zz_ws (ws' := wMod z mh xT xD xP xR xC xW xA xH xU xB xI xN xM xY xK xL xE xS 0 m_ca m_tp m_fa m_at m_wr m_va m_pl m_st m_lo m_bl m_bc m_fo m_yl m_yw m_nu m_nl m_lu m_ll m_ln kT gD_6 kP kR kC kW kA kH kU kB kI kN kM kY kK kL kE kS) rfl ?_)
    refine zz_if_eq (tgt := 38) C dX10_rate_31 (by decide) (by unfold rI; omega) (fun c31 => ?_) (fun c31 => ?_)
    · skip
      refine zz_iconst C dX10_rate_38 ?_
      refine zz_callV (wr := ([] : va_W)) (st := [.ref mh]) C (cc_X10_lays_0 l z mh xT xD xP xR xC xW xA xH xU xB xI xN xM xY xK xL xE xS 0 m_ca m_tp m_fa m_at m_wr m_va m_pl m_st m_lo m_bl m_bc m_fo m_yl m_yw m_nu m_nl m_lu m_ll m_ln kT gD_6 kP kR kC kW kA kH kU kB kI kN kM kY kK kL kE kS (7 + d9) v9 ) yk_X10_lays qw_1072 ⟨by decide, by decide⟩ [0, 1, 2, 3, 4, 5, 6, 7, 8, 9, 10, 11, 12, 13, 14, 15, 16, 17, 18] [] rfl rfl rfl rfl (by decide) 0 10 rfl rfl rfl rfl (Nat.le_of_ble_eq_true rfl) dX10_rate_39 ⟨by decide, by decide⟩ ?_
      rintro _ _ ⟨rfl, rfl⟩
      refine zz_st (st' := [.int (iI 0), .ref mh]) rfl (zz_ws (ws' := wMod z mh xT xD xP xR xC xW xA xH xU xB xI xN xM xY xK xL xE xS 0 m_ca m_tp m_fa m_at m_wr m_va m_pl m_st m_lo m_bl m_bc m_fo m_yl m_yw m_nu m_nl m_lu m_ll m_ln kT gD_6 kP kR kC kW kA kH kU kB kI kN kM kY kK kL kE kS) rfl ?_)
      refine zz_callV (wr := ([] : va_W)) (st := []) C (cc_X10_takes_0 l z mh xT xD xP xR xC xW xA xH xU xB xI xN xM xY xK xL xE xS 0 m_ca m_tp m_fa m_at m_wr m_va m_pl m_st m_lo m_bl m_bc m_fo m_yl m_yw m_nu m_nl m_lu m_ll m_ln kT gD_6 kP kR kC kW kA kH kU kB kI kN kM kY kK kL kE kS ) yk_X10_takes qw_1056 ⟨by decide, by decide⟩ [0, 1, 2, 3, 4, 5, 6, 7, 8, 9, 10, 11, 12, 13, 14, 15, 16, 17, 18] [] rfl rfl rfl rfl (by decide) 0 10 rfl rfl rfl rfl (Nat.le_of_ble_eq_true rfl) dX10_rate_42 ⟨by decide, by decide⟩ ?_
      rintro _ _ ⟨rfl, rfl⟩
      refine zz_st (st' := [.int (iI 0)]) rfl (zz_ws (ws' := wMod z mh xT xD xP xR xC xW xA xH xU xB xI xN xM xY xK xL xE xS 0 m_ca m_tp m_fa m_at m_wr m_va m_pl m_st m_lo m_bl m_bc m_fo m_yl m_yw m_nu m_nl m_lu m_ll m_ln kT gD_6 kP kR kC kW kA kH kU kB kI kN kM kY kK kL kE kS) rfl ?_)
      exact zz_zret C hr (by decide +kernel) dX10_rate_45 ⟨0, _, _, Or.inr ⟨rfl, by omega, fun i h0 h1 => rfl⟩, rfl, rfl⟩
    · skip
      refine zz_iconst C dX10_rate_34 ?_
      refine zz_goto (tgt := 39) C dX10_rate_35 (by decide) ?_
      refine zz_callV (wr := ([] : va_W)) (st := [.ref mh]) C (cc_X10_lays_1 l z mh xT xD xP xR xC xW xA xH xU xB xI xN xM xY xK xL xE xS 0 m_ca m_tp m_fa m_at m_wr m_va m_pl m_st m_lo m_bl m_bc m_fo m_yl m_yw m_nu m_nl m_lu m_ll m_ln kT gD_6 kP kR kC kW kA kH kU kB kI kN kM kY kK kL kE kS (7 + d9) v9 (by omega)) yk_X10_lays qw_1072 ⟨by decide, by decide⟩ [0, 1, 2, 3, 4, 5, 6, 7, 8, 9, 10, 11, 12, 13, 14, 15, 16, 17, 18] [] rfl rfl rfl rfl (by decide) 0 10 rfl rfl rfl rfl (Nat.le_of_ble_eq_true rfl) dX10_rate_39 ⟨by decide, by decide⟩ ?_
      rintro _ _ ⟨rfl, rfl⟩
      refine zz_st (st' := [.int (iI 1), .ref mh]) rfl (zz_ws (ws' := wMod z mh xT xD xP xR xC xW xA xH xU xB xI xN xM xY xK xL xE xS 0 m_ca m_tp m_fa m_at m_wr m_va m_pl m_st m_lo m_bl m_bc m_fo m_yl m_yw m_nu m_nl m_lu m_ll m_ln kT (zup gD_6 (7 + d9) v9) kP kR kC kW kA kH kU kB kI kN kM kY kK kL kE kS) rfl ?_)
      refine zz_callV (wr := ([] : va_W)) (st := []) C (cc_X10_takes_1 l z mh xT xD xP xR xC xW xA xH xU xB xI xN xM xY xK xL xE xS 0 m_ca m_tp m_fa m_at m_wr m_va m_pl m_st m_lo m_bl m_bc m_fo m_yl m_yw m_nu m_nl m_lu m_ll m_ln kT (zup gD_6 (7 + d9) v9) kP kR kC kW kA kH kU kB kI kN kM kY kK kL kE kS ) yk_X10_takes qw_1056 ⟨by decide, by decide⟩ [0, 1, 2, 3, 4, 5, 6, 7, 8, 9, 10, 11, 12, 13, 14, 15, 16, 17, 18] [] rfl rfl rfl rfl (by decide) 0 10 rfl rfl rfl rfl (Nat.le_of_ble_eq_true rfl) dX10_rate_42 ⟨by decide, by decide⟩ ?_
      rintro _ _ ⟨gT_42, hgT_42, rfl, rfl⟩
      refine zz_st (st' := [.int (iI 1)]) rfl (zz_ws (ws' := wMod z mh xT xD xP xR xC xW xA xH xU xB xI xN xM xY xK xL xE xS 0 m_ca m_tp m_fa m_at m_wr m_va m_pl m_st m_lo m_bl m_bc m_fo m_yl m_yw m_nu m_nl m_lu m_ll m_ln gT_42 (zup gD_6 (7 + d9) v9) kP kR kC kW kA kH kU kB kI kN kM kY kK kL kE kS) rfl ?_)
      exact zz_zret C hr (by decide +kernel) dX10_rate_45 ⟨1, _, _, Or.inl ⟨rfl, by omega, fun i h0 h1 => by rw [hgT_42 i h0 h1]; exact eqR_zup hgD_6 i h0 h1⟩, rfl, rfl⟩
abbrev po_X10_most (z : zC) (mh : Nat) (xT : Nat) (xD : Nat) (xP : Nat) (xR : Nat) (xC : Nat) (xW : Nat) (xA : Nat) (xH : Nat) (xU : Nat) (xB : Nat) (xI : Nat) (xN : Nat) (xM : Nat) (xY : Nat) (xK : Nat) (xL : Nat) (xE : Nat) (xS : Nat) (m_ra : Int) (m_ca : Int) (m_tp : Int) (m_fa : Int) (m_at : Int) (m_wr : Int) (m_va : Int) (m_pl : Int) (m_st : Int) (m_lo : Int) (m_bl : Int) (m_bc : Int) (m_fo : Int) (m_yl : Int) (m_yw : Int) (m_nu : Int) (m_nl : Int) (m_lu : Int) (m_ll : Int) (m_ln : Int) (kT : Int → Int) (kD : Int → Int) (kP : Int → Int) (kR : Int → Int) (kC : Int → Int) (kW : Int → Int) (kA : Int → Int) (kH : Int → Int) (kU : Int → Int) (kB : Int → Int) (kI : Int → Int) (kN : Int → Int) (kM : Int → Int) (kY : Int → Int) (kK : Int → Int) (kL : Int → Int) (kE : Int → Int) (kS : Int → Int) (b9 : Int) (v9 : Int) : Option Value → va_W → Prop := fun v w => ∃ (q : Int), ∃ (gD : Int → Int), ∃ (gT : Int → Int), ((q = 1 ∧ ((0 ≤ b9 ∧ b9 < kT 1) ∧ (0 ≤ v9 ∧ v9 ≤ 12)) ∧ eqR gT (zup kT (32 + b9) v9) 47) ∨ (q = 0 ∧ ¬ ((0 ≤ b9 ∧ b9 < kT 1) ∧ (0 ≤ v9 ∧ v9 ≤ 12)) ∧ eqR gT kT 47)) ∧ v = some (Value.int (iI q)) ∧ w = wMod z mh xT xD xP xR xC xW xA xH xU xB xI xN xM xY xK xL xE xS 0 m_ca m_tp m_fa m_at m_wr m_va m_pl m_st m_lo m_bl m_bc m_fo m_yl m_yw m_nu m_nl m_lu m_ll m_ln gT gD kP kR kC kW kA kH kU kB kI kN kM kY kK kL kE kS
abbrev rm_X10_most : Room := { frames := 3, cells := 0, slots := 0, locals := 83 }
set_option maxHeartbeats 4000000 in
set_option maxRecDepth 100000 in
theorem cc_X10_most (l : Launch) (z : zC) (mh : Nat) (xT : Nat) (xD : Nat) (xP : Nat) (xR : Nat) (xC : Nat) (xW : Nat) (xA : Nat) (xH : Nat) (xU : Nat) (xB : Nat) (xI : Nat) (xN : Nat) (xM : Nat) (xY : Nat) (xK : Nat) (xL : Nat) (xE : Nat) (xS : Nat) (m_ra : Int) (m_ca : Int) (m_tp : Int) (m_fa : Int) (m_at : Int) (m_wr : Int) (m_va : Int) (m_pl : Int) (m_st : Int) (m_lo : Int) (m_bl : Int) (m_bc : Int) (m_fo : Int) (m_yl : Int) (m_yw : Int) (m_nu : Int) (m_nl : Int) (m_lu : Int) (m_ll : Int) (m_ln : Int) (kT : Int → Int) (kD : Int → Int) (kP : Int → Int) (kR : Int → Int) (kC : Int → Int) (kW : Int → Int) (kA : Int → Int) (kH : Int → Int) (kU : Int → Int) (kB : Int → Int) (kI : Int → Int) (kN : Int → Int) (kM : Int → Int) (kY : Int → Int) (kK : Int → Int) (kL : Int → Int) (kE : Int → Int) (kS : Int → Int) (b9 : Int) (v9 : Int) (hkT : mOk kT) (hb9 : -2147483648 ≤ b9 ∧ b9 < 2147483648) (hv9 : -2147483648 ≤ v9 ∧ v9 < 2147483648) : zzMet l yX10_most cX10_most 3 (Option.some .boolean) rm_X10_most z [.ref mh, .int (iI b9), .int (iI v9)] (wMod z mh xT xD xP xR xC xW xA xH xU xB xI xN xM xY xK xL xE xS m_ra m_ca m_tp m_fa m_at m_wr m_va m_pl m_st m_lo m_bl m_bc m_fo m_yl m_yw m_nu m_nl m_lu m_ll m_ln kT kD kP kR kC kW kA kH kU kB kI kN kM kY kK kL kE kS) (po_X10_most z mh xT xD xP xR xC xW xA xH xU xB xI xN xM xY xK xL xE xS m_ra m_ca m_tp m_fa m_at m_wr m_va m_pl m_st m_lo m_bl m_bc m_fo m_yl m_yw m_nu m_nl m_lu m_ll m_ln kT kD kP kR kC kW kA kH kU kB kI kN kM kY kK kL kE kS b9 v9) := by
  refine zzMet.of (own := RX10) (ls0 := [(0, .ref mh), (1, .int (iI b9)), (2, .int (iI v9))]) (by decide) rfl (Nat.le_of_ble_eq_true rfl) rfl ?_
  intro p e s m below meth c A C hr hnm
  have hk0 := hkT.1
  have hk1 := hkT.2.1
  refine zz_aload_n C 0 dX10_most_0 rfl rfl ?_
  refine zz_iconst C dX10_most_1 ?_
  refine zz_put (ty := .int) (ws' := wMod z mh xT xD xP xR xC xW xA xH xU xB xI xN xM xY xK xL xE xS 0 m_ca m_tp m_fa m_at m_wr m_va m_pl m_st m_lo m_bl m_bc m_fo m_yl m_yw m_nu m_nl m_lu m_ll m_ln kT kD kP kR kC kW kA kH kU kB kI kN kM kY kK kL kE kS) C 0 (ci := 10) (k := 0) rfl rfl in_X10 tyX10 tyX10_ok nmX10 (by decide) qw_926 rfl rfl (by decide +kernel) rfl rfl (Nat.le_of_ble_eq_true rfl) rfl dX10_most_2 ?_
  refine zz_aload_n C 0 dX10_most_5 rfl rfl ?_
  refine zz_callV (wr := ([] : va_W)) (st := []) C (cc_X10_drafts l z mh xT xD xP xR xC xW xA xH xU xB xI xN xM xY xK xL xE xS 0 m_ca m_tp m_fa m_at m_wr m_va m_pl m_st m_lo m_bl m_bc m_fo m_yl m_yw m_nu m_nl m_lu m_ll m_ln kT kD kP kR kC kW kA kH kU kB kI kN kM kY kK kL kE kS ) yk_X10_drafts qw_1064 ⟨by decide, by decide⟩ [0, 1, 2, 3, 4, 5, 6, 7, 8, 9, 10, 11, 12, 13, 14, 15, 16, 17, 18] [] rfl rfl rfl rfl (by decide) 0 10 rfl rfl rfl rfl (Nat.le_of_ble_eq_true rfl) dX10_most_6 ⟨by decide, by decide⟩ ?_
  rintro _ _ ⟨gD_6, hgD_6, rfl, rfl⟩
  refine zz_st (st' := []) rfl (zz_ws (ws' := wMod z mh xT xD xP xR xC xW xA xH xU xB xI xN xM xY xK xL xE xS 0 m_ca m_tp m_fa m_at m_wr m_va m_pl m_st m_lo m_bl m_bc m_fo m_yl m_yw m_nu m_nl m_lu m_ll m_ln kT gD_6 kP kR kC kW kA kH kU kB kI kN kM kY kK kL kE kS) rfl ?_)
  have hd0 := hgD_6 0 (by omega) (by omega)
  have hd1 := hgD_6 1 (by omega) (by omega)
  refine zz_aload_n C 0 dX10_most_9 rfl rfl ?_
  refine zz_aload_n C 0 dX10_most_10 rfl rfl ?_
  refine zz_bipush C dX10_most_11 (by decide +kernel) ?_
  refine zz_iload_n C 1 dX10_most_13 rfl rfl ?_
  refine zz_iadd C dX10_most_14 ?_
  refine zz_iload_n C 2 dX10_most_15 rfl rfl ?_
  refine zz_aload_n C 0 dX10_most_16 rfl rfl ?_
  refine zz_iload_n C 1 dX10_most_17 rfl rfl ?_
  refine zz_callV (wr := ([] : va_W)) (st := [.int (iI v9), .int (iI (32 + b9)), .ref mh, .ref mh]) C (cc_X10_isBond l z mh xT xD xP xR xC xW xA xH xU xB xI xN xM xY xK xL xE xS 0 m_ca m_tp m_fa m_at m_wr m_va m_pl m_st m_lo m_bl m_bc m_fo m_yl m_yw m_nu m_nl m_lu m_ll m_ln kT gD_6 kP kR kC kW kA kH kU kB kI kN kM kY kK kL kE kS b9 (by omega) (by omega)) yk_X10_isBond qw_1092 ⟨by decide, by decide⟩ [0, 1, 2, 3, 4, 5, 6, 7, 8, 9, 10, 11, 12, 13, 14, 15, 16, 17, 18] [] rfl rfl rfl rfl (by decide) 0 10 rfl rfl rfl rfl (Nat.le_of_ble_eq_true rfl) dX10_most_18 ⟨by decide, by decide⟩ ?_
  rintro _ _ ⟨q_18, hq_18, rfl, rfl⟩
  refine zz_st (st' := [.int (iI q_18), .int (iI v9), .int (iI (32 + b9)), .ref mh, .ref mh]) rfl (zz_ws (ws' := wMod z mh xT xD xP xR xC xW xA xH xU xB xI xN xM xY xK xL xE xS 0 m_ca m_tp m_fa m_at m_wr m_va m_pl m_st m_lo m_bl m_bc m_fo m_yl m_yw m_nu m_nl m_lu m_ll m_ln kT gD_6 kP kR kC kW kA kH kU kB kI kN kM kY kK kL kE kS) rfl ?_)
  refine zz_if_eq (tgt := 38) C dX10_most_21 (by decide) (by unfold rI; omega) (fun c21 => ?_) (fun c21 => ?_)
  · skip
    refine zz_iconst C dX10_most_38 ?_
    refine zz_callV (wr := ([] : va_W)) (st := [.ref mh]) C (cc_X10_lays_0 l z mh xT xD xP xR xC xW xA xH xU xB xI xN xM xY xK xL xE xS 0 m_ca m_tp m_fa m_at m_wr m_va m_pl m_st m_lo m_bl m_bc m_fo m_yl m_yw m_nu m_nl m_lu m_ll m_ln kT gD_6 kP kR kC kW kA kH kU kB kI kN kM kY kK kL kE kS (32 + b9) v9 ) yk_X10_lays qw_1072 ⟨by decide, by decide⟩ [0, 1, 2, 3, 4, 5, 6, 7, 8, 9, 10, 11, 12, 13, 14, 15, 16, 17, 18] [] rfl rfl rfl rfl (by decide) 0 10 rfl rfl rfl rfl (Nat.le_of_ble_eq_true rfl) dX10_most_39 ⟨by decide, by decide⟩ ?_
    rintro _ _ ⟨rfl, rfl⟩
    refine zz_st (st' := [.int (iI 0), .ref mh]) rfl (zz_ws (ws' := wMod z mh xT xD xP xR xC xW xA xH xU xB xI xN xM xY xK xL xE xS 0 m_ca m_tp m_fa m_at m_wr m_va m_pl m_st m_lo m_bl m_bc m_fo m_yl m_yw m_nu m_nl m_lu m_ll m_ln kT gD_6 kP kR kC kW kA kH kU kB kI kN kM kY kK kL kE kS) rfl ?_)
    refine zz_callV (wr := ([] : va_W)) (st := []) C (cc_X10_takes_0 l z mh xT xD xP xR xC xW xA xH xU xB xI xN xM xY xK xL xE xS 0 m_ca m_tp m_fa m_at m_wr m_va m_pl m_st m_lo m_bl m_bc m_fo m_yl m_yw m_nu m_nl m_lu m_ll m_ln kT gD_6 kP kR kC kW kA kH kU kB kI kN kM kY kK kL kE kS ) yk_X10_takes qw_1056 ⟨by decide, by decide⟩ [0, 1, 2, 3, 4, 5, 6, 7, 8, 9, 10, 11, 12, 13, 14, 15, 16, 17, 18] [] rfl rfl rfl rfl (by decide) 0 10 rfl rfl rfl rfl (Nat.le_of_ble_eq_true rfl) dX10_most_42 ⟨by decide, by decide⟩ ?_
    rintro _ _ ⟨rfl, rfl⟩
    refine zz_st (st' := [.int (iI 0)]) rfl (zz_ws (ws' := wMod z mh xT xD xP xR xC xW xA xH xU xB xI xN xM xY xK xL xE xS 0 m_ca m_tp m_fa m_at m_wr m_va m_pl m_st m_lo m_bl m_bc m_fo m_yl m_yw m_nu m_nl m_lu m_ll m_ln kT gD_6 kP kR kC kW kA kH kU kB kI kN kM kY kK kL kE kS) rfl ?_)
    exact zz_zret C hr (by decide +kernel) dX10_most_45 ⟨0, _, _, Or.inr ⟨rfl, by omega, fun i h0 h1 => rfl⟩, rfl, rfl⟩
  · skip
    refine zz_iload_n C 2 dX10_most_24 rfl rfl ?_
    refine zz_iconst C dX10_most_25 ?_
    refine zz_bipush C dX10_most_26 (by decide +kernel) ?_
    refine zz_callS (wr := wMod z mh xT xD xP xR xC xW xA xH xU xB xI xN xM xY xK xL xE xS 0 m_ca m_tp m_fa m_at m_wr m_va m_pl m_st m_lo m_bl m_bc m_fo m_yl m_yw m_nu m_nl m_lu m_ll m_ln kT gD_6 kP kR kC kW kA kH kU kB kI kN kM kY kK kL kE kS) (st := [.int (iI v9), .int (iI (32 + b9)), .ref mh, .ref mh]) C (cc_X10_in l z v9 0 12 (by omega) (by omega) (by omega)) yk_X10_in qw_1049 ⟨by decide, by decide⟩ [] [0, 1, 2, 3, 4, 5, 6, 7, 8, 9, 10, 11, 12, 13, 14, 15, 16, 17, 18] rfl rfl rfl rfl (by decide) rfl rfl (Nat.le_of_ble_eq_true rfl) dX10_most_28 ⟨by decide, by decide⟩ ?_
    rintro _ _ ⟨q_28, hq_28, rfl, rfl⟩
    refine zz_st (st' := [.int (iI q_28), .int (iI v9), .int (iI (32 + b9)), .ref mh, .ref mh]) rfl (zz_ws (ws' := wMod z mh xT xD xP xR xC xW xA xH xU xB xI xN xM xY xK xL xE xS 0 m_ca m_tp m_fa m_at m_wr m_va m_pl m_st m_lo m_bl m_bc m_fo m_yl m_yw m_nu m_nl m_lu m_ll m_ln kT gD_6 kP kR kC kW kA kH kU kB kI kN kM kY kK kL kE kS) rfl ?_)
    refine zz_if_eq (tgt := 38) C dX10_most_31 (by decide) (by unfold rI; omega) (fun c31 => ?_) (fun c31 => ?_)
    · skip
      refine zz_iconst C dX10_most_38 ?_
      refine zz_callV (wr := ([] : va_W)) (st := [.ref mh]) C (cc_X10_lays_0 l z mh xT xD xP xR xC xW xA xH xU xB xI xN xM xY xK xL xE xS 0 m_ca m_tp m_fa m_at m_wr m_va m_pl m_st m_lo m_bl m_bc m_fo m_yl m_yw m_nu m_nl m_lu m_ll m_ln kT gD_6 kP kR kC kW kA kH kU kB kI kN kM kY kK kL kE kS (32 + b9) v9 ) yk_X10_lays qw_1072 ⟨by decide, by decide⟩ [0, 1, 2, 3, 4, 5, 6, 7, 8, 9, 10, 11, 12, 13, 14, 15, 16, 17, 18] [] rfl rfl rfl rfl (by decide) 0 10 rfl rfl rfl rfl (Nat.le_of_ble_eq_true rfl) dX10_most_39 ⟨by decide, by decide⟩ ?_
      rintro _ _ ⟨rfl, rfl⟩
      refine zz_st (st' := [.int (iI 0), .ref mh]) rfl (zz_ws (ws' := wMod z mh xT xD xP xR xC xW xA xH xU xB xI xN xM xY xK xL xE xS 0 m_ca m_tp m_fa m_at m_wr m_va m_pl m_st m_lo m_bl m_bc m_fo m_yl m_yw m_nu m_nl m_lu m_ll m_ln kT gD_6 kP kR kC kW kA kH kU kB kI kN kM kY kK kL kE kS) rfl ?_)
      refine zz_callV (wr := ([] : va_W)) (st := []) C (cc_X10_takes_0 l z mh xT xD xP xR xC xW xA xH xU xB xI xN xM xY xK xL xE xS 0 m_ca m_tp m_fa m_at m_wr m_va m_pl m_st m_lo m_bl m_bc m_fo m_yl m_yw m_nu m_nl m_lu m_ll m_ln kT gD_6 kP kR kC kW kA kH kU kB kI kN kM kY kK kL kE kS ) yk_X10_takes qw_1056 ⟨by decide, by decide⟩ [0, 1, 2, 3, 4, 5, 6, 7, 8, 9, 10, 11, 12, 13, 14, 15, 16, 17, 18] [] rfl rfl rfl rfl (by decide) 0 10 rfl rfl rfl rfl (Nat.le_of_ble_eq_true rfl) dX10_most_42 ⟨by decide, by decide⟩ ?_
      rintro _ _ ⟨rfl, rfl⟩
      refine zz_st (st' := [.int (iI 0)]) rfl (zz_ws (ws' := wMod z mh xT xD xP xR xC xW xA xH xU xB xI xN xM xY xK xL xE xS 0 m_ca m_tp m_fa m_at m_wr m_va m_pl m_st m_lo m_bl m_bc m_fo m_yl m_yw m_nu m_nl m_lu m_ll m_ln kT gD_6 kP kR kC kW kA kH kU kB kI kN kM kY kK kL kE kS) rfl ?_)
      exact zz_zret C hr (by decide +kernel) dX10_most_45 ⟨0, _, _, Or.inr ⟨rfl, by omega, fun i h0 h1 => rfl⟩, rfl, rfl⟩
    · skip
      refine zz_iconst C dX10_most_34 ?_
      refine zz_goto (tgt := 39) C dX10_most_35 (by decide) ?_
      refine zz_callV (wr := ([] : va_W)) (st := [.ref mh]) C (cc_X10_lays_1 l z mh xT xD xP xR xC xW xA xH xU xB xI xN xM xY xK xL xE xS 0 m_ca m_tp m_fa m_at m_wr m_va m_pl m_st m_lo m_bl m_bc m_fo m_yl m_yw m_nu m_nl m_lu m_ll m_ln kT gD_6 kP kR kC kW kA kH kU kB kI kN kM kY kK kL kE kS (32 + b9) v9 (by omega)) yk_X10_lays qw_1072 ⟨by decide, by decide⟩ [0, 1, 2, 3, 4, 5, 6, 7, 8, 9, 10, 11, 12, 13, 14, 15, 16, 17, 18] [] rfl rfl rfl rfl (by decide) 0 10 rfl rfl rfl rfl (Nat.le_of_ble_eq_true rfl) dX10_most_39 ⟨by decide, by decide⟩ ?_
      rintro _ _ ⟨rfl, rfl⟩
      refine zz_st (st' := [.int (iI 1), .ref mh]) rfl (zz_ws (ws' := wMod z mh xT xD xP xR xC xW xA xH xU xB xI xN xM xY xK xL xE xS 0 m_ca m_tp m_fa m_at m_wr m_va m_pl m_st m_lo m_bl m_bc m_fo m_yl m_yw m_nu m_nl m_lu m_ll m_ln kT (zup gD_6 (32 + b9) v9) kP kR kC kW kA kH kU kB kI kN kM kY kK kL kE kS) rfl ?_)
      refine zz_callV (wr := ([] : va_W)) (st := []) C (cc_X10_takes_1 l z mh xT xD xP xR xC xW xA xH xU xB xI xN xM xY xK xL xE xS 0 m_ca m_tp m_fa m_at m_wr m_va m_pl m_st m_lo m_bl m_bc m_fo m_yl m_yw m_nu m_nl m_lu m_ll m_ln kT (zup gD_6 (32 + b9) v9) kP kR kC kW kA kH kU kB kI kN kM kY kK kL kE kS ) yk_X10_takes qw_1056 ⟨by decide, by decide⟩ [0, 1, 2, 3, 4, 5, 6, 7, 8, 9, 10, 11, 12, 13, 14, 15, 16, 17, 18] [] rfl rfl rfl rfl (by decide) 0 10 rfl rfl rfl rfl (Nat.le_of_ble_eq_true rfl) dX10_most_42 ⟨by decide, by decide⟩ ?_
      rintro _ _ ⟨gT_42, hgT_42, rfl, rfl⟩
      refine zz_st (st' := [.int (iI 1)]) rfl (zz_ws (ws' := wMod z mh xT xD xP xR xC xW xA xH xU xB xI xN xM xY xK xL xE xS 0 m_ca m_tp m_fa m_at m_wr m_va m_pl m_st m_lo m_bl m_bc m_fo m_yl m_yw m_nu m_nl m_lu m_ll m_ln gT_42 (zup gD_6 (32 + b9) v9) kP kR kC kW kA kH kU kB kI kN kM kY kK kL kE kS) rfl ?_)
      exact zz_zret C hr (by decide +kernel) dX10_most_45 ⟨1, _, _, Or.inl ⟨rfl, by omega, fun i h0 h1 => by rw [hgT_42 i h0 h1]; exact eqR_zup hgD_6 i h0 h1⟩, rfl, rfl⟩
abbrev po_X10_hold (z : zC) (mh : Nat) (xT : Nat) (xD : Nat) (xP : Nat) (xR : Nat) (xC : Nat) (xW : Nat) (xA : Nat) (xH : Nat) (xU : Nat) (xB : Nat) (xI : Nat) (xN : Nat) (xM : Nat) (xY : Nat) (xK : Nat) (xL : Nat) (xE : Nat) (xS : Nat) (m_ra : Int) (m_ca : Int) (m_tp : Int) (m_fa : Int) (m_at : Int) (m_wr : Int) (m_va : Int) (m_pl : Int) (m_st : Int) (m_lo : Int) (m_bl : Int) (m_bc : Int) (m_fo : Int) (m_yl : Int) (m_yw : Int) (m_nu : Int) (m_nl : Int) (m_lu : Int) (m_ll : Int) (m_ln : Int) (kT : Int → Int) (kD : Int → Int) (kP : Int → Int) (kR : Int → Int) (kC : Int → Int) (kW : Int → Int) (kA : Int → Int) (kH : Int → Int) (kU : Int → Int) (kB : Int → Int) (kI : Int → Int) (kN : Int → Int) (kM : Int → Int) (kY : Int → Int) (kK : Int → Int) (kL : Int → Int) (kE : Int → Int) (kS : Int → Int) (b9 : Int) (v9 : Int) : Option Value → va_W → Prop := fun v w => ∃ (q : Int), ∃ (gD : Int → Int), ∃ (gT : Int → Int), ((q = 1 ∧ ((0 ≤ b9 ∧ b9 < kT 1) ∧ (0 ≤ v9 ∧ v9 ≤ 99)) ∧ eqR gT (zup kT (42 + b9) v9) 47) ∨ (q = 0 ∧ ¬ ((0 ≤ b9 ∧ b9 < kT 1) ∧ (0 ≤ v9 ∧ v9 ≤ 99)) ∧ eqR gT kT 47)) ∧ v = some (Value.int (iI q)) ∧ w = wMod z mh xT xD xP xR xC xW xA xH xU xB xI xN xM xY xK xL xE xS 0 m_ca m_tp m_fa m_at m_wr m_va m_pl m_st m_lo m_bl m_bc m_fo m_yl m_yw m_nu m_nl m_lu m_ll m_ln gT gD kP kR kC kW kA kH kU kB kI kN kM kY kK kL kE kS
abbrev rm_X10_hold : Room := { frames := 3, cells := 0, slots := 0, locals := 83 }
set_option maxHeartbeats 4000000 in
set_option maxRecDepth 100000 in
theorem cc_X10_hold (l : Launch) (z : zC) (mh : Nat) (xT : Nat) (xD : Nat) (xP : Nat) (xR : Nat) (xC : Nat) (xW : Nat) (xA : Nat) (xH : Nat) (xU : Nat) (xB : Nat) (xI : Nat) (xN : Nat) (xM : Nat) (xY : Nat) (xK : Nat) (xL : Nat) (xE : Nat) (xS : Nat) (m_ra : Int) (m_ca : Int) (m_tp : Int) (m_fa : Int) (m_at : Int) (m_wr : Int) (m_va : Int) (m_pl : Int) (m_st : Int) (m_lo : Int) (m_bl : Int) (m_bc : Int) (m_fo : Int) (m_yl : Int) (m_yw : Int) (m_nu : Int) (m_nl : Int) (m_lu : Int) (m_ll : Int) (m_ln : Int) (kT : Int → Int) (kD : Int → Int) (kP : Int → Int) (kR : Int → Int) (kC : Int → Int) (kW : Int → Int) (kA : Int → Int) (kH : Int → Int) (kU : Int → Int) (kB : Int → Int) (kI : Int → Int) (kN : Int → Int) (kM : Int → Int) (kY : Int → Int) (kK : Int → Int) (kL : Int → Int) (kE : Int → Int) (kS : Int → Int) (b9 : Int) (v9 : Int) (hkT : mOk kT) (hb9 : -2147483648 ≤ b9 ∧ b9 < 2147483648) (hv9 : -2147483648 ≤ v9 ∧ v9 < 2147483648) : zzMet l yX10_hold cX10_hold 3 (Option.some .boolean) rm_X10_hold z [.ref mh, .int (iI b9), .int (iI v9)] (wMod z mh xT xD xP xR xC xW xA xH xU xB xI xN xM xY xK xL xE xS m_ra m_ca m_tp m_fa m_at m_wr m_va m_pl m_st m_lo m_bl m_bc m_fo m_yl m_yw m_nu m_nl m_lu m_ll m_ln kT kD kP kR kC kW kA kH kU kB kI kN kM kY kK kL kE kS) (po_X10_hold z mh xT xD xP xR xC xW xA xH xU xB xI xN xM xY xK xL xE xS m_ra m_ca m_tp m_fa m_at m_wr m_va m_pl m_st m_lo m_bl m_bc m_fo m_yl m_yw m_nu m_nl m_lu m_ll m_ln kT kD kP kR kC kW kA kH kU kB kI kN kM kY kK kL kE kS b9 v9) := by
  refine zzMet.of (own := RX10) (ls0 := [(0, .ref mh), (1, .int (iI b9)), (2, .int (iI v9))]) (by decide) rfl (Nat.le_of_ble_eq_true rfl) rfl ?_
  intro p e s m below meth c A C hr hnm
  have hk0 := hkT.1
  have hk1 := hkT.2.1
  refine zz_aload_n C 0 dX10_hold_0 rfl rfl ?_
  refine zz_iconst C dX10_hold_1 ?_
  refine zz_put (ty := .int) (ws' := wMod z mh xT xD xP xR xC xW xA xH xU xB xI xN xM xY xK xL xE xS 0 m_ca m_tp m_fa m_at m_wr m_va m_pl m_st m_lo m_bl m_bc m_fo m_yl m_yw m_nu m_nl m_lu m_ll m_ln kT kD kP kR kC kW kA kH kU kB kI kN kM kY kK kL kE kS) C 0 (ci := 10) (k := 0) rfl rfl in_X10 tyX10 tyX10_ok nmX10 (by decide) qw_926 rfl rfl (by decide +kernel) rfl rfl (Nat.le_of_ble_eq_true rfl) rfl dX10_hold_2 ?_
  refine zz_aload_n C 0 dX10_hold_5 rfl rfl ?_
  refine zz_callV (wr := ([] : va_W)) (st := []) C (cc_X10_drafts l z mh xT xD xP xR xC xW xA xH xU xB xI xN xM xY xK xL xE xS 0 m_ca m_tp m_fa m_at m_wr m_va m_pl m_st m_lo m_bl m_bc m_fo m_yl m_yw m_nu m_nl m_lu m_ll m_ln kT kD kP kR kC kW kA kH kU kB kI kN kM kY kK kL kE kS ) yk_X10_drafts qw_1064 ⟨by decide, by decide⟩ [0, 1, 2, 3, 4, 5, 6, 7, 8, 9, 10, 11, 12, 13, 14, 15, 16, 17, 18] [] rfl rfl rfl rfl (by decide) 0 10 rfl rfl rfl rfl (Nat.le_of_ble_eq_true rfl) dX10_hold_6 ⟨by decide, by decide⟩ ?_
  rintro _ _ ⟨gD_6, hgD_6, rfl, rfl⟩
  refine zz_st (st' := []) rfl (zz_ws (ws' := wMod z mh xT xD xP xR xC xW xA xH xU xB xI xN xM xY xK xL xE xS 0 m_ca m_tp m_fa m_at m_wr m_va m_pl m_st m_lo m_bl m_bc m_fo m_yl m_yw m_nu m_nl m_lu m_ll m_ln kT gD_6 kP kR kC kW kA kH kU kB kI kN kM kY kK kL kE kS) rfl ?_)
  have hd0 := hgD_6 0 (by omega) (by omega)
  have hd1 := hgD_6 1 (by omega) (by omega)
  refine zz_aload_n C 0 dX10_hold_9 rfl rfl ?_
  refine zz_aload_n C 0 dX10_hold_10 rfl rfl ?_
  refine zz_bipush C dX10_hold_11 (by decide +kernel) ?_
  refine zz_iload_n C 1 dX10_hold_13 rfl rfl ?_
  refine zz_iadd C dX10_hold_14 ?_
  refine zz_iload_n C 2 dX10_hold_15 rfl rfl ?_
  refine zz_aload_n C 0 dX10_hold_16 rfl rfl ?_
  refine zz_iload_n C 1 dX10_hold_17 rfl rfl ?_
  refine zz_callV (wr := ([] : va_W)) (st := [.int (iI v9), .int (iI (42 + b9)), .ref mh, .ref mh]) C (cc_X10_isBond l z mh xT xD xP xR xC xW xA xH xU xB xI xN xM xY xK xL xE xS 0 m_ca m_tp m_fa m_at m_wr m_va m_pl m_st m_lo m_bl m_bc m_fo m_yl m_yw m_nu m_nl m_lu m_ll m_ln kT gD_6 kP kR kC kW kA kH kU kB kI kN kM kY kK kL kE kS b9 (by omega) (by omega)) yk_X10_isBond qw_1092 ⟨by decide, by decide⟩ [0, 1, 2, 3, 4, 5, 6, 7, 8, 9, 10, 11, 12, 13, 14, 15, 16, 17, 18] [] rfl rfl rfl rfl (by decide) 0 10 rfl rfl rfl rfl (Nat.le_of_ble_eq_true rfl) dX10_hold_18 ⟨by decide, by decide⟩ ?_
  rintro _ _ ⟨q_18, hq_18, rfl, rfl⟩
  refine zz_st (st' := [.int (iI q_18), .int (iI v9), .int (iI (42 + b9)), .ref mh, .ref mh]) rfl (zz_ws (ws' := wMod z mh xT xD xP xR xC xW xA xH xU xB xI xN xM xY xK xL xE xS 0 m_ca m_tp m_fa m_at m_wr m_va m_pl m_st m_lo m_bl m_bc m_fo m_yl m_yw m_nu m_nl m_lu m_ll m_ln kT gD_6 kP kR kC kW kA kH kU kB kI kN kM kY kK kL kE kS) rfl ?_)
  refine zz_if_eq (tgt := 38) C dX10_hold_21 (by decide) (by unfold rI; omega) (fun c21 => ?_) (fun c21 => ?_)
  · skip
    refine zz_iconst C dX10_hold_38 ?_
    refine zz_callV (wr := ([] : va_W)) (st := [.ref mh]) C (cc_X10_lays_0 l z mh xT xD xP xR xC xW xA xH xU xB xI xN xM xY xK xL xE xS 0 m_ca m_tp m_fa m_at m_wr m_va m_pl m_st m_lo m_bl m_bc m_fo m_yl m_yw m_nu m_nl m_lu m_ll m_ln kT gD_6 kP kR kC kW kA kH kU kB kI kN kM kY kK kL kE kS (42 + b9) v9 ) yk_X10_lays qw_1072 ⟨by decide, by decide⟩ [0, 1, 2, 3, 4, 5, 6, 7, 8, 9, 10, 11, 12, 13, 14, 15, 16, 17, 18] [] rfl rfl rfl rfl (by decide) 0 10 rfl rfl rfl rfl (Nat.le_of_ble_eq_true rfl) dX10_hold_39 ⟨by decide, by decide⟩ ?_
    rintro _ _ ⟨rfl, rfl⟩
    refine zz_st (st' := [.int (iI 0), .ref mh]) rfl (zz_ws (ws' := wMod z mh xT xD xP xR xC xW xA xH xU xB xI xN xM xY xK xL xE xS 0 m_ca m_tp m_fa m_at m_wr m_va m_pl m_st m_lo m_bl m_bc m_fo m_yl m_yw m_nu m_nl m_lu m_ll m_ln kT gD_6 kP kR kC kW kA kH kU kB kI kN kM kY kK kL kE kS) rfl ?_)
    refine zz_callV (wr := ([] : va_W)) (st := []) C (cc_X10_takes_0 l z mh xT xD xP xR xC xW xA xH xU xB xI xN xM xY xK xL xE xS 0 m_ca m_tp m_fa m_at m_wr m_va m_pl m_st m_lo m_bl m_bc m_fo m_yl m_yw m_nu m_nl m_lu m_ll m_ln kT gD_6 kP kR kC kW kA kH kU kB kI kN kM kY kK kL kE kS ) yk_X10_takes qw_1056 ⟨by decide, by decide⟩ [0, 1, 2, 3, 4, 5, 6, 7, 8, 9, 10, 11, 12, 13, 14, 15, 16, 17, 18] [] rfl rfl rfl rfl (by decide) 0 10 rfl rfl rfl rfl (Nat.le_of_ble_eq_true rfl) dX10_hold_42 ⟨by decide, by decide⟩ ?_
    rintro _ _ ⟨rfl, rfl⟩
    refine zz_st (st' := [.int (iI 0)]) rfl (zz_ws (ws' := wMod z mh xT xD xP xR xC xW xA xH xU xB xI xN xM xY xK xL xE xS 0 m_ca m_tp m_fa m_at m_wr m_va m_pl m_st m_lo m_bl m_bc m_fo m_yl m_yw m_nu m_nl m_lu m_ll m_ln kT gD_6 kP kR kC kW kA kH kU kB kI kN kM kY kK kL kE kS) rfl ?_)
    exact zz_zret C hr (by decide +kernel) dX10_hold_45 ⟨0, _, _, Or.inr ⟨rfl, by omega, fun i h0 h1 => rfl⟩, rfl, rfl⟩
  · skip
    refine zz_iload_n C 2 dX10_hold_24 rfl rfl ?_
    refine zz_iconst C dX10_hold_25 ?_
    refine zz_bipush C dX10_hold_26 (by decide +kernel) ?_
    refine zz_callS (wr := wMod z mh xT xD xP xR xC xW xA xH xU xB xI xN xM xY xK xL xE xS 0 m_ca m_tp m_fa m_at m_wr m_va m_pl m_st m_lo m_bl m_bc m_fo m_yl m_yw m_nu m_nl m_lu m_ll m_ln kT gD_6 kP kR kC kW kA kH kU kB kI kN kM kY kK kL kE kS) (st := [.int (iI v9), .int (iI (42 + b9)), .ref mh, .ref mh]) C (cc_X10_in l z v9 0 99 (by omega) (by omega) (by omega)) yk_X10_in qw_1049 ⟨by decide, by decide⟩ [] [0, 1, 2, 3, 4, 5, 6, 7, 8, 9, 10, 11, 12, 13, 14, 15, 16, 17, 18] rfl rfl rfl rfl (by decide) rfl rfl (Nat.le_of_ble_eq_true rfl) dX10_hold_28 ⟨by decide, by decide⟩ ?_
    rintro _ _ ⟨q_28, hq_28, rfl, rfl⟩
    refine zz_st (st' := [.int (iI q_28), .int (iI v9), .int (iI (42 + b9)), .ref mh, .ref mh]) rfl (zz_ws (ws' := wMod z mh xT xD xP xR xC xW xA xH xU xB xI xN xM xY xK xL xE xS 0 m_ca m_tp m_fa m_at m_wr m_va m_pl m_st m_lo m_bl m_bc m_fo m_yl m_yw m_nu m_nl m_lu m_ll m_ln kT gD_6 kP kR kC kW kA kH kU kB kI kN kM kY kK kL kE kS) rfl ?_)
    refine zz_if_eq (tgt := 38) C dX10_hold_31 (by decide) (by unfold rI; omega) (fun c31 => ?_) (fun c31 => ?_)
    · skip
      refine zz_iconst C dX10_hold_38 ?_
      refine zz_callV (wr := ([] : va_W)) (st := [.ref mh]) C (cc_X10_lays_0 l z mh xT xD xP xR xC xW xA xH xU xB xI xN xM xY xK xL xE xS 0 m_ca m_tp m_fa m_at m_wr m_va m_pl m_st m_lo m_bl m_bc m_fo m_yl m_yw m_nu m_nl m_lu m_ll m_ln kT gD_6 kP kR kC kW kA kH kU kB kI kN kM kY kK kL kE kS (42 + b9) v9 ) yk_X10_lays qw_1072 ⟨by decide, by decide⟩ [0, 1, 2, 3, 4, 5, 6, 7, 8, 9, 10, 11, 12, 13, 14, 15, 16, 17, 18] [] rfl rfl rfl rfl (by decide) 0 10 rfl rfl rfl rfl (Nat.le_of_ble_eq_true rfl) dX10_hold_39 ⟨by decide, by decide⟩ ?_
      rintro _ _ ⟨rfl, rfl⟩
      refine zz_st (st' := [.int (iI 0), .ref mh]) rfl (zz_ws (ws' := wMod z mh xT xD xP xR xC xW xA xH xU xB xI xN xM xY xK xL xE xS 0 m_ca m_tp m_fa m_at m_wr m_va m_pl m_st m_lo m_bl m_bc m_fo m_yl m_yw m_nu m_nl m_lu m_ll m_ln kT gD_6 kP kR kC kW kA kH kU kB kI kN kM kY kK kL kE kS) rfl ?_)
      refine zz_callV (wr := ([] : va_W)) (st := []) C (cc_X10_takes_0 l z mh xT xD xP xR xC xW xA xH xU xB xI xN xM xY xK xL xE xS 0 m_ca m_tp m_fa m_at m_wr m_va m_pl m_st m_lo m_bl m_bc m_fo m_yl m_yw m_nu m_nl m_lu m_ll m_ln kT gD_6 kP kR kC kW kA kH kU kB kI kN kM kY kK kL kE kS ) yk_X10_takes qw_1056 ⟨by decide, by decide⟩ [0, 1, 2, 3, 4, 5, 6, 7, 8, 9, 10, 11, 12, 13, 14, 15, 16, 17, 18] [] rfl rfl rfl rfl (by decide) 0 10 rfl rfl rfl rfl (Nat.le_of_ble_eq_true rfl) dX10_hold_42 ⟨by decide, by decide⟩ ?_
      rintro _ _ ⟨rfl, rfl⟩
      refine zz_st (st' := [.int (iI 0)]) rfl (zz_ws (ws' := wMod z mh xT xD xP xR xC xW xA xH xU xB xI xN xM xY xK xL xE xS 0 m_ca m_tp m_fa m_at m_wr m_va m_pl m_st m_lo m_bl m_bc m_fo m_yl m_yw m_nu m_nl m_lu m_ll m_ln kT gD_6 kP kR kC kW kA kH kU kB kI kN kM kY kK kL kE kS) rfl ?_)
      exact zz_zret C hr (by decide +kernel) dX10_hold_45 ⟨0, _, _, Or.inr ⟨rfl, by omega, fun i h0 h1 => rfl⟩, rfl, rfl⟩
    · skip
      refine zz_iconst C dX10_hold_34 ?_
      refine zz_goto (tgt := 39) C dX10_hold_35 (by decide) ?_
      refine zz_callV (wr := ([] : va_W)) (st := [.ref mh]) C (cc_X10_lays_1 l z mh xT xD xP xR xC xW xA xH xU xB xI xN xM xY xK xL xE xS 0 m_ca m_tp m_fa m_at m_wr m_va m_pl m_st m_lo m_bl m_bc m_fo m_yl m_yw m_nu m_nl m_lu m_ll m_ln kT gD_6 kP kR kC kW kA kH kU kB kI kN kM kY kK kL kE kS (42 + b9) v9 (by omega)) yk_X10_lays qw_1072 ⟨by decide, by decide⟩ [0, 1, 2, 3, 4, 5, 6, 7, 8, 9, 10, 11, 12, 13, 14, 15, 16, 17, 18] [] rfl rfl rfl rfl (by decide) 0 10 rfl rfl rfl rfl (Nat.le_of_ble_eq_true rfl) dX10_hold_39 ⟨by decide, by decide⟩ ?_
      rintro _ _ ⟨rfl, rfl⟩
      refine zz_st (st' := [.int (iI 1), .ref mh]) rfl (zz_ws (ws' := wMod z mh xT xD xP xR xC xW xA xH xU xB xI xN xM xY xK xL xE xS 0 m_ca m_tp m_fa m_at m_wr m_va m_pl m_st m_lo m_bl m_bc m_fo m_yl m_yw m_nu m_nl m_lu m_ll m_ln kT (zup gD_6 (42 + b9) v9) kP kR kC kW kA kH kU kB kI kN kM kY kK kL kE kS) rfl ?_)
      refine zz_callV (wr := ([] : va_W)) (st := []) C (cc_X10_takes_1 l z mh xT xD xP xR xC xW xA xH xU xB xI xN xM xY xK xL xE xS 0 m_ca m_tp m_fa m_at m_wr m_va m_pl m_st m_lo m_bl m_bc m_fo m_yl m_yw m_nu m_nl m_lu m_ll m_ln kT (zup gD_6 (42 + b9) v9) kP kR kC kW kA kH kU kB kI kN kM kY kK kL kE kS ) yk_X10_takes qw_1056 ⟨by decide, by decide⟩ [0, 1, 2, 3, 4, 5, 6, 7, 8, 9, 10, 11, 12, 13, 14, 15, 16, 17, 18] [] rfl rfl rfl rfl (by decide) 0 10 rfl rfl rfl rfl (Nat.le_of_ble_eq_true rfl) dX10_hold_42 ⟨by decide, by decide⟩ ?_
      rintro _ _ ⟨gT_42, hgT_42, rfl, rfl⟩
      refine zz_st (st' := [.int (iI 1)]) rfl (zz_ws (ws' := wMod z mh xT xD xP xR xC xW xA xH xU xB xI xN xM xY xK xL xE xS 0 m_ca m_tp m_fa m_at m_wr m_va m_pl m_st m_lo m_bl m_bc m_fo m_yl m_yw m_nu m_nl m_lu m_ll m_ln gT_42 (zup gD_6 (42 + b9) v9) kP kR kC kW kA kH kU kB kI kN kM kY kK kL kE kS) rfl ?_)
      exact zz_zret C hr (by decide +kernel) dX10_hold_45 ⟨1, _, _, Or.inl ⟨rfl, by omega, fun i h0 h1 => by rw [hgT_42 i h0 h1]; exact eqR_zup hgD_6 i h0 h1⟩, rfl, rfl⟩
abbrev po_X10_call (z : zC) (mh : Nat) (xT : Nat) (xD : Nat) (xP : Nat) (xR : Nat) (xC : Nat) (xW : Nat) (xA : Nat) (xH : Nat) (xU : Nat) (xB : Nat) (xI : Nat) (xN : Nat) (xM : Nat) (xY : Nat) (xK : Nat) (xL : Nat) (xE : Nat) (xS : Nat) (m_ra : Int) (m_ca : Int) (m_tp : Int) (m_fa : Int) (m_at : Int) (m_wr : Int) (m_va : Int) (m_pl : Int) (m_st : Int) (m_lo : Int) (m_bl : Int) (m_bc : Int) (m_fo : Int) (m_yl : Int) (m_yw : Int) (m_nu : Int) (m_nl : Int) (m_lu : Int) (m_ll : Int) (m_ln : Int) (kT : Int → Int) (kD : Int → Int) (kP : Int → Int) (kR : Int → Int) (kC : Int → Int) (kW : Int → Int) (kA : Int → Int) (kH : Int → Int) (kU : Int → Int) (kB : Int → Int) (kI : Int → Int) (kN : Int → Int) (kM : Int → Int) (kY : Int → Int) (kK : Int → Int) (kL : Int → Int) (kE : Int → Int) (kS : Int → Int) (b9 : Int) (v9 : Int) : Option Value → va_W → Prop := fun v w => ∃ (q : Int), ∃ (gD : Int → Int), ∃ (gT : Int → Int), ((q = 1 ∧ ((0 ≤ b9 ∧ b9 < kT 1) ∧ (0 ≤ v9 ∧ v9 ≤ kT (22 + b9) - 1) ∧ kT (37 + b9) ≠ v9) ∧ eqR gT (zup kT (37 + b9) v9) 47) ∨ (q = 0 ∧ ¬ ((0 ≤ b9 ∧ b9 < kT 1) ∧ (0 ≤ v9 ∧ v9 ≤ kT (22 + b9) - 1) ∧ kT (37 + b9) ≠ v9) ∧ eqR gT kT 47)) ∧ v = some (Value.int (iI q)) ∧ w = wMod z mh xT xD xP xR xC xW xA xH xU xB xI xN xM xY xK xL xE xS 0 m_ca m_tp m_fa m_at m_wr m_va m_pl m_st m_lo m_bl m_bc m_fo m_yl m_yw m_nu m_nl m_lu m_ll m_ln gT gD kP kR kC kW kA kH kU kB kI kN kM kY kK kL kE kS
abbrev rm_X10_call : Room := { frames := 3, cells := 0, slots := 0, locals := 83 }
set_option maxHeartbeats 4000000 in
set_option maxRecDepth 100000 in
theorem cc_X10_call (l : Launch) (z : zC) (mh : Nat) (xT : Nat) (xD : Nat) (xP : Nat) (xR : Nat) (xC : Nat) (xW : Nat) (xA : Nat) (xH : Nat) (xU : Nat) (xB : Nat) (xI : Nat) (xN : Nat) (xM : Nat) (xY : Nat) (xK : Nat) (xL : Nat) (xE : Nat) (xS : Nat) (m_ra : Int) (m_ca : Int) (m_tp : Int) (m_fa : Int) (m_at : Int) (m_wr : Int) (m_va : Int) (m_pl : Int) (m_st : Int) (m_lo : Int) (m_bl : Int) (m_bc : Int) (m_fo : Int) (m_yl : Int) (m_yw : Int) (m_nu : Int) (m_nl : Int) (m_lu : Int) (m_ll : Int) (m_ln : Int) (kT : Int → Int) (kD : Int → Int) (kP : Int → Int) (kR : Int → Int) (kC : Int → Int) (kW : Int → Int) (kA : Int → Int) (kH : Int → Int) (kU : Int → Int) (kB : Int → Int) (kI : Int → Int) (kN : Int → Int) (kM : Int → Int) (kY : Int → Int) (kK : Int → Int) (kL : Int → Int) (kE : Int → Int) (kS : Int → Int) (b9 : Int) (v9 : Int) (hkT : mOk kT) (hb9 : -2147483648 ≤ b9 ∧ b9 < 2147483648) (hv9 : -2147483648 ≤ v9 ∧ v9 < 2147483648) : zzMet l yX10_call cX10_call 3 (Option.some .boolean) rm_X10_call z [.ref mh, .int (iI b9), .int (iI v9)] (wMod z mh xT xD xP xR xC xW xA xH xU xB xI xN xM xY xK xL xE xS m_ra m_ca m_tp m_fa m_at m_wr m_va m_pl m_st m_lo m_bl m_bc m_fo m_yl m_yw m_nu m_nl m_lu m_ll m_ln kT kD kP kR kC kW kA kH kU kB kI kN kM kY kK kL kE kS) (po_X10_call z mh xT xD xP xR xC xW xA xH xU xB xI xN xM xY xK xL xE xS m_ra m_ca m_tp m_fa m_at m_wr m_va m_pl m_st m_lo m_bl m_bc m_fo m_yl m_yw m_nu m_nl m_lu m_ll m_ln kT kD kP kR kC kW kA kH kU kB kI kN kM kY kK kL kE kS b9 v9) := by
  refine zzMet.of (own := RX10) (ls0 := [(0, .ref mh), (1, .int (iI b9)), (2, .int (iI v9))]) (by decide) rfl (Nat.le_of_ble_eq_true rfl) rfl ?_
  intro p e s m below meth c A C hr hnm
  have hk0 := hkT.1
  have hk1 := hkT.2.1
  refine zz_aload_n C 0 dX10_call_0 rfl rfl ?_
  refine zz_iconst C dX10_call_1 ?_
  refine zz_put (ty := .int) (ws' := wMod z mh xT xD xP xR xC xW xA xH xU xB xI xN xM xY xK xL xE xS 0 m_ca m_tp m_fa m_at m_wr m_va m_pl m_st m_lo m_bl m_bc m_fo m_yl m_yw m_nu m_nl m_lu m_ll m_ln kT kD kP kR kC kW kA kH kU kB kI kN kM kY kK kL kE kS) C 0 (ci := 10) (k := 0) rfl rfl in_X10 tyX10 tyX10_ok nmX10 (by decide) qw_926 rfl rfl (by decide +kernel) rfl rfl (Nat.le_of_ble_eq_true rfl) rfl dX10_call_2 ?_
  refine zz_aload_n C 0 dX10_call_5 rfl rfl ?_
  refine zz_callV (wr := ([] : va_W)) (st := []) C (cc_X10_drafts l z mh xT xD xP xR xC xW xA xH xU xB xI xN xM xY xK xL xE xS 0 m_ca m_tp m_fa m_at m_wr m_va m_pl m_st m_lo m_bl m_bc m_fo m_yl m_yw m_nu m_nl m_lu m_ll m_ln kT kD kP kR kC kW kA kH kU kB kI kN kM kY kK kL kE kS ) yk_X10_drafts qw_1064 ⟨by decide, by decide⟩ [0, 1, 2, 3, 4, 5, 6, 7, 8, 9, 10, 11, 12, 13, 14, 15, 16, 17, 18] [] rfl rfl rfl rfl (by decide) 0 10 rfl rfl rfl rfl (Nat.le_of_ble_eq_true rfl) dX10_call_6 ⟨by decide, by decide⟩ ?_
  rintro _ _ ⟨gD_6, hgD_6, rfl, rfl⟩
  refine zz_st (st' := []) rfl (zz_ws (ws' := wMod z mh xT xD xP xR xC xW xA xH xU xB xI xN xM xY xK xL xE xS 0 m_ca m_tp m_fa m_at m_wr m_va m_pl m_st m_lo m_bl m_bc m_fo m_yl m_yw m_nu m_nl m_lu m_ll m_ln kT gD_6 kP kR kC kW kA kH kU kB kI kN kM kY kK kL kE kS) rfl ?_)
  have hd0 := hgD_6 0 (by omega) (by omega)
  have hd1 := hgD_6 1 (by omega) (by omega)
  refine zz_aload_n C 0 dX10_call_9 rfl rfl ?_
  refine zz_aload_n C 0 dX10_call_10 rfl rfl ?_
  refine zz_bipush C dX10_call_11 (by decide +kernel) ?_
  refine zz_iload_n C 1 dX10_call_13 rfl rfl ?_
  refine zz_iadd C dX10_call_14 ?_
  refine zz_iload_n C 2 dX10_call_15 rfl rfl ?_
  refine zz_aload_n C 0 dX10_call_16 rfl rfl ?_
  refine zz_iload_n C 1 dX10_call_17 rfl rfl ?_
  refine zz_callV (wr := ([] : va_W)) (st := [.int (iI v9), .int (iI (37 + b9)), .ref mh, .ref mh]) C (cc_X10_isBond l z mh xT xD xP xR xC xW xA xH xU xB xI xN xM xY xK xL xE xS 0 m_ca m_tp m_fa m_at m_wr m_va m_pl m_st m_lo m_bl m_bc m_fo m_yl m_yw m_nu m_nl m_lu m_ll m_ln kT gD_6 kP kR kC kW kA kH kU kB kI kN kM kY kK kL kE kS b9 (by omega) (by omega)) yk_X10_isBond qw_1092 ⟨by decide, by decide⟩ [0, 1, 2, 3, 4, 5, 6, 7, 8, 9, 10, 11, 12, 13, 14, 15, 16, 17, 18] [] rfl rfl rfl rfl (by decide) 0 10 rfl rfl rfl rfl (Nat.le_of_ble_eq_true rfl) dX10_call_18 ⟨by decide, by decide⟩ ?_
  rintro _ _ ⟨q_18, hq_18, rfl, rfl⟩
  refine zz_st (st' := [.int (iI q_18), .int (iI v9), .int (iI (37 + b9)), .ref mh, .ref mh]) rfl (zz_ws (ws' := wMod z mh xT xD xP xR xC xW xA xH xU xB xI xN xM xY xK xL xE xS 0 m_ca m_tp m_fa m_at m_wr m_va m_pl m_st m_lo m_bl m_bc m_fo m_yl m_yw m_nu m_nl m_lu m_ll m_ln kT gD_6 kP kR kC kW kA kH kU kB kI kN kM kY kK kL kE kS) rfl ?_)
  refine zz_if_eq (tgt := 72) C dX10_call_21 (by decide) (by unfold rI; omega) (fun c21 => ?_) (fun c21 => ?_)
  · skip
    refine zz_iconst C dX10_call_72 ?_
    refine zz_callV (wr := ([] : va_W)) (st := [.ref mh]) C (cc_X10_lays_0 l z mh xT xD xP xR xC xW xA xH xU xB xI xN xM xY xK xL xE xS 0 m_ca m_tp m_fa m_at m_wr m_va m_pl m_st m_lo m_bl m_bc m_fo m_yl m_yw m_nu m_nl m_lu m_ll m_ln kT gD_6 kP kR kC kW kA kH kU kB kI kN kM kY kK kL kE kS (37 + b9) v9 ) yk_X10_lays qw_1072 ⟨by decide, by decide⟩ [0, 1, 2, 3, 4, 5, 6, 7, 8, 9, 10, 11, 12, 13, 14, 15, 16, 17, 18] [] rfl rfl rfl rfl (by decide) 0 10 rfl rfl rfl rfl (Nat.le_of_ble_eq_true rfl) dX10_call_73 ⟨by decide, by decide⟩ ?_
    rintro _ _ ⟨rfl, rfl⟩
    refine zz_st (st' := [.int (iI 0), .ref mh]) rfl (zz_ws (ws' := wMod z mh xT xD xP xR xC xW xA xH xU xB xI xN xM xY xK xL xE xS 0 m_ca m_tp m_fa m_at m_wr m_va m_pl m_st m_lo m_bl m_bc m_fo m_yl m_yw m_nu m_nl m_lu m_ll m_ln kT gD_6 kP kR kC kW kA kH kU kB kI kN kM kY kK kL kE kS) rfl ?_)
    refine zz_callV (wr := ([] : va_W)) (st := []) C (cc_X10_takes_0 l z mh xT xD xP xR xC xW xA xH xU xB xI xN xM xY xK xL xE xS 0 m_ca m_tp m_fa m_at m_wr m_va m_pl m_st m_lo m_bl m_bc m_fo m_yl m_yw m_nu m_nl m_lu m_ll m_ln kT gD_6 kP kR kC kW kA kH kU kB kI kN kM kY kK kL kE kS ) yk_X10_takes qw_1056 ⟨by decide, by decide⟩ [0, 1, 2, 3, 4, 5, 6, 7, 8, 9, 10, 11, 12, 13, 14, 15, 16, 17, 18] [] rfl rfl rfl rfl (by decide) 0 10 rfl rfl rfl rfl (Nat.le_of_ble_eq_true rfl) dX10_call_76 ⟨by decide, by decide⟩ ?_
    rintro _ _ ⟨rfl, rfl⟩
    refine zz_st (st' := [.int (iI 0)]) rfl (zz_ws (ws' := wMod z mh xT xD xP xR xC xW xA xH xU xB xI xN xM xY xK xL xE xS 0 m_ca m_tp m_fa m_at m_wr m_va m_pl m_st m_lo m_bl m_bc m_fo m_yl m_yw m_nu m_nl m_lu m_ll m_ln kT gD_6 kP kR kC kW kA kH kU kB kI kN kM kY kK kL kE kS) rfl ?_)
    exact zz_zret C hr (by decide +kernel) dX10_call_79 ⟨0, _, _, Or.inr ⟨rfl, by omega, fun i h0 h1 => rfl⟩, rfl, rfl⟩
  · skip
    refine zz_iload_n C 2 dX10_call_24 rfl rfl ?_
    refine zz_iconst C dX10_call_25 ?_
    refine zz_aload_n C 0 dX10_call_26 rfl rfl ?_
    refine zz_get C 0 (ci := 10) (k := 1) rfl rfl in_X10 (by decide) qw_927 rfl rfl dX10_call_27 ?_
    refine zz_bipush C dX10_call_30 (by decide +kernel) ?_
    refine zz_aload_n C 0 dX10_call_32 rfl rfl ?_
    refine zz_iload_n C 1 dX10_call_33 rfl rfl ?_
    refine zz_callV (wr := ([] : va_W)) (st := [.int (iI 22), .ref xT, .int (iI 0), .int (iI v9), .int (iI v9), .int (iI (37 + b9)), .ref mh, .ref mh]) C (cc_X10_isBond l z mh xT xD xP xR xC xW xA xH xU xB xI xN xM xY xK xL xE xS 0 m_ca m_tp m_fa m_at m_wr m_va m_pl m_st m_lo m_bl m_bc m_fo m_yl m_yw m_nu m_nl m_lu m_ll m_ln kT gD_6 kP kR kC kW kA kH kU kB kI kN kM kY kK kL kE kS b9 (by omega) (by omega)) yk_X10_isBond qw_1092 ⟨by decide, by decide⟩ [0, 1, 2, 3, 4, 5, 6, 7, 8, 9, 10, 11, 12, 13, 14, 15, 16, 17, 18] [] rfl rfl rfl rfl (by decide) 0 10 rfl rfl rfl rfl (Nat.le_of_ble_eq_true rfl) dX10_call_34 ⟨by decide, by decide⟩ ?_
    rintro _ _ ⟨q_34, hq_34, rfl, rfl⟩
    refine zz_st (st' := [.int (iI q_34), .int (iI 22), .ref xT, .int (iI 0), .int (iI v9), .int (iI v9), .int (iI (37 + b9)), .ref mh, .ref mh]) rfl (zz_ws (ws' := wMod z mh xT xD xP xR xC xW xA xH xU xB xI xN xM xY xK xL xE xS 0 m_ca m_tp m_fa m_at m_wr m_va m_pl m_st m_lo m_bl m_bc m_fo m_yl m_yw m_nu m_nl m_lu m_ll m_ln kT gD_6 kP kR kC kW kA kH kU kB kI kN kM kY kK kL kE kS) rfl ?_)
    refine zz_if_eq (tgt := 44) C dX10_call_37 (by decide) (by unfold rI; omega) (fun c37 => ?_) (fun c37 => ?_)
    · skip
      exfalso; omega
    · skip
      refine zz_iload_n C 1 dX10_call_40 rfl rfl ?_
      refine zz_goto (tgt := 45) C dX10_call_41 (by decide) ?_
      refine zz_iadd C dX10_call_45 ?_
      have hr46 : 0 ≤ kT (22 + b9) ∧ kT (22 + b9) ≤ 200 := hkT.2.2 _ (by omega) (by omega)
      refine zz_iald C 1 rfl (by omega) (by omega) (by decide) dX10_call_46 ?_
      refine zz_iconst C dX10_call_47 ?_
      refine zz_isub C dX10_call_48 ?_
      refine zz_callS (wr := wMod z mh xT xD xP xR xC xW xA xH xU xB xI xN xM xY xK xL xE xS 0 m_ca m_tp m_fa m_at m_wr m_va m_pl m_st m_lo m_bl m_bc m_fo m_yl m_yw m_nu m_nl m_lu m_ll m_ln kT gD_6 kP kR kC kW kA kH kU kB kI kN kM kY kK kL kE kS) (st := [.int (iI v9), .int (iI (37 + b9)), .ref mh, .ref mh]) C (cc_X10_in l z v9 0 ((kT (22 + b9)) - 1) (by omega) (by omega) (by omega)) yk_X10_in qw_1049 ⟨by decide, by decide⟩ [] [0, 1, 2, 3, 4, 5, 6, 7, 8, 9, 10, 11, 12, 13, 14, 15, 16, 17, 18] rfl rfl rfl rfl (by decide) rfl rfl (Nat.le_of_ble_eq_true rfl) dX10_call_49 ⟨by decide, by decide⟩ ?_
      rintro _ _ ⟨q_49, hq_49, rfl, rfl⟩
      refine zz_st (st' := [.int (iI q_49), .int (iI v9), .int (iI (37 + b9)), .ref mh, .ref mh]) rfl (zz_ws (ws' := wMod z mh xT xD xP xR xC xW xA xH xU xB xI xN xM xY xK xL xE xS 0 m_ca m_tp m_fa m_at m_wr m_va m_pl m_st m_lo m_bl m_bc m_fo m_yl m_yw m_nu m_nl m_lu m_ll m_ln kT gD_6 kP kR kC kW kA kH kU kB kI kN kM kY kK kL kE kS) rfl ?_)
      refine zz_if_eq (tgt := 72) C dX10_call_52 (by decide) (by unfold rI; omega) (fun c52 => ?_) (fun c52 => ?_)
      · skip
        refine zz_iconst C dX10_call_72 ?_
        refine zz_callV (wr := ([] : va_W)) (st := [.ref mh]) C (cc_X10_lays_0 l z mh xT xD xP xR xC xW xA xH xU xB xI xN xM xY xK xL xE xS 0 m_ca m_tp m_fa m_at m_wr m_va m_pl m_st m_lo m_bl m_bc m_fo m_yl m_yw m_nu m_nl m_lu m_ll m_ln kT gD_6 kP kR kC kW kA kH kU kB kI kN kM kY kK kL kE kS (37 + b9) v9 ) yk_X10_lays qw_1072 ⟨by decide, by decide⟩ [0, 1, 2, 3, 4, 5, 6, 7, 8, 9, 10, 11, 12, 13, 14, 15, 16, 17, 18] [] rfl rfl rfl rfl (by decide) 0 10 rfl rfl rfl rfl (Nat.le_of_ble_eq_true rfl) dX10_call_73 ⟨by decide, by decide⟩ ?_
        rintro _ _ ⟨rfl, rfl⟩
        refine zz_st (st' := [.int (iI 0), .ref mh]) rfl (zz_ws (ws' := wMod z mh xT xD xP xR xC xW xA xH xU xB xI xN xM xY xK xL xE xS 0 m_ca m_tp m_fa m_at m_wr m_va m_pl m_st m_lo m_bl m_bc m_fo m_yl m_yw m_nu m_nl m_lu m_ll m_ln kT gD_6 kP kR kC kW kA kH kU kB kI kN kM kY kK kL kE kS) rfl ?_)
        refine zz_callV (wr := ([] : va_W)) (st := []) C (cc_X10_takes_0 l z mh xT xD xP xR xC xW xA xH xU xB xI xN xM xY xK xL xE xS 0 m_ca m_tp m_fa m_at m_wr m_va m_pl m_st m_lo m_bl m_bc m_fo m_yl m_yw m_nu m_nl m_lu m_ll m_ln kT gD_6 kP kR kC kW kA kH kU kB kI kN kM kY kK kL kE kS ) yk_X10_takes qw_1056 ⟨by decide, by decide⟩ [0, 1, 2, 3, 4, 5, 6, 7, 8, 9, 10, 11, 12, 13, 14, 15, 16, 17, 18] [] rfl rfl rfl rfl (by decide) 0 10 rfl rfl rfl rfl (Nat.le_of_ble_eq_true rfl) dX10_call_76 ⟨by decide, by decide⟩ ?_
        rintro _ _ ⟨rfl, rfl⟩
        refine zz_st (st' := [.int (iI 0)]) rfl (zz_ws (ws' := wMod z mh xT xD xP xR xC xW xA xH xU xB xI xN xM xY xK xL xE xS 0 m_ca m_tp m_fa m_at m_wr m_va m_pl m_st m_lo m_bl m_bc m_fo m_yl m_yw m_nu m_nl m_lu m_ll m_ln kT gD_6 kP kR kC kW kA kH kU kB kI kN kM kY kK kL kE kS) rfl ?_)
        exact zz_zret C hr (by decide +kernel) dX10_call_79 ⟨0, _, _, Or.inr ⟨rfl, by omega, fun i h0 h1 => rfl⟩, rfl, rfl⟩
      · skip
        refine zz_aload_n C 0 dX10_call_55 rfl rfl ?_
        refine zz_get C 0 (ci := 10) (k := 1) rfl rfl in_X10 (by decide) qw_927 rfl rfl dX10_call_56 ?_
        refine zz_bipush C dX10_call_59 (by decide +kernel) ?_
        refine zz_iload_n C 1 dX10_call_61 rfl rfl ?_
        refine zz_iadd C dX10_call_62 ?_
        have hr63 : 0 ≤ kT (37 + b9) ∧ kT (37 + b9) ≤ 200 := hkT.2.2 _ (by omega) (by omega)
        refine zz_iald C 1 rfl (by omega) (by omega) (by decide) dX10_call_63 ?_
        refine zz_iload_n C 2 dX10_call_64 rfl rfl ?_
        refine zz_icmp_eq (tgt := 72) C dX10_call_65 (by decide) (by unfold rI; omega) (by unfold rI; omega) (fun c65 => ?_) (fun c65 => ?_)
        · skip
          refine zz_iconst C dX10_call_72 ?_
          refine zz_callV (wr := ([] : va_W)) (st := [.ref mh]) C (cc_X10_lays_0 l z mh xT xD xP xR xC xW xA xH xU xB xI xN xM xY xK xL xE xS 0 m_ca m_tp m_fa m_at m_wr m_va m_pl m_st m_lo m_bl m_bc m_fo m_yl m_yw m_nu m_nl m_lu m_ll m_ln kT gD_6 kP kR kC kW kA kH kU kB kI kN kM kY kK kL kE kS (37 + b9) v9 ) yk_X10_lays qw_1072 ⟨by decide, by decide⟩ [0, 1, 2, 3, 4, 5, 6, 7, 8, 9, 10, 11, 12, 13, 14, 15, 16, 17, 18] [] rfl rfl rfl rfl (by decide) 0 10 rfl rfl rfl rfl (Nat.le_of_ble_eq_true rfl) dX10_call_73 ⟨by decide, by decide⟩ ?_
          rintro _ _ ⟨rfl, rfl⟩
          refine zz_st (st' := [.int (iI 0), .ref mh]) rfl (zz_ws (ws' := wMod z mh xT xD xP xR xC xW xA xH xU xB xI xN xM xY xK xL xE xS 0 m_ca m_tp m_fa m_at m_wr m_va m_pl m_st m_lo m_bl m_bc m_fo m_yl m_yw m_nu m_nl m_lu m_ll m_ln kT gD_6 kP kR kC kW kA kH kU kB kI kN kM kY kK kL kE kS) rfl ?_)
          refine zz_callV (wr := ([] : va_W)) (st := []) C (cc_X10_takes_0 l z mh xT xD xP xR xC xW xA xH xU xB xI xN xM xY xK xL xE xS 0 m_ca m_tp m_fa m_at m_wr m_va m_pl m_st m_lo m_bl m_bc m_fo m_yl m_yw m_nu m_nl m_lu m_ll m_ln kT gD_6 kP kR kC kW kA kH kU kB kI kN kM kY kK kL kE kS ) yk_X10_takes qw_1056 ⟨by decide, by decide⟩ [0, 1, 2, 3, 4, 5, 6, 7, 8, 9, 10, 11, 12, 13, 14, 15, 16, 17, 18] [] rfl rfl rfl rfl (by decide) 0 10 rfl rfl rfl rfl (Nat.le_of_ble_eq_true rfl) dX10_call_76 ⟨by decide, by decide⟩ ?_
          rintro _ _ ⟨rfl, rfl⟩
          refine zz_st (st' := [.int (iI 0)]) rfl (zz_ws (ws' := wMod z mh xT xD xP xR xC xW xA xH xU xB xI xN xM xY xK xL xE xS 0 m_ca m_tp m_fa m_at m_wr m_va m_pl m_st m_lo m_bl m_bc m_fo m_yl m_yw m_nu m_nl m_lu m_ll m_ln kT gD_6 kP kR kC kW kA kH kU kB kI kN kM kY kK kL kE kS) rfl ?_)
          exact zz_zret C hr (by decide +kernel) dX10_call_79 ⟨0, _, _, Or.inr ⟨rfl, by omega, fun i h0 h1 => rfl⟩, rfl, rfl⟩
        · skip
          refine zz_iconst C dX10_call_68 ?_
          refine zz_goto (tgt := 73) C dX10_call_69 (by decide) ?_
          refine zz_callV (wr := ([] : va_W)) (st := [.ref mh]) C (cc_X10_lays_1 l z mh xT xD xP xR xC xW xA xH xU xB xI xN xM xY xK xL xE xS 0 m_ca m_tp m_fa m_at m_wr m_va m_pl m_st m_lo m_bl m_bc m_fo m_yl m_yw m_nu m_nl m_lu m_ll m_ln kT gD_6 kP kR kC kW kA kH kU kB kI kN kM kY kK kL kE kS (37 + b9) v9 (by omega)) yk_X10_lays qw_1072 ⟨by decide, by decide⟩ [0, 1, 2, 3, 4, 5, 6, 7, 8, 9, 10, 11, 12, 13, 14, 15, 16, 17, 18] [] rfl rfl rfl rfl (by decide) 0 10 rfl rfl rfl rfl (Nat.le_of_ble_eq_true rfl) dX10_call_73 ⟨by decide, by decide⟩ ?_
          rintro _ _ ⟨rfl, rfl⟩
          refine zz_st (st' := [.int (iI 1), .ref mh]) rfl (zz_ws (ws' := wMod z mh xT xD xP xR xC xW xA xH xU xB xI xN xM xY xK xL xE xS 0 m_ca m_tp m_fa m_at m_wr m_va m_pl m_st m_lo m_bl m_bc m_fo m_yl m_yw m_nu m_nl m_lu m_ll m_ln kT (zup gD_6 (37 + b9) v9) kP kR kC kW kA kH kU kB kI kN kM kY kK kL kE kS) rfl ?_)
          refine zz_callV (wr := ([] : va_W)) (st := []) C (cc_X10_takes_1 l z mh xT xD xP xR xC xW xA xH xU xB xI xN xM xY xK xL xE xS 0 m_ca m_tp m_fa m_at m_wr m_va m_pl m_st m_lo m_bl m_bc m_fo m_yl m_yw m_nu m_nl m_lu m_ll m_ln kT (zup gD_6 (37 + b9) v9) kP kR kC kW kA kH kU kB kI kN kM kY kK kL kE kS ) yk_X10_takes qw_1056 ⟨by decide, by decide⟩ [0, 1, 2, 3, 4, 5, 6, 7, 8, 9, 10, 11, 12, 13, 14, 15, 16, 17, 18] [] rfl rfl rfl rfl (by decide) 0 10 rfl rfl rfl rfl (Nat.le_of_ble_eq_true rfl) dX10_call_76 ⟨by decide, by decide⟩ ?_
          rintro _ _ ⟨gT_76, hgT_76, rfl, rfl⟩
          refine zz_st (st' := [.int (iI 1)]) rfl (zz_ws (ws' := wMod z mh xT xD xP xR xC xW xA xH xU xB xI xN xM xY xK xL xE xS 0 m_ca m_tp m_fa m_at m_wr m_va m_pl m_st m_lo m_bl m_bc m_fo m_yl m_yw m_nu m_nl m_lu m_ll m_ln gT_76 (zup gD_6 (37 + b9) v9) kP kR kC kW kA kH kU kB kI kN kM kY kK kL kE kS) rfl ?_)
          exact zz_zret C hr (by decide +kernel) dX10_call_79 ⟨1, _, _, Or.inl ⟨rfl, by omega, fun i h0 h1 => by rw [hgT_76 i h0 h1]; exact eqR_zup hgD_6 i h0 h1⟩, rfl, rfl⟩
abbrev po_X10_dates (z : zC) (mh : Nat) (xT : Nat) (xD : Nat) (xP : Nat) (xR : Nat) (xC : Nat) (xW : Nat) (xA : Nat) (xH : Nat) (xU : Nat) (xB : Nat) (xI : Nat) (xN : Nat) (xM : Nat) (xY : Nat) (xK : Nat) (xL : Nat) (xE : Nat) (xS : Nat) (m_ra : Int) (m_ca : Int) (m_tp : Int) (m_fa : Int) (m_at : Int) (m_wr : Int) (m_va : Int) (m_pl : Int) (m_st : Int) (m_lo : Int) (m_bl : Int) (m_bc : Int) (m_fo : Int) (m_yl : Int) (m_yw : Int) (m_nu : Int) (m_nl : Int) (m_lu : Int) (m_ll : Int) (m_ln : Int) (kT : Int → Int) (kD : Int → Int) (kP : Int → Int) (kR : Int → Int) (kC : Int → Int) (kW : Int → Int) (kA : Int → Int) (kH : Int → Int) (kU : Int → Int) (kB : Int → Int) (kI : Int → Int) (kN : Int → Int) (kM : Int → Int) (kY : Int → Int) (kK : Int → Int) (kL : Int → Int) (kE : Int → Int) (kS : Int → Int) (t9 : Int) : Option Value → va_W → Prop := fun v w => ∃ (q : Int), ∃ (gD : Int → Int), ∃ (gT : Int → Int), ((q = 1 ∧ (1 ≤ t9 ∧ t9 ≤ 4) ∧ eqR gT (mDates t9) 47) ∨ (q = 0 ∧ ¬ (1 ≤ t9 ∧ t9 ≤ 4) ∧ eqR gT kT 47)) ∧ v = some (Value.int (iI q)) ∧ w = wMod z mh xT xD xP xR xC xW xA xH xU xB xI xN xM xY xK xL xE xS 0 m_ca m_tp m_fa m_at m_wr m_va m_pl m_st m_lo m_bl m_bc m_fo m_yl m_yw m_nu m_nl m_lu m_ll m_ln gT gD kP kR kC kW kA kH kU kB kI kN kM kY kK kL kE kS
abbrev rm_X10_dates : Room := { frames := 2, cells := 0, slots := 0, locals := 62 }
set_option maxHeartbeats 4000000 in
set_option maxRecDepth 100000 in
theorem cc_X10_dates (l : Launch) (z : zC) (mh : Nat) (xT : Nat) (xD : Nat) (xP : Nat) (xR : Nat) (xC : Nat) (xW : Nat) (xA : Nat) (xH : Nat) (xU : Nat) (xB : Nat) (xI : Nat) (xN : Nat) (xM : Nat) (xY : Nat) (xK : Nat) (xL : Nat) (xE : Nat) (xS : Nat) (m_ra : Int) (m_ca : Int) (m_tp : Int) (m_fa : Int) (m_at : Int) (m_wr : Int) (m_va : Int) (m_pl : Int) (m_st : Int) (m_lo : Int) (m_bl : Int) (m_bc : Int) (m_fo : Int) (m_yl : Int) (m_yw : Int) (m_nu : Int) (m_nl : Int) (m_lu : Int) (m_ll : Int) (m_ln : Int) (kT : Int → Int) (kD : Int → Int) (kP : Int → Int) (kR : Int → Int) (kC : Int → Int) (kW : Int → Int) (kA : Int → Int) (kH : Int → Int) (kU : Int → Int) (kB : Int → Int) (kI : Int → Int) (kN : Int → Int) (kM : Int → Int) (kY : Int → Int) (kK : Int → Int) (kL : Int → Int) (kE : Int → Int) (kS : Int → Int) (t9 : Int) (ht9 : -2147483648 ≤ t9 ∧ t9 < 2147483648) : zzMet l yX10_dates cX10_dates 2 (Option.some .boolean) rm_X10_dates z [.ref mh, .int (iI t9)] (wMod z mh xT xD xP xR xC xW xA xH xU xB xI xN xM xY xK xL xE xS m_ra m_ca m_tp m_fa m_at m_wr m_va m_pl m_st m_lo m_bl m_bc m_fo m_yl m_yw m_nu m_nl m_lu m_ll m_ln kT kD kP kR kC kW kA kH kU kB kI kN kM kY kK kL kE kS) (po_X10_dates z mh xT xD xP xR xC xW xA xH xU xB xI xN xM xY xK xL xE xS m_ra m_ca m_tp m_fa m_at m_wr m_va m_pl m_st m_lo m_bl m_bc m_fo m_yl m_yw m_nu m_nl m_lu m_ll m_ln kT kD kP kR kC kW kA kH kU kB kI kN kM kY kK kL kE kS t9) := by
  refine zzMet.of (own := RX10) (ls0 := [(0, .ref mh), (1, .int (iI t9))]) (by decide) rfl (Nat.le_of_ble_eq_true rfl) rfl ?_
  intro p e s m below meth c A C hr hnm
  refine zz_aload_n C 0 dX10_dates_0 rfl rfl ?_
  refine zz_iconst C dX10_dates_1 ?_
  refine zz_put (ty := .int) (ws' := wMod z mh xT xD xP xR xC xW xA xH xU xB xI xN xM xY xK xL xE xS 0 m_ca m_tp m_fa m_at m_wr m_va m_pl m_st m_lo m_bl m_bc m_fo m_yl m_yw m_nu m_nl m_lu m_ll m_ln kT kD kP kR kC kW kA kH kU kB kI kN kM kY kK kL kE kS) C 0 (ci := 10) (k := 0) rfl rfl in_X10 tyX10 tyX10_ok nmX10 (by decide) qw_926 rfl rfl (by decide +kernel) rfl rfl (Nat.le_of_ble_eq_true rfl) rfl dX10_dates_2 ?_
  refine zz_iload_n C 1 dX10_dates_5 rfl rfl ?_
  refine zz_iconst C dX10_dates_6 ?_
  refine zz_iconst C dX10_dates_7 ?_
  refine zz_callS (wr := wMod z mh xT xD xP xR xC xW xA xH xU xB xI xN xM xY xK xL xE xS 0 m_ca m_tp m_fa m_at m_wr m_va m_pl m_st m_lo m_bl m_bc m_fo m_yl m_yw m_nu m_nl m_lu m_ll m_ln kT kD kP kR kC kW kA kH kU kB kI kN kM kY kK kL kE kS) (st := []) C (cc_X10_in l z t9 1 4 (by omega) (by omega) (by omega)) yk_X10_in qw_1049 ⟨by decide, by decide⟩ [] [0, 1, 2, 3, 4, 5, 6, 7, 8, 9, 10, 11, 12, 13, 14, 15, 16, 17, 18] rfl rfl rfl rfl (by decide) rfl rfl (Nat.le_of_ble_eq_true rfl) dX10_dates_8 ⟨by decide, by decide⟩ ?_
  rintro _ _ ⟨q_8, hq_8, rfl, rfl⟩
  refine zz_st (st' := [.int (iI q_8)]) rfl (zz_ws (ws' := wMod z mh xT xD xP xR xC xW xA xH xU xB xI xN xM xY xK xL xE xS 0 m_ca m_tp m_fa m_at m_wr m_va m_pl m_st m_lo m_bl m_bc m_fo m_yl m_yw m_nu m_nl m_lu m_ll m_ln kT kD kP kR kC kW kA kH kU kB kI kN kM kY kK kL kE kS) rfl ?_)
  refine zz_if_ne (tgt := 16) C dX10_dates_11 (by decide) (by unfold rI; omega) (fun c11 => ?_) (fun c11 => ?_)
  · skip
    refine zz_aload_n C 0 dX10_dates_16 rfl rfl ?_
    refine zz_iload_n C 1 dX10_dates_17 rfl rfl ?_
    refine zz_callV (wr := ([] : va_W)) (st := []) C (cc_X10_laysDates l z mh xT xD xP xR xC xW xA xH xU xB xI xN xM xY xK xL xE xS 0 m_ca m_tp m_fa m_at m_wr m_va m_pl m_st m_lo m_bl m_bc m_fo m_yl m_yw m_nu m_nl m_lu m_ll m_ln kT kD kP kR kC kW kA kH kU kB kI kN kM kY kK kL kE kS t9 ) yk_X10_laysDates qw_1052 ⟨by decide, by decide⟩ [0, 1, 2, 3, 4, 5, 6, 7, 8, 9, 10, 11, 12, 13, 14, 15, 16, 17, 18] [] rfl rfl rfl rfl (by decide) 0 10 rfl rfl rfl rfl (Nat.le_of_ble_eq_true rfl) dX10_dates_18 ⟨by decide, by decide⟩ ?_
    rintro _ _ ⟨gD_18, hgD_18, rfl, rfl⟩
    refine zz_st (st' := []) rfl (zz_ws (ws' := wMod z mh xT xD xP xR xC xW xA xH xU xB xI xN xM xY xK xL xE xS 0 m_ca m_tp m_fa m_at m_wr m_va m_pl m_st m_lo m_bl m_bc m_fo m_yl m_yw m_nu m_nl m_lu m_ll m_ln kT gD_18 kP kR kC kW kA kH kU kB kI kN kM kY kK kL kE kS) rfl ?_)
    refine zz_aload_n C 0 dX10_dates_21 rfl rfl ?_
    refine zz_iconst C dX10_dates_22 ?_
    refine zz_callV (wr := ([] : va_W)) (st := []) C (cc_X10_takes_1 l z mh xT xD xP xR xC xW xA xH xU xB xI xN xM xY xK xL xE xS 0 m_ca m_tp m_fa m_at m_wr m_va m_pl m_st m_lo m_bl m_bc m_fo m_yl m_yw m_nu m_nl m_lu m_ll m_ln kT gD_18 kP kR kC kW kA kH kU kB kI kN kM kY kK kL kE kS ) yk_X10_takes qw_1056 ⟨by decide, by decide⟩ [0, 1, 2, 3, 4, 5, 6, 7, 8, 9, 10, 11, 12, 13, 14, 15, 16, 17, 18] [] rfl rfl rfl rfl (by decide) 0 10 rfl rfl rfl rfl (Nat.le_of_ble_eq_true rfl) dX10_dates_23 ⟨by decide, by decide⟩ ?_
    rintro _ _ ⟨gT_23, hgT_23, rfl, rfl⟩
    refine zz_st (st' := [.int (iI 1)]) rfl (zz_ws (ws' := wMod z mh xT xD xP xR xC xW xA xH xU xB xI xN xM xY xK xL xE xS 0 m_ca m_tp m_fa m_at m_wr m_va m_pl m_st m_lo m_bl m_bc m_fo m_yl m_yw m_nu m_nl m_lu m_ll m_ln gT_23 gD_18 kP kR kC kW kA kH kU kB kI kN kM kY kK kL kE kS) rfl ?_)
    exact zz_zret C hr (by decide +kernel) dX10_dates_26 ⟨1, _, _, Or.inl ⟨rfl, by omega, fun i h0 h1 => by rw [hgT_23 i h0 h1]; exact hgD_18 i h0 h1⟩, rfl, rfl⟩
  · skip
    refine zz_iconst C dX10_dates_14 ?_
    exact zz_zret C hr (by decide +kernel) dX10_dates_15 ⟨0, _, _, Or.inr ⟨rfl, by omega, fun i h0 h1 => rfl⟩, rfl, rfl⟩
abbrev po_X10_cash (z : zC) (mh : Nat) (xT : Nat) (xD : Nat) (xP : Nat) (xR : Nat) (xC : Nat) (xW : Nat) (xA : Nat) (xH : Nat) (xU : Nat) (xB : Nat) (xI : Nat) (xN : Nat) (xM : Nat) (xY : Nat) (xK : Nat) (xL : Nat) (xE : Nat) (xS : Nat) (m_ra : Int) (m_ca : Int) (m_tp : Int) (m_fa : Int) (m_at : Int) (m_wr : Int) (m_va : Int) (m_pl : Int) (m_st : Int) (m_lo : Int) (m_bl : Int) (m_bc : Int) (m_fo : Int) (m_yl : Int) (m_yw : Int) (m_nu : Int) (m_nl : Int) (m_lu : Int) (m_ll : Int) (m_ln : Int) (kT : Int → Int) (kD : Int → Int) (kP : Int → Int) (kR : Int → Int) (kC : Int → Int) (kW : Int → Int) (kA : Int → Int) (kH : Int → Int) (kU : Int → Int) (kB : Int → Int) (kI : Int → Int) (kN : Int → Int) (kM : Int → Int) (kY : Int → Int) (kK : Int → Int) (kL : Int → Int) (kE : Int → Int) (kS : Int → Int) (c9 : Int) : Option Value → va_W → Prop := fun v w => ∃ (q : Int), ∃ (gc : Int), ((q = 1 ∧ (0 ≤ c9 ∧ c9 ≤ 9999) ∧ gc = c9) ∨ (q = 0 ∧ ¬ (0 ≤ c9 ∧ c9 ≤ 9999) ∧ gc = m_ca)) ∧ v = some (Value.int (iI q)) ∧ w = wMod z mh xT xD xP xR xC xW xA xH xU xB xI xN xM xY xK xL xE xS 0 gc m_tp m_fa m_at m_wr m_va m_pl m_st m_lo m_bl m_bc m_fo m_yl m_yw m_nu m_nl m_lu m_ll m_ln kT kD kP kR kC kW kA kH kU kB kI kN kM kY kK kL kE kS
abbrev rm_X10_cash : Room := { frames := 2, cells := 0, slots := 0, locals := 62 }
set_option maxHeartbeats 4000000 in
set_option maxRecDepth 100000 in
theorem cc_X10_cash (l : Launch) (z : zC) (mh : Nat) (xT : Nat) (xD : Nat) (xP : Nat) (xR : Nat) (xC : Nat) (xW : Nat) (xA : Nat) (xH : Nat) (xU : Nat) (xB : Nat) (xI : Nat) (xN : Nat) (xM : Nat) (xY : Nat) (xK : Nat) (xL : Nat) (xE : Nat) (xS : Nat) (m_ra : Int) (m_ca : Int) (m_tp : Int) (m_fa : Int) (m_at : Int) (m_wr : Int) (m_va : Int) (m_pl : Int) (m_st : Int) (m_lo : Int) (m_bl : Int) (m_bc : Int) (m_fo : Int) (m_yl : Int) (m_yw : Int) (m_nu : Int) (m_nl : Int) (m_lu : Int) (m_ll : Int) (m_ln : Int) (kT : Int → Int) (kD : Int → Int) (kP : Int → Int) (kR : Int → Int) (kC : Int → Int) (kW : Int → Int) (kA : Int → Int) (kH : Int → Int) (kU : Int → Int) (kB : Int → Int) (kI : Int → Int) (kN : Int → Int) (kM : Int → Int) (kY : Int → Int) (kK : Int → Int) (kL : Int → Int) (kE : Int → Int) (kS : Int → Int) (c9 : Int) (hc9 : -2147483648 ≤ c9 ∧ c9 < 2147483648) : zzMet l yX10_cash cX10_cash 2 (Option.some .boolean) rm_X10_cash z [.ref mh, .int (iI c9)] (wMod z mh xT xD xP xR xC xW xA xH xU xB xI xN xM xY xK xL xE xS m_ra m_ca m_tp m_fa m_at m_wr m_va m_pl m_st m_lo m_bl m_bc m_fo m_yl m_yw m_nu m_nl m_lu m_ll m_ln kT kD kP kR kC kW kA kH kU kB kI kN kM kY kK kL kE kS) (po_X10_cash z mh xT xD xP xR xC xW xA xH xU xB xI xN xM xY xK xL xE xS m_ra m_ca m_tp m_fa m_at m_wr m_va m_pl m_st m_lo m_bl m_bc m_fo m_yl m_yw m_nu m_nl m_lu m_ll m_ln kT kD kP kR kC kW kA kH kU kB kI kN kM kY kK kL kE kS c9) := by
  refine zzMet.of (own := RX10) (ls0 := [(0, .ref mh), (1, .int (iI c9))]) (by decide) rfl (Nat.le_of_ble_eq_true rfl) rfl ?_
  intro p e s m below meth c A C hr hnm
  refine zz_aload_n C 0 dX10_cash_0 rfl rfl ?_
  refine zz_iconst C dX10_cash_1 ?_
  refine zz_put (ty := .int) (ws' := wMod z mh xT xD xP xR xC xW xA xH xU xB xI xN xM xY xK xL xE xS 0 m_ca m_tp m_fa m_at m_wr m_va m_pl m_st m_lo m_bl m_bc m_fo m_yl m_yw m_nu m_nl m_lu m_ll m_ln kT kD kP kR kC kW kA kH kU kB kI kN kM kY kK kL kE kS) C 0 (ci := 10) (k := 0) rfl rfl in_X10 tyX10 tyX10_ok nmX10 (by decide) qw_926 rfl rfl (by decide +kernel) rfl rfl (Nat.le_of_ble_eq_true rfl) rfl dX10_cash_2 ?_
  refine zz_iload_n C 1 dX10_cash_5 rfl rfl ?_
  refine zz_iconst C dX10_cash_6 ?_
  refine zz_sipush C dX10_cash_7 (by decide +kernel) ?_
  refine zz_callS (wr := wMod z mh xT xD xP xR xC xW xA xH xU xB xI xN xM xY xK xL xE xS 0 m_ca m_tp m_fa m_at m_wr m_va m_pl m_st m_lo m_bl m_bc m_fo m_yl m_yw m_nu m_nl m_lu m_ll m_ln kT kD kP kR kC kW kA kH kU kB kI kN kM kY kK kL kE kS) (st := []) C (cc_X10_in l z c9 0 9999 (by omega) (by omega) (by omega)) yk_X10_in qw_1049 ⟨by decide, by decide⟩ [] [0, 1, 2, 3, 4, 5, 6, 7, 8, 9, 10, 11, 12, 13, 14, 15, 16, 17, 18] rfl rfl rfl rfl (by decide) rfl rfl (Nat.le_of_ble_eq_true rfl) dX10_cash_10 ⟨by decide, by decide⟩ ?_
  rintro _ _ ⟨q_10, hq_10, rfl, rfl⟩
  refine zz_st (st' := [.int (iI q_10)]) rfl (zz_ws (ws' := wMod z mh xT xD xP xR xC xW xA xH xU xB xI xN xM xY xK xL xE xS 0 m_ca m_tp m_fa m_at m_wr m_va m_pl m_st m_lo m_bl m_bc m_fo m_yl m_yw m_nu m_nl m_lu m_ll m_ln kT kD kP kR kC kW kA kH kU kB kI kN kM kY kK kL kE kS) rfl ?_)
  refine zz_if_ne (tgt := 18) C dX10_cash_13 (by decide) (by unfold rI; omega) (fun c13 => ?_) (fun c13 => ?_)
  · skip
    refine zz_aload_n C 0 dX10_cash_18 rfl rfl ?_
    refine zz_iload_n C 1 dX10_cash_19 rfl rfl ?_
    refine zz_put (ty := .int) (ws' := wMod z mh xT xD xP xR xC xW xA xH xU xB xI xN xM xY xK xL xE xS 0 c9 m_tp m_fa m_at m_wr m_va m_pl m_st m_lo m_bl m_bc m_fo m_yl m_yw m_nu m_nl m_lu m_ll m_ln kT kD kP kR kC kW kA kH kU kB kI kN kM kY kK kL kE kS) C 0 (ci := 10) (k := 3) rfl rfl in_X10 tyX10 tyX10_ok nmX10 (by decide) qw_929 rfl rfl (by decide +kernel) rfl rfl (Nat.le_of_ble_eq_true rfl) rfl dX10_cash_20 ?_
    refine zz_iconst C dX10_cash_23 ?_
    exact zz_zret C hr (by decide +kernel) dX10_cash_24 ⟨1, _, Or.inl ⟨rfl, by omega, rfl⟩, rfl, rfl⟩
  · skip
    refine zz_iconst C dX10_cash_16 ?_
    exact zz_zret C hr (by decide +kernel) dX10_cash_17 ⟨0, _, Or.inr ⟨rfl, by omega, rfl⟩, rfl, rfl⟩
abbrev po_X10_bond (z : zC) (mh : Nat) (xT : Nat) (xD : Nat) (xP : Nat) (xR : Nat) (xC : Nat) (xW : Nat) (xA : Nat) (xH : Nat) (xU : Nat) (xB : Nat) (xI : Nat) (xN : Nat) (xM : Nat) (xY : Nat) (xK : Nat) (xL : Nat) (xE : Nat) (xS : Nat) (m_ra : Int) (m_ca : Int) (m_tp : Int) (m_fa : Int) (m_at : Int) (m_wr : Int) (m_va : Int) (m_pl : Int) (m_st : Int) (m_lo : Int) (m_bl : Int) (m_bc : Int) (m_fo : Int) (m_yl : Int) (m_yw : Int) (m_nu : Int) (m_nl : Int) (m_lu : Int) (m_ll : Int) (m_ln : Int) (kT : Int → Int) (kD : Int → Int) (kP : Int → Int) (kR : Int → Int) (kC : Int → Int) (kW : Int → Int) (kA : Int → Int) (kH : Int → Int) (kU : Int → Int) (kB : Int → Int) (kI : Int → Int) (kN : Int → Int) (kM : Int → Int) (kY : Int → Int) (kK : Int → Int) (kL : Int → Int) (kE : Int → Int) (kS : Int → Int) (v1 : Int) (v2 : Int) (v3 : Int) (v4 : Int) : Option Value → va_W → Prop := fun v w => ∃ (q : Int), ∃ (gD : Int → Int), ∃ (gT : Int → Int), ((¬ ((0 ≤ v1 ∧ v1 ≤ 20) ∧ (1 ≤ v2 ∧ v2 ≤ 40) ∧ (1 ≤ v3 ∧ v3 ≤ kT 0) ∧ (1 ≤ v4 ∧ v4 ≤ 200)) ∧ q = -1 ∧ eqR gT kT 47) ∨ (((0 ≤ v1 ∧ v1 ≤ 20) ∧ (1 ≤ v2 ∧ v2 ≤ 40) ∧ (1 ≤ v3 ∧ v3 ≤ kT 0) ∧ (1 ≤ v4 ∧ v4 ≤ 200)) ∧ kT 1 = 5 ∧ q = -2 ∧ eqR gT kT 47) ∨ (((0 ≤ v1 ∧ v1 ≤ 20) ∧ (1 ≤ v2 ∧ v2 ≤ 40) ∧ (1 ≤ v3 ∧ v3 ≤ kT 0) ∧ (1 ≤ v4 ∧ v4 ≤ 200)) ∧ kT 1 < 5 ∧ q = kT 1 ∧ eqR gT (mLaid kT v1 v2 v3 v4) 47)) ∧ v = some (Value.int (iI q)) ∧ w = wMod z mh xT xD xP xR xC xW xA xH xU xB xI xN xM xY xK xL xE xS 0 m_ca m_tp m_fa m_at m_wr m_va m_pl m_st m_lo m_bl m_bc m_fo m_yl m_yw m_nu m_nl m_lu m_ll m_ln gT gD kP kR kC kW kA kH kU kB kI kN kM kY kK kL kE kS
abbrev rm_X10_bond : Room := { frames := 3, cells := 0, slots := 0, locals := 83 }
set_option maxHeartbeats 4000000 in
set_option maxRecDepth 100000 in
theorem cc_X10_bond (l : Launch) (z : zC) (mh : Nat) (xT : Nat) (xD : Nat) (xP : Nat) (xR : Nat) (xC : Nat) (xW : Nat) (xA : Nat) (xH : Nat) (xU : Nat) (xB : Nat) (xI : Nat) (xN : Nat) (xM : Nat) (xY : Nat) (xK : Nat) (xL : Nat) (xE : Nat) (xS : Nat) (m_ra : Int) (m_ca : Int) (m_tp : Int) (m_fa : Int) (m_at : Int) (m_wr : Int) (m_va : Int) (m_pl : Int) (m_st : Int) (m_lo : Int) (m_bl : Int) (m_bc : Int) (m_fo : Int) (m_yl : Int) (m_yw : Int) (m_nu : Int) (m_nl : Int) (m_lu : Int) (m_ll : Int) (m_ln : Int) (kT : Int → Int) (kD : Int → Int) (kP : Int → Int) (kR : Int → Int) (kC : Int → Int) (kW : Int → Int) (kA : Int → Int) (kH : Int → Int) (kU : Int → Int) (kB : Int → Int) (kI : Int → Int) (kN : Int → Int) (kM : Int → Int) (kY : Int → Int) (kK : Int → Int) (kL : Int → Int) (kE : Int → Int) (kS : Int → Int) (v1 : Int) (v2 : Int) (v3 : Int) (v4 : Int) (hkT : mOk kT) (hv1 : -2147483648 ≤ v1 ∧ v1 < 2147483648) (hv2 : -2147483648 ≤ v2 ∧ v2 < 2147483648) (hv3 : -2147483648 ≤ v3 ∧ v3 < 2147483648) (hv4 : -2147483648 ≤ v4 ∧ v4 < 2147483648) : zzMet l yX10_bond cX10_bond 5 (Option.some .int) rm_X10_bond z [.ref mh, .int (iI v1), .int (iI v2), .int (iI v3), .int (iI v4)] (wMod z mh xT xD xP xR xC xW xA xH xU xB xI xN xM xY xK xL xE xS m_ra m_ca m_tp m_fa m_at m_wr m_va m_pl m_st m_lo m_bl m_bc m_fo m_yl m_yw m_nu m_nl m_lu m_ll m_ln kT kD kP kR kC kW kA kH kU kB kI kN kM kY kK kL kE kS) (po_X10_bond z mh xT xD xP xR xC xW xA xH xU xB xI xN xM xY xK xL xE xS m_ra m_ca m_tp m_fa m_at m_wr m_va m_pl m_st m_lo m_bl m_bc m_fo m_yl m_yw m_nu m_nl m_lu m_ll m_ln kT kD kP kR kC kW kA kH kU kB kI kN kM kY kK kL kE kS v1 v2 v3 v4) := by
  refine zzMet.of (own := RX10) (ls0 := [(0, .ref mh), (1, .int (iI v1)), (2, .int (iI v2)), (3, .int (iI v3)), (4, .int (iI v4))]) (by decide) rfl (Nat.le_of_ble_eq_true rfl) rfl ?_
  intro p e s m below meth c A C hr hnm
  have hk0 := hkT.1
  have hk1 := hkT.2.1
  refine zz_aload_n C 0 dX10_bond_0 rfl rfl ?_
  refine zz_iconst C dX10_bond_1 ?_
  refine zz_put (ty := .int) (ws' := wMod z mh xT xD xP xR xC xW xA xH xU xB xI xN xM xY xK xL xE xS 0 m_ca m_tp m_fa m_at m_wr m_va m_pl m_st m_lo m_bl m_bc m_fo m_yl m_yw m_nu m_nl m_lu m_ll m_ln kT kD kP kR kC kW kA kH kU kB kI kN kM kY kK kL kE kS) C 0 (ci := 10) (k := 0) rfl rfl in_X10 tyX10 tyX10_ok nmX10 (by decide) qw_926 rfl rfl (by decide +kernel) rfl rfl (Nat.le_of_ble_eq_true rfl) rfl dX10_bond_2 ?_
  refine zz_aload_n C 0 dX10_bond_5 rfl rfl ?_
  refine zz_callV (wr := ([] : va_W)) (st := []) C (cc_X10_drafts l z mh xT xD xP xR xC xW xA xH xU xB xI xN xM xY xK xL xE xS 0 m_ca m_tp m_fa m_at m_wr m_va m_pl m_st m_lo m_bl m_bc m_fo m_yl m_yw m_nu m_nl m_lu m_ll m_ln kT kD kP kR kC kW kA kH kU kB kI kN kM kY kK kL kE kS ) yk_X10_drafts qw_1064 ⟨by decide, by decide⟩ [0, 1, 2, 3, 4, 5, 6, 7, 8, 9, 10, 11, 12, 13, 14, 15, 16, 17, 18] [] rfl rfl rfl rfl (by decide) 0 10 rfl rfl rfl rfl (Nat.le_of_ble_eq_true rfl) dX10_bond_6 ⟨by decide, by decide⟩ ?_
  rintro _ _ ⟨gD_6, hgD_6, rfl, rfl⟩
  refine zz_st (st' := []) rfl (zz_ws (ws' := wMod z mh xT xD xP xR xC xW xA xH xU xB xI xN xM xY xK xL xE xS 0 m_ca m_tp m_fa m_at m_wr m_va m_pl m_st m_lo m_bl m_bc m_fo m_yl m_yw m_nu m_nl m_lu m_ll m_ln kT gD_6 kP kR kC kW kA kH kU kB kI kN kM kY kK kL kE kS) rfl ?_)
  have hd0 := hgD_6 0 (by omega) (by omega)
  have hd1 := hgD_6 1 (by omega) (by omega)
  refine zz_iload_n C 1 dX10_bond_9 rfl rfl ?_
  refine zz_iconst C dX10_bond_10 ?_
  refine zz_bipush C dX10_bond_11 (by decide +kernel) ?_
  refine zz_callS (wr := wMod z mh xT xD xP xR xC xW xA xH xU xB xI xN xM xY xK xL xE xS 0 m_ca m_tp m_fa m_at m_wr m_va m_pl m_st m_lo m_bl m_bc m_fo m_yl m_yw m_nu m_nl m_lu m_ll m_ln kT gD_6 kP kR kC kW kA kH kU kB kI kN kM kY kK kL kE kS) (st := []) C (cc_X10_in l z v1 0 20 (by omega) (by omega) (by omega)) yk_X10_in qw_1049 ⟨by decide, by decide⟩ [] [0, 1, 2, 3, 4, 5, 6, 7, 8, 9, 10, 11, 12, 13, 14, 15, 16, 17, 18] rfl rfl rfl rfl (by decide) rfl rfl (Nat.le_of_ble_eq_true rfl) dX10_bond_13 ⟨by decide, by decide⟩ ?_
  rintro _ _ ⟨q_13, hq_13, rfl, rfl⟩
  refine zz_st (st' := [.int (iI q_13)]) rfl (zz_ws (ws' := wMod z mh xT xD xP xR xC xW xA xH xU xB xI xN xM xY xK xL xE xS 0 m_ca m_tp m_fa m_at m_wr m_va m_pl m_st m_lo m_bl m_bc m_fo m_yl m_yw m_nu m_nl m_lu m_ll m_ln kT gD_6 kP kR kC kW kA kH kU kB kI kN kM kY kK kL kE kS) rfl ?_)
  refine zz_if_eq (tgt := 49) C dX10_bond_16 (by decide) (by unfold rI; omega) (fun c16 => ?_) (fun c16 => ?_)
  · skip
    refine zz_iconst C dX10_bond_49 ?_
    exact zz_iret C hr dX10_bond_50 ⟨-1, _, _, Or.inl ⟨by omega, rfl, fun i h0 h1 => rfl⟩, rfl, rfl⟩
  · skip
    refine zz_iload_n C 2 dX10_bond_19 rfl rfl ?_
    refine zz_iconst C dX10_bond_20 ?_
    refine zz_bipush C dX10_bond_21 (by decide +kernel) ?_
    refine zz_callS (wr := wMod z mh xT xD xP xR xC xW xA xH xU xB xI xN xM xY xK xL xE xS 0 m_ca m_tp m_fa m_at m_wr m_va m_pl m_st m_lo m_bl m_bc m_fo m_yl m_yw m_nu m_nl m_lu m_ll m_ln kT gD_6 kP kR kC kW kA kH kU kB kI kN kM kY kK kL kE kS) (st := []) C (cc_X10_in l z v2 1 40 (by omega) (by omega) (by omega)) yk_X10_in qw_1049 ⟨by decide, by decide⟩ [] [0, 1, 2, 3, 4, 5, 6, 7, 8, 9, 10, 11, 12, 13, 14, 15, 16, 17, 18] rfl rfl rfl rfl (by decide) rfl rfl (Nat.le_of_ble_eq_true rfl) dX10_bond_23 ⟨by decide, by decide⟩ ?_
    rintro _ _ ⟨q_23, hq_23, rfl, rfl⟩
    refine zz_st (st' := [.int (iI q_23)]) rfl (zz_ws (ws' := wMod z mh xT xD xP xR xC xW xA xH xU xB xI xN xM xY xK xL xE xS 0 m_ca m_tp m_fa m_at m_wr m_va m_pl m_st m_lo m_bl m_bc m_fo m_yl m_yw m_nu m_nl m_lu m_ll m_ln kT gD_6 kP kR kC kW kA kH kU kB kI kN kM kY kK kL kE kS) rfl ?_)
    refine zz_if_eq (tgt := 49) C dX10_bond_26 (by decide) (by unfold rI; omega) (fun c26 => ?_) (fun c26 => ?_)
    · skip
      refine zz_iconst C dX10_bond_49 ?_
      exact zz_iret C hr dX10_bond_50 ⟨-1, _, _, Or.inl ⟨by omega, rfl, fun i h0 h1 => rfl⟩, rfl, rfl⟩
    · skip
      refine zz_aload_n C 0 dX10_bond_29 rfl rfl ?_
      refine zz_iload_n C 3 dX10_bond_30 rfl rfl ?_
      refine zz_callV (wr := ([] : va_W)) (st := []) C (cc_X10_isDate l z mh xT xD xP xR xC xW xA xH xU xB xI xN xM xY xK xL xE xS 0 m_ca m_tp m_fa m_at m_wr m_va m_pl m_st m_lo m_bl m_bc m_fo m_yl m_yw m_nu m_nl m_lu m_ll m_ln kT gD_6 kP kR kC kW kA kH kU kB kI kN kM kY kK kL kE kS v3 (by omega) (by omega)) yk_X10_isDate qw_1068 ⟨by decide, by decide⟩ [0, 1, 2, 3, 4, 5, 6, 7, 8, 9, 10, 11, 12, 13, 14, 15, 16, 17, 18] [] rfl rfl rfl rfl (by decide) 0 10 rfl rfl rfl rfl (Nat.le_of_ble_eq_true rfl) dX10_bond_31 ⟨by decide, by decide⟩ ?_
      rintro _ _ ⟨q_31, hq_31, rfl, rfl⟩
      refine zz_st (st' := [.int (iI q_31)]) rfl (zz_ws (ws' := wMod z mh xT xD xP xR xC xW xA xH xU xB xI xN xM xY xK xL xE xS 0 m_ca m_tp m_fa m_at m_wr m_va m_pl m_st m_lo m_bl m_bc m_fo m_yl m_yw m_nu m_nl m_lu m_ll m_ln kT gD_6 kP kR kC kW kA kH kU kB kI kN kM kY kK kL kE kS) rfl ?_)
      refine zz_if_eq (tgt := 49) C dX10_bond_34 (by decide) (by unfold rI; omega) (fun c34 => ?_) (fun c34 => ?_)
      · skip
        refine zz_iconst C dX10_bond_49 ?_
        exact zz_iret C hr dX10_bond_50 ⟨-1, _, _, Or.inl ⟨by omega, rfl, fun i h0 h1 => rfl⟩, rfl, rfl⟩
      · skip
        refine zz_iload C 4 dX10_bond_37 rfl ?_
        refine zz_iconst C dX10_bond_39 ?_
        refine zz_sipush C dX10_bond_40 (by decide +kernel) ?_
        refine zz_callS (wr := wMod z mh xT xD xP xR xC xW xA xH xU xB xI xN xM xY xK xL xE xS 0 m_ca m_tp m_fa m_at m_wr m_va m_pl m_st m_lo m_bl m_bc m_fo m_yl m_yw m_nu m_nl m_lu m_ll m_ln kT gD_6 kP kR kC kW kA kH kU kB kI kN kM kY kK kL kE kS) (st := []) C (cc_X10_in l z v4 1 200 (by omega) (by omega) (by omega)) yk_X10_in qw_1049 ⟨by decide, by decide⟩ [] [0, 1, 2, 3, 4, 5, 6, 7, 8, 9, 10, 11, 12, 13, 14, 15, 16, 17, 18] rfl rfl rfl rfl (by decide) rfl rfl (Nat.le_of_ble_eq_true rfl) dX10_bond_43 ⟨by decide, by decide⟩ ?_
        rintro _ _ ⟨q_43, hq_43, rfl, rfl⟩
        refine zz_st (st' := [.int (iI q_43)]) rfl (zz_ws (ws' := wMod z mh xT xD xP xR xC xW xA xH xU xB xI xN xM xY xK xL xE xS 0 m_ca m_tp m_fa m_at m_wr m_va m_pl m_st m_lo m_bl m_bc m_fo m_yl m_yw m_nu m_nl m_lu m_ll m_ln kT gD_6 kP kR kC kW kA kH kU kB kI kN kM kY kK kL kE kS) rfl ?_)
        refine zz_if_ne (tgt := 51) C dX10_bond_46 (by decide) (by unfold rI; omega) (fun c46 => ?_) (fun c46 => ?_)
        · skip
          refine zz_aload_n C 0 dX10_bond_51 rfl rfl ?_
          refine zz_get C 0 (ci := 10) (k := 2) rfl rfl in_X10 (by decide) qw_928 rfl rfl dX10_bond_52 ?_
          refine zz_iconst C dX10_bond_55 ?_
          refine zz_iald C 2 rfl (by omega) (by omega) (by decide) dX10_bond_56 ?_
          refine zz_iconst C dX10_bond_57 ?_
          refine zz_icmp_ne (tgt := 64) C dX10_bond_58 (by decide) (by unfold rI; omega) (by unfold rI; omega) (fun c58 => ?_) (fun c58 => ?_)
          · skip
            refine zz_aload_n C 0 dX10_bond_64 rfl rfl ?_
            refine zz_iload_n C 1 dX10_bond_65 rfl rfl ?_
            refine zz_iload_n C 2 dX10_bond_66 rfl rfl ?_
            refine zz_iload_n C 3 dX10_bond_67 rfl rfl ?_
            refine zz_iload C 4 dX10_bond_68 rfl ?_
            refine zz_callV (wr := ([] : va_W)) (st := []) C (cc_X10_laysBond l z mh xT xD xP xR xC xW xA xH xU xB xI xN xM xY xK xL xE xS 0 m_ca m_tp m_fa m_at m_wr m_va m_pl m_st m_lo m_bl m_bc m_fo m_yl m_yw m_nu m_nl m_lu m_ll m_ln kT gD_6 kP kR kC kW kA kH kU kB kI kN kM kY kK kL kE kS v1 v2 v3 v4 (by omega)) yk_X10_laysBond qw_1084 ⟨by decide, by decide⟩ [0, 1, 2, 3, 4, 5, 6, 7, 8, 9, 10, 11, 12, 13, 14, 15, 16, 17, 18] [] rfl rfl rfl rfl (by decide) 0 10 rfl rfl rfl rfl (Nat.le_of_ble_eq_true rfl) dX10_bond_70 ⟨by decide, by decide⟩ ?_
            rintro _ _ ⟨gD_70, hgD_70, rfl, rfl⟩
            refine zz_st (st' := []) rfl (zz_ws (ws' := wMod z mh xT xD xP xR xC xW xA xH xU xB xI xN xM xY xK xL xE xS 0 m_ca m_tp m_fa m_at m_wr m_va m_pl m_st m_lo m_bl m_bc m_fo m_yl m_yw m_nu m_nl m_lu m_ll m_ln kT gD_70 kP kR kC kW kA kH kU kB kI kN kM kY kK kL kE kS) rfl ?_)
            refine zz_aload_n C 0 dX10_bond_73 rfl rfl ?_
            refine zz_iconst C dX10_bond_74 ?_
            refine zz_callV (wr := ([] : va_W)) (st := []) C (cc_X10_takes_1 l z mh xT xD xP xR xC xW xA xH xU xB xI xN xM xY xK xL xE xS 0 m_ca m_tp m_fa m_at m_wr m_va m_pl m_st m_lo m_bl m_bc m_fo m_yl m_yw m_nu m_nl m_lu m_ll m_ln kT gD_70 kP kR kC kW kA kH kU kB kI kN kM kY kK kL kE kS ) yk_X10_takes qw_1056 ⟨by decide, by decide⟩ [0, 1, 2, 3, 4, 5, 6, 7, 8, 9, 10, 11, 12, 13, 14, 15, 16, 17, 18] [] rfl rfl rfl rfl (by decide) 0 10 rfl rfl rfl rfl (Nat.le_of_ble_eq_true rfl) dX10_bond_75 ⟨by decide, by decide⟩ ?_
            rintro _ _ ⟨gT_75, hgT_75, rfl, rfl⟩
            refine zz_st (st' := [.int (iI 1)]) rfl (zz_ws (ws' := wMod z mh xT xD xP xR xC xW xA xH xU xB xI xN xM xY xK xL xE xS 0 m_ca m_tp m_fa m_at m_wr m_va m_pl m_st m_lo m_bl m_bc m_fo m_yl m_yw m_nu m_nl m_lu m_ll m_ln gT_75 gD_70 kP kR kC kW kA kH kU kB kI kN kM kY kK kL kE kS) rfl ?_)
            have hl75 : eqR gT_75 (mLaid kT v1 v2 v3 v4) 47 := fun i h0 h1 => by rw [hgT_75 i h0 h1, hgD_70]; exact mLaid_congr hgD_6 hd1 i h0 h1
            have hm75 : gT_75 1 = kT 1 + 1 := by rw [hl75 1 (by omega) (by omega)]; unfold mLaid; rw [zup_eq]
            refine zz_pop C dX10_bond_78 rfl ?_
            refine zz_aload_n C 0 dX10_bond_79 rfl rfl ?_
            refine zz_get C 0 (ci := 10) (k := 1) rfl rfl in_X10 (by decide) qw_927 rfl rfl dX10_bond_80 ?_
            refine zz_iconst C dX10_bond_83 ?_
            refine zz_iald C 1 rfl (by omega) (by omega) (by decide) dX10_bond_84 ?_
            refine zz_iconst C dX10_bond_85 ?_
            refine zz_isub C dX10_bond_86 ?_
            exact zz_iret C hr dX10_bond_87 ⟨_, _, _, Or.inr (Or.inr ⟨by omega, by omega, by rw [hm75]; omega, hl75⟩), rfl, rfl⟩
          · skip
            refine zz_bipush C dX10_bond_61 (by decide +kernel) ?_
            exact zz_iret C hr dX10_bond_63 ⟨-2, _, _, Or.inr (Or.inl ⟨by omega, by omega, rfl, fun i h0 h1 => rfl⟩), rfl, rfl⟩
        · skip
          refine zz_iconst C dX10_bond_49 ?_
          exact zz_iret C hr dX10_bond_50 ⟨-1, _, _, Or.inl ⟨by omega, rfl, fun i h0 h1 => rfl⟩, rfl, rfl⟩
