theorem wl_rng {m : Int → Int} (h : ∀ b : Int, 0 ≤ b → b < 5 → 0 ≤ m b ∧ m b ≤ 12) : 0 ≤ wl m ∧ wl m ≤ 371292 := by
  have h0 := h 0 (by omega) (by omega)
  have h1 := h 1 (by omega) (by omega)
  have h2 := h 2 (by omega) (by omega)
  have h3 := h 3 (by omega) (by omega)
  have h4 := h 4 (by omega) (by omega)
  unfold wl
  omega
theorem wl_up {m m' : Int → Int} {b : Int} (h : ∀ b : Int, 0 ≤ b → b < 5 → 0 ≤ m b ∧ m b ≤ 12) (h' : ∀ b : Int, 0 ≤ b → b < 5 → 0 ≤ m' b) (hb : 0 ≤ b ∧ b < 5) (h1 : ∀ c : Int, 0 ≤ c → c < b → m' c = m c) (h2 : m' b = m b + 1) : wl m < wl m' := by
  have a0 := h 0 (by omega) (by omega)
  have a1 := h 1 (by omega) (by omega)
  have a2 := h 2 (by omega) (by omega)
  have a3 := h 3 (by omega) (by omega)
  have a4 := h 4 (by omega) (by omega)
  have b0 := h' 0 (by omega) (by omega)
  have b1 := h' 1 (by omega) (by omega)
  have b2 := h' 2 (by omega) (by omega)
  have b3 := h' 3 (by omega) (by omega)
  have b4 := h' 4 (by omega) (by omega)
  unfold wl
  rcases (show b = 0 ∨ b = 1 ∨ b = 2 ∨ b = 3 ∨ b = 4 by omega) with e | e | e | e | e <;> subst e
  · omega
  · have := h1 0 (by omega) (by omega); omega
  · have := h1 0 (by omega) (by omega); have := h1 1 (by omega) (by omega); omega
  · have := h1 0 (by omega) (by omega); have := h1 1 (by omega) (by omega); have := h1 2 (by omega) (by omega); omega
  · have := h1 0 (by omega) (by omega); have := h1 1 (by omega) (by omega); have := h1 2 (by omega) (by omega); have := h1 3 (by omega) (by omega); omega
theorem wl_me {fu : Nat} {mo a b q : Int} (h : (if mo = 0 then 0 else 371294 - a).toNat < fu + 1) (hmo : ¬ mo = 0) (ha : 0 ≤ a ∧ a ≤ 371292) (hq : q = 1 → a < b ∧ b ≤ 371292) (h01 : q = 0 ∨ q = 1) : (if q = 0 then 0 else 371294 - b).toNat < fu := by
  rw [if_neg hmo] at h
  rcases h01 with e | e
  · rw [if_pos e]; omega
  · rw [if_neg (by omega)]; have := hq e; omega
def mTake (n : Int) (kT C : Int → Int) : Int → Int := fun i => if 42 ≤ i ∧ i < 42 + n then C (i - 42) else kT i
theorem mTake_step {k : Int} {kT C g : Int → Int} (h : ∀ i : Int, g i = mTake k kT C i) (hk : 0 ≤ k) : ∀ i : Int, zup g (42 + k) (C k) i = mTake (k + 1) kT C i := by
  intro i
  unfold mTake
  by_cases e : i = 42 + k
  · rw [e, zup_eq, if_pos (by omega), show 42 + k - 42 = k by omega]
  · rw [zup_ne e, h i]
    unfold mTake
    by_cases q : 42 ≤ i ∧ i < 42 + k
    · rw [if_pos q, if_pos (by omega)]
    · rw [if_neg q, if_neg (by omega)]
abbrev po_X10_triesLot (z : zC) (mh : Nat) (xT : Nat) (xD : Nat) (xP : Nat) (xR : Nat) (xC : Nat) (xW : Nat) (xA : Nat) (xH : Nat) (xU : Nat) (xB : Nat) (xI : Nat) (xN : Nat) (xM : Nat) (xY : Nat) (xK : Nat) (xL : Nat) (xE : Nat) (xS : Nat) (m_ra : Int) (m_ca : Int) (m_tp : Int) (m_fa : Int) (m_at : Int) (m_wr : Int) (m_va : Int) (m_pl : Int) (m_st : Int) (m_lo : Int) (m_bl : Int) (m_bc : Int) (m_fo : Int) (m_yl : Int) (m_yw : Int) (m_nu : Int) (m_nl : Int) (m_lu : Int) (m_ll : Int) (m_ln : Int) (kT : Int → Int) (kD : Int → Int) (kP : Int → Int) (kR : Int → Int) (kC : Int → Int) (kW : Int → Int) (kA : Int → Int) (kH : Int → Int) (kU : Int → Int) (kB : Int → Int) (kI : Int → Int) (kN : Int → Int) (kM : Int → Int) (kY : Int → Int) (kK : Int → Int) (kL : Int → Int) (kE : Int → Int) (kS : Int → Int) : Option Value → va_W → Prop := fun v w => ∃ (gS : Int → Int), ∃ (gu9 : Int), ∃ (gl9 : Int), ∃ (go : Int), ∃ (gu : Int), ∃ (gl : Int), ∃ (gn : Int), ∃ (gE : Int → Int), ((go = 1 ∧ agr (kT 1) gE kL ∧ (m_fo = 0 ∨ mlC kT kL < mlC kT kE)) ∨ (go = m_fo ∧ gE = kE ∧ m_fo = 1 ∧ mlC kT kE ≤ mlC kT kL)) ∧ (mlF kT go gu gl gn gE) ∧ v = none ∧ w = wMod z mh xT xD xP xR xC xW xA xH xU xB xI xN xM xY xK xL xE xS m_ra m_ca m_tp m_fa m_at m_wr m_va m_pl m_st m_lo m_bl m_bc go m_yl m_yw gu9 gl9 gu gl gn kT kD kP kR kC kW kA kH kU kB kI kN kM kY kK kL gE gS
abbrev rm_X10_triesLot : Room := { frames := 3, cells := 0, slots := 0, locals := 108 }
set_option maxHeartbeats 4000000 in
set_option maxRecDepth 100000 in
theorem cc_X10_triesLot (l : Launch) (z : zC) (mh : Nat) (xT : Nat) (xD : Nat) (xP : Nat) (xR : Nat) (xC : Nat) (xW : Nat) (xA : Nat) (xH : Nat) (xU : Nat) (xB : Nat) (xI : Nat) (xN : Nat) (xM : Nat) (xY : Nat) (xK : Nat) (xL : Nat) (xE : Nat) (xS : Nat) (m_ra : Int) (m_ca : Int) (m_tp : Int) (m_fa : Int) (m_at : Int) (m_wr : Int) (m_va : Int) (m_pl : Int) (m_st : Int) (m_lo : Int) (m_bl : Int) (m_bc : Int) (m_fo : Int) (m_yl : Int) (m_yw : Int) (m_nu : Int) (m_nl : Int) (m_lu : Int) (m_ll : Int) (m_ln : Int) (kT : Int → Int) (kD : Int → Int) (kP : Int → Int) (kR : Int → Int) (kC : Int → Int) (kW : Int → Int) (kA : Int → Int) (kH : Int → Int) (kU : Int → Int) (kB : Int → Int) (kI : Int → Int) (kN : Int → Int) (kM : Int → Int) (kY : Int → Int) (kK : Int → Int) (kL : Int → Int) (kE : Int → Int) (kS : Int → Int) (hkT : mOk kT) (hk2 : mOk2 kT) (hkL : ∀ b : Int, 0 ≤ b → b < 5 → 0 ≤ kL b ∧ kL b ≤ 12) (hf : mlF kT m_fo m_lu m_ll m_ln kE) : zzMet l yX10_triesLot cX10_triesLot 4 none rm_X10_triesLot z [.ref mh] (wMod z mh xT xD xP xR xC xW xA xH xU xB xI xN xM xY xK xL xE xS m_ra m_ca m_tp m_fa m_at m_wr m_va m_pl m_st m_lo m_bl m_bc m_fo m_yl m_yw m_nu m_nl m_lu m_ll m_ln kT kD kP kR kC kW kA kH kU kB kI kN kM kY kK kL kE kS) (po_X10_triesLot z mh xT xD xP xR xC xW xA xH xU xB xI xN xM xY xK xL xE xS m_ra m_ca m_tp m_fa m_at m_wr m_va m_pl m_st m_lo m_bl m_bc m_fo m_yl m_yw m_nu m_nl m_lu m_ll m_ln kT kD kP kR kC kW kA kH kU kB kI kN kM kY kK kL kE kS) := by
  refine zzMet.of (own := RX10) (ls0 := [(0, .ref mh)]) (by decide) rfl (Nat.le_of_ble_eq_true rfl) rfl ?_
  intro p e s m below meth c A C hr hnm
  have hk0 := hkT.1
  have hk1 := hkT.2.1
  have hkL2 : ∀ b : Int, 0 ≤ b → b < 5 → 0 ≤ kL b ∧ kL b ≤ 200 := fun b h0 h1 => by have := hkL b h0 h1; omega
  have hlS := mlA_pos hkT hk2 (d := kT 0) (by omega) (by omega)
  have hlS2 : 1 ≤ mlS kT := hlS.1
  refine zz_aload_n C 0 dX10_triesLot_0 rfl rfl ?_
  refine zz_aload_n C 0 dX10_triesLot_1 rfl rfl ?_
  refine zz_get C 0 (ci := 10) (k := 30) rfl rfl in_X10 (by decide) qw_956 rfl rfl dX10_triesLot_2 ?_
  refine zz_iconst C dX10_triesLot_5 ?_
  refine zz_iconst C dX10_triesLot_6 ?_
  refine zz_callV (wr := ([] : va_W)) (st := []) C (cc_X10_runs_l l z mh xT xD xP xR xC xW xA xH xU xB xI xN xM xY xK xL xE xS m_ra m_ca m_tp m_fa m_at m_wr m_va m_pl m_st m_lo m_bl m_bc m_fo m_yl m_yw m_nu m_nl m_lu m_ll m_ln kT kD kP kR kC kW kA kH kU kB kI kN kM kY kK kL kE kS (by omega) hkL2) yk_X10_runs qw_1291 ⟨by decide, by decide⟩ [0, 1, 2, 3, 4, 5, 6, 7, 8, 9, 10, 11, 12, 13, 14, 15, 16, 17, 18] [] rfl rfl rfl rfl (by decide) 0 10 rfl rfl rfl rfl (Nat.le_of_ble_eq_true rfl) dX10_triesLot_7 ⟨by decide, by decide⟩ ?_
  rintro _ _ ⟨gS_7, hgS_7, rfl, rfl⟩
  refine zz_st (st' := []) rfl (zz_ws (ws' := wMod z mh xT xD xP xR xC xW xA xH xU xB xI xN xM xY xK xL xE xS m_ra m_ca m_tp m_fa m_at m_wr m_va m_pl m_st m_lo m_bl m_bc m_fo m_yl m_yw m_nu m_nl m_lu m_ll m_ln kT kD kP kR kC kW kA kH kU kB kI kN kM kY kK kL kE gS_7) rfl ?_)
  refine zz_aload_n C 0 dX10_triesLot_10 rfl rfl ?_
  refine zz_iconst C dX10_triesLot_11 ?_
  refine zz_callV (wr := ([] : va_W)) (st := []) C (cc_X10_needs l z mh xT xD xP xR xC xW xA xH xU xB xI xN xM xY xK xL xE xS m_ra m_ca m_tp m_fa m_at m_wr m_va m_pl m_st m_lo m_bl m_bc m_fo m_yl m_yw m_nu m_nl m_lu m_ll m_ln kT kD kP kR kC kW kA kH kU kB kI kN kM kY kK kL kE gS_7 (mBal kT kL 0) 0 (by omega) (by omega) (by omega) hgS_7 (fun j h1 h2 => mBal_rng hkT hk2 hkL2 (by omega) h1 h2)) yk_X10_needs qw_1299 ⟨by decide, by decide⟩ [0, 1, 2, 3, 4, 5, 6, 7, 8, 9, 10, 11, 12, 13, 14, 15, 16, 17, 18] [] rfl rfl rfl rfl (by decide) 0 10 rfl rfl rfl rfl (Nat.le_of_ble_eq_true rfl) dX10_triesLot_12 ⟨by decide, by decide⟩ ?_
  rintro _ _ ⟨qn_12, qd_12, hlk_12, hqd_12, hqn_12, rfl, rfl⟩
  refine zz_st (st' := []) rfl (zz_ws (ws' := wMod z mh xT xD xP xR xC xW xA xH xU xB xI xN xM xY xK xL xE xS m_ra m_ca m_tp m_fa m_at m_wr m_va m_pl m_st m_lo m_bl m_bc m_fo m_yl m_yw qn_12 qd_12 m_lu m_ll m_ln kT kD kP kR kC kW kA kH kU kB kI kN kM kY kK kL kE gS_7) rfl ?_)
  have hnx := need_x hkT hk2 hlk_12
  refine zz_aload_n C 0 dX10_triesLot_15 rfl rfl ?_
  refine zz_get C 0 (ci := 10) (k := 32) rfl rfl in_X10 (by decide) qw_958 rfl rfl dX10_triesLot_16 ?_
  refine zz_lstore_n (ls' := [(1, .long (iL qn_12)), (0, .ref mh)]) C dX10_triesLot_19 rfl (by decide) rfl ?_
  refine zz_iconst C dX10_triesLot_20 ?_
  refine zz_istore_n (ls' := [(3, .int (iI 0)), (1, .long (iL qn_12)), (0, .ref mh)]) C dX10_triesLot_21 rfl (by decide) rfl ?_
  have Lp22 : ∀ (fu9 : Nat) (k : Int) (co : Int), (0 ≤ k ∧ k ≤ kT 1) → (co = qn_12 + zsum (fun b => kL b * kT (27 + b) * qd_12) k) → (0 ≤ co ∧ co ≤ 1300000000000 + 1096742400 * k) → (kT 1 - k).toNat < fu9 → zzW p l e rm_X10_triesLot s m ([.ref mh] : List Value).toArray below meth c z A 4 (MQ below (zQ z A (po_X10_triesLot z mh xT xD xP xR xC xW xA xH xU xB xI xN xM xY xK xL xE xS m_ra m_ca m_tp m_fa m_at m_wr m_va m_pl m_st m_lo m_bl m_bc m_fo m_yl m_yw m_nu m_nl m_lu m_ll m_ln kT kD kP kR kC kW kA kH kU kB kI kN kM kY kK kL kE kS)) ([.ref mh] : List Value).toArray s 0 0 A) 0 0 (wMod z mh xT xD xP xR xC xW xA xH xU xB xI xN xM xY xK xL xE xS m_ra m_ca m_tp m_fa m_at m_wr m_va m_pl m_st m_lo m_bl m_bc m_fo m_yl m_yw qn_12 qd_12 m_lu m_ll m_ln kT kD kP kR kC kW kA kH kU kB kI kN kM kY kK kL kE gS_7) [(0, .ref mh), (1, .long (iL co)), (3, .int (iI k))] [] 22 := by
    intro fu9
    induction fu9 with
    | zero => intro k co hk hco hcr h9; exact absurd h9 (Nat.not_lt_zero _)
    | succ fu9 ih22 =>
      intro k co hk hco hcr hm22
      refine zz_iload_n C 2 dX10_triesLot_22 rfl rfl ?_
      refine zz_aload_n C 0 dX10_triesLot_23 rfl rfl ?_
      refine zz_get C 0 (ci := 10) (k := 1) rfl rfl in_X10 (by decide) qw_927 rfl rfl dX10_triesLot_24 ?_
      refine zz_iconst C dX10_triesLot_27 ?_
      refine zz_iald C 1 rfl (by omega) (by omega) (by decide) dX10_triesLot_28 ?_
      refine zz_icmp_ge (tgt := 64) C dX10_triesLot_29 (by decide) (by unfold rI; omega) (by unfold rI; omega) (fun c29 => ?_) (fun c29 => ?_)
      · skip
        have hkk : k = kT 1 := by omega
        have hcs := cost_l (c := co) hnx (by rw [hkk] at hco; exact hco)
        have h800 := mlN_800 hkT hk2 (m := kL) (fun b h0 h1 => (hkL b h0 (by omega)).1)
        have hl8 := ln_800 hlS2 hnx h800.2 hqd_12.1
        refine zz_aload_n C 0 dX10_triesLot_64 rfl rfl ?_
        refine zz_get C 0 (ci := 10) (k := 22) rfl rfl in_X10 (by decide) qw_948 rfl rfl dX10_triesLot_65 ?_
        refine zz_if_eq (tgt := 90) C dX10_triesLot_68 (by decide) (by rcases hf.1 with h | h <;> (unfold rI; omega)) (fun c68 => ?_) (fun c68 => ?_)
        · skip
          have hd9 : m_fo = 0 ∨ mlC kT kL < mlC kT kE := Or.inl c68
          refine zz_aload_n C 0 dX10_triesLot_90 rfl rfl ?_
          refine zz_iconst C dX10_triesLot_91 ?_
          refine zz_put (ty := .boolean) (ws' := wMod z mh xT xD xP xR xC xW xA xH xU xB xI xN xM xY xK xL xE xS m_ra m_ca m_tp m_fa m_at m_wr m_va m_pl m_st m_lo m_bl m_bc 1 m_yl m_yw qn_12 qd_12 m_lu m_ll m_ln kT kD kP kR kC kW kA kH kU kB kI kN kM kY kK kL kE gS_7) C 0 (ci := 10) (k := 22) rfl rfl in_X10 tyX10 tyX10_ok nmX10 (by decide) qw_948 rfl rfl (by decide +kernel) (by decide +kernel) (by decide +kernel) (Nat.le_of_ble_eq_true rfl) rfl dX10_triesLot_92 ?_
          refine zz_aload_n C 0 dX10_triesLot_95 rfl rfl ?_
          refine zz_lload_n C 1 dX10_triesLot_96 rfl rfl ?_
          refine zz_put (ty := .long) (ws' := wMod z mh xT xD xP xR xC xW xA xH xU xB xI xN xM xY xK xL xE xS m_ra m_ca m_tp m_fa m_at m_wr m_va m_pl m_st m_lo m_bl m_bc 1 m_yl m_yw qn_12 qd_12 co m_ll m_ln kT kD kP kR kC kW kA kH kU kB kI kN kM kY kK kL kE gS_7) C 0 (ci := 10) (k := 35) rfl rfl in_X10 tyX10 tyX10_ok nmX10 (by decide) qw_961 rfl rfl (by decide +kernel) rfl rfl (Nat.le_of_ble_eq_true rfl) rfl dX10_triesLot_97 ?_
          refine zz_aload_n C 0 dX10_triesLot_100 rfl rfl ?_
          refine zz_aload_n C 0 dX10_triesLot_101 rfl rfl ?_
          refine zz_get C 0 (ci := 10) (k := 33) rfl rfl in_X10 (by decide) qw_959 rfl rfl dX10_triesLot_102 ?_
          refine zz_put (ty := .long) (ws' := wMod z mh xT xD xP xR xC xW xA xH xU xB xI xN xM xY xK xL xE xS m_ra m_ca m_tp m_fa m_at m_wr m_va m_pl m_st m_lo m_bl m_bc 1 m_yl m_yw qn_12 qd_12 co qd_12 m_ln kT kD kP kR kC kW kA kH kU kB kI kN kM kY kK kL kE gS_7) C 0 (ci := 10) (k := 36) rfl rfl in_X10 tyX10 tyX10_ok nmX10 (by decide) qw_962 rfl rfl (by decide +kernel) rfl rfl (Nat.le_of_ble_eq_true rfl) rfl dX10_triesLot_105 ?_
          refine zz_aload_n C 0 dX10_triesLot_108 rfl rfl ?_
          refine zz_aload_n C 0 dX10_triesLot_109 rfl rfl ?_
          refine zz_get C 0 (ci := 10) (k := 32) rfl rfl in_X10 (by decide) qw_958 rfl rfl dX10_triesLot_110 ?_
          refine zz_put (ty := .long) (ws' := wMod z mh xT xD xP xR xC xW xA xH xU xB xI xN xM xY xK xL xE xS m_ra m_ca m_tp m_fa m_at m_wr m_va m_pl m_st m_lo m_bl m_bc 1 m_yl m_yw qn_12 qd_12 co qd_12 qn_12 kT kD kP kR kC kW kA kH kU kB kI kN kM kY kK kL kE gS_7) C 0 (ci := 10) (k := 37) rfl rfl in_X10 tyX10 tyX10_ok nmX10 (by decide) qw_963 rfl rfl (by decide +kernel) rfl rfl (Nat.le_of_ble_eq_true rfl) rfl dX10_triesLot_113 ?_
          refine zz_iconst C dX10_triesLot_116 ?_
          refine zz_istore_n (ls' := [(3, .int (iI 0)), (0, .ref mh), (1, .long (iL co))]) C dX10_triesLot_117 rfl (by decide) rfl ?_
          have Lp118 : ∀ (fu9 : Nat) (j : Int) (gE : Int → Int), (0 ≤ j ∧ j ≤ kT 1) → (∀ i : Int, 0 ≤ i → i < j → gE i = kL i) → (kT 1 - j).toNat < fu9 → zzW p l e rm_X10_triesLot s m ([.ref mh] : List Value).toArray below meth c z A 4 (MQ below (zQ z A (po_X10_triesLot z mh xT xD xP xR xC xW xA xH xU xB xI xN xM xY xK xL xE xS m_ra m_ca m_tp m_fa m_at m_wr m_va m_pl m_st m_lo m_bl m_bc m_fo m_yl m_yw m_nu m_nl m_lu m_ll m_ln kT kD kP kR kC kW kA kH kU kB kI kN kM kY kK kL kE kS)) ([.ref mh] : List Value).toArray s 0 0 A) 0 0 (wMod z mh xT xD xP xR xC xW xA xH xU xB xI xN xM xY xK xL xE xS m_ra m_ca m_tp m_fa m_at m_wr m_va m_pl m_st m_lo m_bl m_bc 1 m_yl m_yw qn_12 qd_12 co qd_12 qn_12 kT kD kP kR kC kW kA kH kU kB kI kN kM kY kK kL gE gS_7) [(0, .ref mh), (1, .long (iL co)), (3, .int (iI j))] [] 118 := by
            intro fu9
            induction fu9 with
            | zero => intro j gE hj hE h9; exact absurd h9 (Nat.not_lt_zero _)
            | succ fu9 ih118 =>
              intro j gE hj hE hm118
              refine zz_iload_n C 2 dX10_triesLot_118 rfl rfl ?_
              refine zz_aload_n C 0 dX10_triesLot_119 rfl rfl ?_
              refine zz_get C 0 (ci := 10) (k := 1) rfl rfl in_X10 (by decide) qw_927 rfl rfl dX10_triesLot_120 ?_
              refine zz_iconst C dX10_triesLot_123 ?_
              refine zz_iald C 1 rfl (by omega) (by omega) (by decide) dX10_triesLot_124 ?_
              refine zz_icmp_ge (tgt := 146) C dX10_triesLot_125 (by decide) (by unfold rI; omega) (by unfold rI; omega) (fun c125 => ?_) (fun c125 => ?_)
              · skip
                have hag : agr (kT 1) gE kL := fun i h0 h1 => hE i h0 (by omega)
                have hfin : ((1 : Int) = 1 ∧ agr (kT 1) gE kL ∧ (m_fo = 0 ∨ mlC kT kL < mlC kT kE)) ∨ ((1 : Int) = m_fo ∧ gE = kE ∧ m_fo = 1 ∧ mlC kT kE ≤ mlC kT kL) := Or.inl ⟨rfl, hag, hd9⟩
                have hff : mlF kT 1 co qd_12 qn_12 gE := ⟨Or.inr rfl, fun _ => ⟨by rw [(mlC_agr hag).1]; exact hcs, by rw [(mlC_agr hag).2]; exact hnx, hqd_12, by omega, by omega⟩⟩
                exact zz_vret C hr dX10_triesLot_146 ⟨gS_7, qn_12, qd_12, 1, co, qd_12, qn_12, gE, hfin, hff, rfl, rfl⟩
              · skip
                refine zz_aload_n C 0 dX10_triesLot_128 rfl rfl ?_
                refine zz_get C 0 (ci := 10) (k := 31) rfl rfl in_X10 (by decide) qw_957 rfl rfl dX10_triesLot_129 ?_
                refine zz_iload_n C 2 dX10_triesLot_132 rfl rfl ?_
                refine zz_aload_n C 0 dX10_triesLot_133 rfl rfl ?_
                refine zz_get C 0 (ci := 10) (k := 30) rfl rfl in_X10 (by decide) qw_956 rfl rfl dX10_triesLot_134 ?_
                refine zz_iload_n C 2 dX10_triesLot_137 rfl rfl ?_
                refine zz_iald C 16 rfl (by omega) (by omega) (by decide) dX10_triesLot_138 ?_
                refine zz_iast (ws' := wMod z mh xT xD xP xR xC xW xA xH xU xB xI xN xM xY xK xL xE xS m_ra m_ca m_tp m_fa m_at m_wr m_va m_pl m_st m_lo m_bl m_bc 1 m_yl m_yw qn_12 qd_12 co qd_12 qn_12 kT kD kP kR kC kW kA kH kU kB kI kN kM kY kK kL (zup gE j (kL j)) gS_7) C 17 rfl (by omega) (by omega) (by decide) rfl dX10_triesLot_139 ?_
                refine zz_iinc (ls' := [(3, .int (iI (j + 1))), (0, .ref mh), (1, .long (iL co))]) C 2 dX10_triesLot_140 rfl (by decide) rfl ?_
                refine zz_goto (tgt := 118) C dX10_triesLot_143 (by decide) ?_
                refine zz_loc (ls' := [(0, .ref mh), (1, .long (iL co)), (3, .int (iI (j + 1)))]) [1, 2, 0] rfl ?_
                exact ih118 (j + 1) (zup gE j (kL j)) (by omega) (zup_all (f := kL) hE rfl) (by omega)
          refine zz_loc (ls' := [(0, .ref mh), (1, .long (iL co)), (3, .int (iI 0))]) [1, 2, 0] rfl ?_
          exact Lp118 _ 0 kE (by omega) (fun i h0 h1 => by omega) (Nat.lt_succ_self _)
        · skip
          refine zz_lload_n C 1 dX10_triesLot_71 rfl rfl ?_
          refine zz_aload_n C 0 dX10_triesLot_72 rfl rfl ?_
          refine zz_get C 0 (ci := 10) (k := 33) rfl rfl in_X10 (by decide) qw_959 rfl rfl dX10_triesLot_73 ?_
          obtain ⟨f1, f2, f3, f4, f5⟩ := hf.2 (by rcases hf.1 with h | h; omega; exact h)
          refine zz_aload_n C 0 dX10_triesLot_76 rfl rfl ?_
          refine zz_get C 0 (ci := 10) (k := 35) rfl rfl in_X10 (by decide) qw_961 rfl rfl dX10_triesLot_77 ?_
          refine zz_aload_n C 0 dX10_triesLot_80 rfl rfl ?_
          refine zz_get C 0 (ci := 10) (k := 36) rfl rfl in_X10 (by decide) qw_962 rfl rfl dX10_triesLot_81 ?_
          refine zz_callS (wr := wMod z mh xT xD xP xR xC xW xA xH xU xB xI xN xM xY xK xL xE xS m_ra m_ca m_tp m_fa m_at m_wr m_va m_pl m_st m_lo m_bl m_bc m_fo m_yl m_yw qn_12 qd_12 m_lu m_ll m_ln kT kD kP kR kC kW kA kH kU kB kI kN kM kY kK kL kE gS_7) (st := []) C (cc_X10_compares l z co qd_12 m_lu m_ll (by omega) (by omega) (by omega) (by omega)) yk_X10_compares qw_1226 ⟨by decide, by decide⟩ [] [0, 1, 2, 3, 4, 5, 6, 7, 8, 9, 10, 11, 12, 13, 14, 15, 16, 17, 18] rfl rfl rfl rfl (by decide) rfl rfl (Nat.le_of_ble_eq_true rfl) dX10_triesLot_84 ⟨by decide, by decide⟩ ?_
          rintro _ _ ⟨q_84, hq_84, rfl, rfl⟩
          refine zz_st (st' := [.int (iI q_84)]) rfl (zz_ws (ws' := wMod z mh xT xD xP xR xC xW xA xH xU xB xI xN xM xY xK xL xE xS m_ra m_ca m_tp m_fa m_at m_wr m_va m_pl m_st m_lo m_bl m_bc m_fo m_yl m_yw qn_12 qd_12 m_lu m_ll m_ln kT kD kP kR kC kW kA kH kU kB kI kN kM kY kK kL kE gS_7) rfl ?_)
          refine zz_if_ge (tgt := 146) C dX10_triesLot_87 (by decide) (by rcases hq_84 with h9 | h9 | h9 <;> (unfold rI; omega)) (fun c87 => ?_) (fun c87 => ?_)
          · skip
            have hge : mlC kT kE ≤ mlC kT kL := by have := cmp_l (by omega) (by omega) hcs f1 (by omega) hq_84; omega
            have hfo1 : m_fo = 1 := by rcases hf.1 with h | h; omega; exact h
            have hfin : (m_fo = 1 ∧ agr (kT 1) kE kL ∧ (m_fo = 0 ∨ mlC kT kL < mlC kT kE)) ∨ (m_fo = m_fo ∧ kE = kE ∧ m_fo = 1 ∧ mlC kT kE ≤ mlC kT kL) := Or.inr ⟨rfl, rfl, hfo1, hge⟩
            have hff := hf
            exact zz_vret C hr dX10_triesLot_146 ⟨gS_7, qn_12, qd_12, m_fo, m_lu, m_ll, m_ln, kE, hfin, hff, rfl, rfl⟩
          · skip
            have hd9 : m_fo = 0 ∨ mlC kT kL < mlC kT kE := Or.inr ((cmp_l (by omega) (by omega) hcs f1 (by omega) hq_84).mp (by omega))
            refine zz_aload_n C 0 dX10_triesLot_90 rfl rfl ?_
            refine zz_iconst C dX10_triesLot_91 ?_
            refine zz_put (ty := .boolean) (ws' := wMod z mh xT xD xP xR xC xW xA xH xU xB xI xN xM xY xK xL xE xS m_ra m_ca m_tp m_fa m_at m_wr m_va m_pl m_st m_lo m_bl m_bc 1 m_yl m_yw qn_12 qd_12 m_lu m_ll m_ln kT kD kP kR kC kW kA kH kU kB kI kN kM kY kK kL kE gS_7) C 0 (ci := 10) (k := 22) rfl rfl in_X10 tyX10 tyX10_ok nmX10 (by decide) qw_948 rfl rfl (by decide +kernel) (by decide +kernel) (by decide +kernel) (Nat.le_of_ble_eq_true rfl) rfl dX10_triesLot_92 ?_
            refine zz_aload_n C 0 dX10_triesLot_95 rfl rfl ?_
            refine zz_lload_n C 1 dX10_triesLot_96 rfl rfl ?_
            refine zz_put (ty := .long) (ws' := wMod z mh xT xD xP xR xC xW xA xH xU xB xI xN xM xY xK xL xE xS m_ra m_ca m_tp m_fa m_at m_wr m_va m_pl m_st m_lo m_bl m_bc 1 m_yl m_yw qn_12 qd_12 co m_ll m_ln kT kD kP kR kC kW kA kH kU kB kI kN kM kY kK kL kE gS_7) C 0 (ci := 10) (k := 35) rfl rfl in_X10 tyX10 tyX10_ok nmX10 (by decide) qw_961 rfl rfl (by decide +kernel) rfl rfl (Nat.le_of_ble_eq_true rfl) rfl dX10_triesLot_97 ?_
            refine zz_aload_n C 0 dX10_triesLot_100 rfl rfl ?_
            refine zz_aload_n C 0 dX10_triesLot_101 rfl rfl ?_
            refine zz_get C 0 (ci := 10) (k := 33) rfl rfl in_X10 (by decide) qw_959 rfl rfl dX10_triesLot_102 ?_
            refine zz_put (ty := .long) (ws' := wMod z mh xT xD xP xR xC xW xA xH xU xB xI xN xM xY xK xL xE xS m_ra m_ca m_tp m_fa m_at m_wr m_va m_pl m_st m_lo m_bl m_bc 1 m_yl m_yw qn_12 qd_12 co qd_12 m_ln kT kD kP kR kC kW kA kH kU kB kI kN kM kY kK kL kE gS_7) C 0 (ci := 10) (k := 36) rfl rfl in_X10 tyX10 tyX10_ok nmX10 (by decide) qw_962 rfl rfl (by decide +kernel) rfl rfl (Nat.le_of_ble_eq_true rfl) rfl dX10_triesLot_105 ?_
            refine zz_aload_n C 0 dX10_triesLot_108 rfl rfl ?_
            refine zz_aload_n C 0 dX10_triesLot_109 rfl rfl ?_
            refine zz_get C 0 (ci := 10) (k := 32) rfl rfl in_X10 (by decide) qw_958 rfl rfl dX10_triesLot_110 ?_
            refine zz_put (ty := .long) (ws' := wMod z mh xT xD xP xR xC xW xA xH xU xB xI xN xM xY xK xL xE xS m_ra m_ca m_tp m_fa m_at m_wr m_va m_pl m_st m_lo m_bl m_bc 1 m_yl m_yw qn_12 qd_12 co qd_12 qn_12 kT kD kP kR kC kW kA kH kU kB kI kN kM kY kK kL kE gS_7) C 0 (ci := 10) (k := 37) rfl rfl in_X10 tyX10 tyX10_ok nmX10 (by decide) qw_963 rfl rfl (by decide +kernel) rfl rfl (Nat.le_of_ble_eq_true rfl) rfl dX10_triesLot_113 ?_
            refine zz_iconst C dX10_triesLot_116 ?_
            refine zz_istore_n (ls' := [(3, .int (iI 0)), (0, .ref mh), (1, .long (iL co))]) C dX10_triesLot_117 rfl (by decide) rfl ?_
            have Lp118 : ∀ (fu9 : Nat) (j : Int) (gE : Int → Int), (0 ≤ j ∧ j ≤ kT 1) → (∀ i : Int, 0 ≤ i → i < j → gE i = kL i) → (kT 1 - j).toNat < fu9 → zzW p l e rm_X10_triesLot s m ([.ref mh] : List Value).toArray below meth c z A 4 (MQ below (zQ z A (po_X10_triesLot z mh xT xD xP xR xC xW xA xH xU xB xI xN xM xY xK xL xE xS m_ra m_ca m_tp m_fa m_at m_wr m_va m_pl m_st m_lo m_bl m_bc m_fo m_yl m_yw m_nu m_nl m_lu m_ll m_ln kT kD kP kR kC kW kA kH kU kB kI kN kM kY kK kL kE kS)) ([.ref mh] : List Value).toArray s 0 0 A) 0 0 (wMod z mh xT xD xP xR xC xW xA xH xU xB xI xN xM xY xK xL xE xS m_ra m_ca m_tp m_fa m_at m_wr m_va m_pl m_st m_lo m_bl m_bc 1 m_yl m_yw qn_12 qd_12 co qd_12 qn_12 kT kD kP kR kC kW kA kH kU kB kI kN kM kY kK kL gE gS_7) [(0, .ref mh), (1, .long (iL co)), (3, .int (iI j))] [] 118 := by
              intro fu9
              induction fu9 with
              | zero => intro j gE hj hE h9; exact absurd h9 (Nat.not_lt_zero _)
              | succ fu9 ih118 =>
                intro j gE hj hE hm118
                refine zz_iload_n C 2 dX10_triesLot_118 rfl rfl ?_
                refine zz_aload_n C 0 dX10_triesLot_119 rfl rfl ?_
                refine zz_get C 0 (ci := 10) (k := 1) rfl rfl in_X10 (by decide) qw_927 rfl rfl dX10_triesLot_120 ?_
                refine zz_iconst C dX10_triesLot_123 ?_
                refine zz_iald C 1 rfl (by omega) (by omega) (by decide) dX10_triesLot_124 ?_
                refine zz_icmp_ge (tgt := 146) C dX10_triesLot_125 (by decide) (by unfold rI; omega) (by unfold rI; omega) (fun c125 => ?_) (fun c125 => ?_)
                · skip
                  have hag : agr (kT 1) gE kL := fun i h0 h1 => hE i h0 (by omega)
                  have hfin : ((1 : Int) = 1 ∧ agr (kT 1) gE kL ∧ (m_fo = 0 ∨ mlC kT kL < mlC kT kE)) ∨ ((1 : Int) = m_fo ∧ gE = kE ∧ m_fo = 1 ∧ mlC kT kE ≤ mlC kT kL) := Or.inl ⟨rfl, hag, hd9⟩
                  have hff : mlF kT 1 co qd_12 qn_12 gE := ⟨Or.inr rfl, fun _ => ⟨by rw [(mlC_agr hag).1]; exact hcs, by rw [(mlC_agr hag).2]; exact hnx, hqd_12, by omega, by omega⟩⟩
                  exact zz_vret C hr dX10_triesLot_146 ⟨gS_7, qn_12, qd_12, 1, co, qd_12, qn_12, gE, hfin, hff, rfl, rfl⟩
                · skip
                  refine zz_aload_n C 0 dX10_triesLot_128 rfl rfl ?_
                  refine zz_get C 0 (ci := 10) (k := 31) rfl rfl in_X10 (by decide) qw_957 rfl rfl dX10_triesLot_129 ?_
                  refine zz_iload_n C 2 dX10_triesLot_132 rfl rfl ?_
                  refine zz_aload_n C 0 dX10_triesLot_133 rfl rfl ?_
                  refine zz_get C 0 (ci := 10) (k := 30) rfl rfl in_X10 (by decide) qw_956 rfl rfl dX10_triesLot_134 ?_
                  refine zz_iload_n C 2 dX10_triesLot_137 rfl rfl ?_
                  refine zz_iald C 16 rfl (by omega) (by omega) (by decide) dX10_triesLot_138 ?_
                  refine zz_iast (ws' := wMod z mh xT xD xP xR xC xW xA xH xU xB xI xN xM xY xK xL xE xS m_ra m_ca m_tp m_fa m_at m_wr m_va m_pl m_st m_lo m_bl m_bc 1 m_yl m_yw qn_12 qd_12 co qd_12 qn_12 kT kD kP kR kC kW kA kH kU kB kI kN kM kY kK kL (zup gE j (kL j)) gS_7) C 17 rfl (by omega) (by omega) (by decide) rfl dX10_triesLot_139 ?_
                  refine zz_iinc (ls' := [(3, .int (iI (j + 1))), (0, .ref mh), (1, .long (iL co))]) C 2 dX10_triesLot_140 rfl (by decide) rfl ?_
                  refine zz_goto (tgt := 118) C dX10_triesLot_143 (by decide) ?_
                  refine zz_loc (ls' := [(0, .ref mh), (1, .long (iL co)), (3, .int (iI (j + 1)))]) [1, 2, 0] rfl ?_
                  exact ih118 (j + 1) (zup gE j (kL j)) (by omega) (zup_all (f := kL) hE rfl) (by omega)
            refine zz_loc (ls' := [(0, .ref mh), (1, .long (iL co)), (3, .int (iI 0))]) [1, 2, 0] rfl ?_
            exact Lp118 _ 0 kE (by omega) (fun i h0 h1 => by omega) (Nat.lt_succ_self _)
      · skip
        refine zz_lload_n C 1 dX10_triesLot_32 rfl rfl ?_
        refine zz_aload_n C 0 dX10_triesLot_33 rfl rfl ?_
        refine zz_get C 0 (ci := 10) (k := 30) rfl rfl in_X10 (by decide) qw_956 rfl rfl dX10_triesLot_34 ?_
        refine zz_iload_n C 2 dX10_triesLot_37 rfl rfl ?_
        refine zz_iald C 16 rfl (by omega) (by omega) (by decide) dX10_triesLot_38 ?_
        have hl39 := hkL k (by omega) (by omega)
        refine zz_i2l C dX10_triesLot_39 (by unfold rI; omega) ?_
        refine zz_aload_n C 0 dX10_triesLot_40 rfl rfl ?_
        refine zz_get C 0 (ci := 10) (k := 1) rfl rfl in_X10 (by decide) qw_927 rfl rfl dX10_triesLot_41 ?_
        refine zz_bipush C dX10_triesLot_44 (by decide +kernel) ?_
        refine zz_iload_n C 2 dX10_triesLot_46 rfl rfl ?_
        refine zz_iadd C dX10_triesLot_47 ?_
        refine zz_iald C 1 rfl (by omega) (by omega) (by decide) dX10_triesLot_48 ?_
        have hr49 := hkT.2.2 (27 + k) (by omega) (by omega)
        refine zz_i2l C dX10_triesLot_49 (by unfold rI; omega) ?_
        refine zz_lmul C dX10_triesLot_50 ?_
        refine zz_aload_n C 0 dX10_triesLot_51 rfl rfl ?_
        refine zz_get C 0 (ci := 10) (k := 33) rfl rfl in_X10 (by decide) qw_959 rfl rfl dX10_triesLot_52 ?_
        refine zz_lmul C dX10_triesLot_55 ?_
        refine zz_ladd C dX10_triesLot_56 ?_
        have hp9 := mul_pos_rng (A := 2400) (B := 456976) (mul_pos_rng (A := 12) (B := 200) hl39 hr49) ⟨by omega, hqd_12.2⟩
        refine zz_lstore_n (ls' := [(1, .long (iL (co + (((kL k) * (kT (27 + k))) * qd_12)))), (0, .ref mh), (3, .int (iI k))]) C dX10_triesLot_57 rfl (by decide) rfl ?_
        refine zz_iinc (ls' := [(3, .int (iI (k + 1))), (1, .long (iL (co + (((kL k) * (kT (27 + k))) * qd_12)))), (0, .ref mh)]) C 2 dX10_triesLot_58 rfl (by decide) rfl ?_
        refine zz_goto (tgt := 22) C dX10_triesLot_61 (by decide) ?_
        refine zz_loc (ls' := [(0, .ref mh), (1, .long (iL (co + (((kL k) * (kT (27 + k))) * qd_12)))), (3, .int (iI (k + 1)))]) [2, 1, 0] rfl ?_
        exact ih22 (k + 1) (co + (((kL k) * (kT (27 + k))) * qd_12)) (by omega) (by rw [zsum_succ _ hk.1, hco]; omega) (by omega) (by omega)
  refine zz_loc (ls' := [(0, .ref mh), (1, .long (iL qn_12)), (3, .int (iI 0))]) [2, 1, 0] rfl ?_
  exact Lp22 _ 0 qn_12 (by omega) (by rw [zsum_0]; omega) (by omega) (Nat.lt_succ_self _)
abbrev po_X10_buysLots (z : zC) (mh : Nat) (xT : Nat) (xD : Nat) (xP : Nat) (xR : Nat) (xC : Nat) (xW : Nat) (xA : Nat) (xH : Nat) (xU : Nat) (xB : Nat) (xI : Nat) (xN : Nat) (xM : Nat) (xY : Nat) (xK : Nat) (xL : Nat) (xE : Nat) (xS : Nat) (m_ra : Int) (m_ca : Int) (m_tp : Int) (m_fa : Int) (m_at : Int) (m_wr : Int) (m_va : Int) (m_pl : Int) (m_st : Int) (m_lo : Int) (m_bl : Int) (m_bc : Int) (m_fo : Int) (m_yl : Int) (m_yw : Int) (m_nu : Int) (m_nl : Int) (m_lu : Int) (m_ll : Int) (m_ln : Int) (kT : Int → Int) (kD : Int → Int) (kP : Int → Int) (kR : Int → Int) (kC : Int → Int) (kW : Int → Int) (kA : Int → Int) (kH : Int → Int) (kU : Int → Int) (kB : Int → Int) (kI : Int → Int) (kN : Int → Int) (kM : Int → Int) (kY : Int → Int) (kK : Int → Int) (kL : Int → Int) (kE : Int → Int) (kS : Int → Int) : Option Value → va_W → Prop := fun v w => ∃ (gS : Int → Int), ∃ (gu9 : Int), ∃ (gl9 : Int), ∃ (go : Int), ∃ (gu : Int), ∃ (gl : Int), ∃ (gn : Int), ∃ (gE : Int → Int), ∃ (gL : Int → Int), (lotM kT gu gl gn gE) ∧ v = none ∧ w = wMod z mh xT xD xP xR xC xW xA xH xU xB xI xN xM xY xK xL xE xS m_ra m_ca m_tp m_fa m_at m_wr m_va m_pl m_st m_lo m_bl m_bc go m_yl m_yw gu9 gl9 gu gl gn kT kD kP kR kC kW kA kH kU kB kI kN kM kY kK gL gE gS
abbrev rm_X10_buysLots : Room := { frames := 4, cells := 0, slots := 0, locals := 131 }
set_option maxHeartbeats 4000000 in
set_option maxRecDepth 100000 in
theorem cc_X10_buysLots (l : Launch) (z : zC) (mh : Nat) (xT : Nat) (xD : Nat) (xP : Nat) (xR : Nat) (xC : Nat) (xW : Nat) (xA : Nat) (xH : Nat) (xU : Nat) (xB : Nat) (xI : Nat) (xN : Nat) (xM : Nat) (xY : Nat) (xK : Nat) (xL : Nat) (xE : Nat) (xS : Nat) (m_ra : Int) (m_ca : Int) (m_tp : Int) (m_fa : Int) (m_at : Int) (m_wr : Int) (m_va : Int) (m_pl : Int) (m_st : Int) (m_lo : Int) (m_bl : Int) (m_bc : Int) (m_fo : Int) (m_yl : Int) (m_yw : Int) (m_nu : Int) (m_nl : Int) (m_lu : Int) (m_ll : Int) (m_ln : Int) (kT : Int → Int) (kD : Int → Int) (kP : Int → Int) (kR : Int → Int) (kC : Int → Int) (kW : Int → Int) (kA : Int → Int) (kH : Int → Int) (kU : Int → Int) (kB : Int → Int) (kI : Int → Int) (kN : Int → Int) (kM : Int → Int) (kY : Int → Int) (kK : Int → Int) (kL : Int → Int) (kE : Int → Int) (kS : Int → Int) (hkT : mOk kT) (hk2 : mOk2 kT) (hk4 : ∀ b : Int, 0 ≤ b → b < kT 1 → kT (32 + b) ≤ 12) : zzMet l yX10_buysLots cX10_buysLots 3 none rm_X10_buysLots z [.ref mh] (wMod z mh xT xD xP xR xC xW xA xH xU xB xI xN xM xY xK xL xE xS m_ra m_ca m_tp m_fa m_at m_wr m_va m_pl m_st m_lo m_bl m_bc m_fo m_yl m_yw m_nu m_nl m_lu m_ll m_ln kT kD kP kR kC kW kA kH kU kB kI kN kM kY kK kL kE kS) (po_X10_buysLots z mh xT xD xP xR xC xW xA xH xU xB xI xN xM xY xK xL xE xS m_ra m_ca m_tp m_fa m_at m_wr m_va m_pl m_st m_lo m_bl m_bc m_fo m_yl m_yw m_nu m_nl m_lu m_ll m_ln kT kD kP kR kC kW kA kH kU kB kI kN kM kY kK kL kE kS) := by
  refine zzMet.of (own := RX10) (ls0 := [(0, .ref mh)]) (by decide) rfl (Nat.le_of_ble_eq_true rfl) rfl ?_
  intro p e s m below meth c A C hr hnm
  have hk0 := hkT.1
  have hk1 := hkT.2.1
  have hl0 : ∀ b : Int, 0 ≤ b → b < kT 1 → 0 ≤ kT (32 + b) ∧ kT (32 + b) ≤ 12 := fun b h0 h1 => by have h2 := hkT.2.2 (32 + b) (by omega) (by omega); have h3 := hk4 b h0 h1; omega
  refine zz_aload_n C 0 dX10_buysLots_0 rfl rfl ?_
  refine zz_iconst C dX10_buysLots_1 ?_
  refine zz_put (ty := .boolean) (ws' := wMod z mh xT xD xP xR xC xW xA xH xU xB xI xN xM xY xK xL xE xS m_ra m_ca m_tp m_fa m_at m_wr m_va m_pl m_st m_lo m_bl m_bc 0 m_yl m_yw m_nu m_nl m_lu m_ll m_ln kT kD kP kR kC kW kA kH kU kB kI kN kM kY kK kL kE kS) C 0 (ci := 10) (k := 22) rfl rfl in_X10 tyX10 tyX10_ok nmX10 (by decide) qw_948 rfl rfl (by decide +kernel) (by decide +kernel) (by decide +kernel) (Nat.le_of_ble_eq_true rfl) rfl dX10_buysLots_2 ?_
  refine zz_iconst C dX10_buysLots_5 ?_
  refine zz_istore_n (ls' := [(1, .int (iI 0)), (0, .ref mh)]) C dX10_buysLots_6 rfl (by decide) rfl ?_
  have Lp7 : ∀ (fu9 : Nat) (k : Int) (gL : Int → Int), (0 ≤ k ∧ k ≤ 5) → (∀ i : Int, 0 ≤ i → i < k → gL i = 0) → (5 - k).toNat < fu9 → zzW p l e rm_X10_buysLots s m ([.ref mh] : List Value).toArray below meth c z A 3 (MQ below (zQ z A (po_X10_buysLots z mh xT xD xP xR xC xW xA xH xU xB xI xN xM xY xK xL xE xS m_ra m_ca m_tp m_fa m_at m_wr m_va m_pl m_st m_lo m_bl m_bc m_fo m_yl m_yw m_nu m_nl m_lu m_ll m_ln kT kD kP kR kC kW kA kH kU kB kI kN kM kY kK kL kE kS)) ([.ref mh] : List Value).toArray s 0 0 A) 0 0 (wMod z mh xT xD xP xR xC xW xA xH xU xB xI xN xM xY xK xL xE xS m_ra m_ca m_tp m_fa m_at m_wr m_va m_pl m_st m_lo m_bl m_bc 0 m_yl m_yw m_nu m_nl m_lu m_ll m_ln kT kD kP kR kC kW kA kH kU kB kI kN kM kY kK gL kE kS) [(0, .ref mh), (1, .int (iI k))] [] 7 := by
    intro fu9
    induction fu9 with
    | zero => intro k gL hk hL h9; exact absurd h9 (Nat.not_lt_zero _)
    | succ fu9 ih7 =>
      intro k gL hk hL hm7
      refine zz_iload_n C 1 dX10_buysLots_7 rfl rfl ?_
      refine zz_iconst C dX10_buysLots_8 ?_
      refine zz_icmp_ge (tgt := 25) C dX10_buysLots_9 (by decide) (by unfold rI; omega) (by unfold rI; omega) (fun c9 => ?_) (fun c9 => ?_)
      · skip
        refine zz_iconst C dX10_buysLots_25 ?_
        refine zz_istore_n (ls' := [(1, .int (iI 1)), (0, .ref mh)]) C dX10_buysLots_26 rfl (by decide) rfl ?_
        have Lp27 : ∀ (fu9 : Nat) (mo : Int) (gX : Int → Int) (gS : Int → Int) (gu9 : Int) (gl9 : Int) (go : Int) (gu : Int) (gl : Int) (gn : Int) (gE : Int → Int), (mo = 0 ∨ mo = 1) → (∀ b : Int, 0 ≤ b → b < 5 → 0 ≤ gX b ∧ gX b ≤ 12) → (mlF kT go gu gl gn gE) → (mo = 1 → bxd (kT 1) (fun b => kT (32 + b)) gX ∧ mLs kT (fun b => kT (32 + b)) (fun m => lxL 0 (kT 1) m gX) go gE) → (mo = 0 → mLs kT (fun b => kT (32 + b)) (fun _ => True) go gE) → (if mo = 0 then 0 else 371294 - wl gX).toNat < fu9 → zzW p l e rm_X10_buysLots s m ([.ref mh] : List Value).toArray below meth c z A 3 (MQ below (zQ z A (po_X10_buysLots z mh xT xD xP xR xC xW xA xH xU xB xI xN xM xY xK xL xE xS m_ra m_ca m_tp m_fa m_at m_wr m_va m_pl m_st m_lo m_bl m_bc m_fo m_yl m_yw m_nu m_nl m_lu m_ll m_ln kT kD kP kR kC kW kA kH kU kB kI kN kM kY kK kL kE kS)) ([.ref mh] : List Value).toArray s 0 0 A) 0 0 (wMod z mh xT xD xP xR xC xW xA xH xU xB xI xN xM xY xK xL xE xS m_ra m_ca m_tp m_fa m_at m_wr m_va m_pl m_st m_lo m_bl m_bc go m_yl m_yw gu9 gl9 gu gl gn kT kD kP kR kC kW kA kH kU kB kI kN kM kY kK gX gE gS) [(0, .ref mh), (1, .int (iI mo))] [] 27 := by
          intro fu9
          induction fu9 with
          | zero => intro mo gX gS gu9 gl9 go gu gl gn gE hmo hX hf h1 h0 h9; exact absurd h9 (Nat.not_lt_zero _)
          | succ fu9 ih27 =>
            intro mo gX gS gu9 gl9 go gu gl gn gE hmo hX hf h1 h0 hm27
            refine zz_iload_n C 1 dX10_buysLots_27 rfl rfl ?_
            refine zz_if_eq (tgt := 106) C dX10_buysLots_28 (by decide) (by unfold rI; omega) (fun c28 => ?_) (fun c28 => ?_)
            · skip
              exact zz_vret C hr dX10_buysLots_106 ⟨gS, gu9, gl9, go, gu, gl, gn, gE, gX, mLs_end (fun b h2 h3 => (hl0 b h2 h3).1) (h0 c28) hf, rfl, rfl⟩
            · skip
              have hmo1 : mo = 1 := by omega
              obtain ⟨hbx, hst⟩ := h1 hmo1
              refine zz_aload_n C 0 dX10_buysLots_31 rfl rfl ?_
              refine zz_callV (wr := ([] : va_W)) (st := []) C (cc_X10_triesLot l z mh xT xD xP xR xC xW xA xH xU xB xI xN xM xY xK xL xE xS m_ra m_ca m_tp m_fa m_at m_wr m_va m_pl m_st m_lo m_bl m_bc go m_yl m_yw gu9 gl9 gu gl gn kT kD kP kR kC kW kA kH kU kB kI kN kM kY kK gX gE gS (by omega) (by omega) hX hf) yk_X10_triesLot qw_1287 ⟨by decide, by decide⟩ [0, 1, 2, 3, 4, 5, 6, 7, 8, 9, 10, 11, 12, 13, 14, 15, 16, 17, 18] [] rfl rfl rfl rfl (by decide) 0 10 rfl rfl rfl rfl (Nat.le_of_ble_eq_true rfl) dX10_buysLots_32 ⟨by decide, by decide⟩ ?_
              rintro _ _ ⟨gS_32, gu9_32, gl9_32, go_32, gu_32, gl_32, gn_32, gE_32, ht_32, hf2_32, rfl, rfl⟩
              refine zz_st (st' := []) rfl (zz_ws (ws' := wMod z mh xT xD xP xR xC xW xA xH xU xB xI xN xM xY xK xL xE xS m_ra m_ca m_tp m_fa m_at m_wr m_va m_pl m_st m_lo m_bl m_bc go_32 m_yl m_yw gu9_32 gl9_32 gu_32 gl_32 gn_32 kT kD kP kR kC kW kA kH kU kB kI kN kM kY kK gX gE_32 gS_32) rfl ?_)
              have hnx : ∀ Q9 : (Int → Int) → Prop, (∀ m, bxd (kT 1) (fun b => kT (32 + b)) m → (Q9 m ↔ lxL 0 (kT 1) m gX ∨ agr (kT 1) m gX)) → mLs kT (fun b => kT (32 + b)) Q9 go_32 gE_32 := fun Q9 hq => mLs_try hst hbx hq ht_32
              refine zz_aload_n C 0 dX10_buysLots_35 rfl rfl ?_
              refine zz_get C 0 (ci := 10) (k := 1) rfl rfl in_X10 (by decide) qw_927 rfl rfl dX10_buysLots_36 ?_
              refine zz_iconst C dX10_buysLots_39 ?_
              refine zz_iald C 1 rfl (by omega) (by omega) (by decide) dX10_buysLots_40 ?_
              refine zz_iconst C dX10_buysLots_41 ?_
              refine zz_isub C dX10_buysLots_42 ?_
              refine zz_istore_n (ls' := [(2, .int (iI ((kT 1) - 1))), (0, .ref mh), (1, .int (iI mo))]) C dX10_buysLots_43 rfl (by decide) rfl ?_
              have Lp44 : ∀ (fu9 : Nat) (b2 : Int) (gY : Int → Int), (-1 ≤ b2 ∧ b2 < kT 1) → (∀ b : Int, 0 ≤ b → b < 5 → 0 ≤ gY b ∧ gY b ≤ 12) → (∀ i : Int, 0 ≤ i → i ≤ b2 → gY i = gX i) → (∀ i : Int, b2 < i → i < kT 1 → gY i = 0 ∧ gX i = kT (32 + i)) → (b2 + 1).toNat < fu9 → zzW p l e rm_X10_buysLots s m ([.ref mh] : List Value).toArray below meth c z A 3 (MQ below (zQ z A (po_X10_buysLots z mh xT xD xP xR xC xW xA xH xU xB xI xN xM xY xK xL xE xS m_ra m_ca m_tp m_fa m_at m_wr m_va m_pl m_st m_lo m_bl m_bc m_fo m_yl m_yw m_nu m_nl m_lu m_ll m_ln kT kD kP kR kC kW kA kH kU kB kI kN kM kY kK kL kE kS)) ([.ref mh] : List Value).toArray s 0 0 A) 0 0 (wMod z mh xT xD xP xR xC xW xA xH xU xB xI xN xM xY xK xL xE xS m_ra m_ca m_tp m_fa m_at m_wr m_va m_pl m_st m_lo m_bl m_bc go_32 m_yl m_yw gu9_32 gl9_32 gu_32 gl_32 gn_32 kT kD kP kR kC kW kA kH kU kB kI kN kM kY kK gY gE_32 gS_32) [(0, .ref mh), (1, .int (iI mo)), (2, .int (iI b2))] [] 44 := by
                intro fu9
                induction fu9 with
                | zero => intro b2 gY hb2 hr2 he2 hz2 h9; exact absurd h9 (Nat.not_lt_zero _)
                | succ fu9 ih44 =>
                  intro b2 gY hb2 hr2 he2 hz2 hm44
                  refine zz_iload_n C 2 dX10_buysLots_44 rfl rfl ?_
                  refine zz_if_lt (tgt := 79) C dX10_buysLots_45 (by decide) (by unfold rI; omega) (fun c45 => ?_) (fun c45 => ?_)
                  · skip
                    have hst0 := hnx (fun _ => True) (fun x hx => ⟨fun _ => odo_end (fun i i0 i1 => (hz2 i (by omega) i1).2) x hx, fun _ => trivial⟩)
                    refine zz_iload_n C 2 dX10_buysLots_79 rfl rfl ?_
                    refine zz_if_lt (tgt := 87) C dX10_buysLots_80 (by decide) (by unfold rI; omega) (fun c80 => ?_) (fun c80 => ?_)
                    · skip
                      refine zz_iconst C dX10_buysLots_87 ?_
                      refine zz_istore_n (ls' := [(1, .int (iI 0)), (0, .ref mh), (2, .int (iI b2))]) C dX10_buysLots_88 rfl (by decide) rfl ?_
                      refine zz_iload_n C 0 dX10_buysLots_89 rfl rfl ?_
                      refine zz_if_eq (tgt := 103) C dX10_buysLots_90 (by decide) (by unfold rI; omega) (fun c90 => ?_) (fun c90 => ?_)
                      · skip
                        refine zz_goto (tgt := 27) C dX10_buysLots_103 (by decide) ?_
                        refine zz_loc (ls' := [(0, .ref mh), (1, .int (iI 0))]) [1, 0] rfl ?_
                        exact ih27 0 gY gS_32 gu9_32 gl9_32 go_32 gu_32 gl_32 gn_32 gE_32 (by omega) (by first | exact hr3 | exact hr2 | (exfalso; omega)) hf2_32 (fun h => by first | (exfalso; omega) | exact ⟨hbx9, hst9⟩) (fun h => by first | (exfalso; omega) | exact hst0) (wl_me hm27 (by omega) (wl_rng hX) (fun h => by first | (exfalso; omega) | exact ⟨hwl9, hwl8.2⟩) (by omega))
                      · skip
                        refine zz_aload_n C 1 dX10_buysLots_93 rfl rfl ?_
                        refine zz_get C 0 (ci := 10) (k := 30) rfl rfl in_X10 (by decide) qw_956 rfl rfl dX10_buysLots_94 ?_
                        refine zz_iload_n C 2 dX10_buysLots_97 rfl rfl ?_
                        refine zz_dup2 C dX10_buysLots_98 rfl rfl ?_
                        refine zz_iald C 16 rfl (by omega) (by omega) (by decide) dX10_buysLots_99 ?_
                        refine zz_iconst C dX10_buysLots_100 ?_
                        refine zz_iadd C dX10_buysLots_101 ?_
                        refine zz_iast (ws' := wMod z mh xT xD xP xR xC xW xA xH xU xB xI xN xM xY xK xL xE xS m_ra m_ca m_tp m_fa m_at m_wr m_va m_pl m_st m_lo m_bl m_bc go_32 m_yl m_yw gu9_32 gl9_32 gu_32 gl_32 gn_32 kT kD kP kR kC kW kA kH kU kB kI kN kM kY kK (zup gY b2 ((gY b2) + 1)) gE_32 gS_32) C 16 rfl (by omega) (by omega) (by decide) rfl dX10_buysLots_102 ?_
                        refine zz_goto (tgt := 27) C dX10_buysLots_103 (by decide) ?_
                        refine zz_loc (ls' := [(0, .ref mh), (1, .int (iI 0))]) [1, 0] rfl ?_
                        exact ih27 0 (zup gY b2 ((gY b2) + 1)) gS_32 gu9_32 gl9_32 go_32 gu_32 gl_32 gn_32 gE_32 (by omega) (by first | exact hr3 | exact hr2 | (exfalso; omega)) hf2_32 (fun h => by first | (exfalso; omega) | exact ⟨hbx9, hst9⟩) (fun h => by first | (exfalso; omega) | exact hst0) (wl_me hm27 (by omega) (wl_rng hX) (fun h => by first | (exfalso; omega) | exact ⟨hwl9, hwl8.2⟩) (by omega))
                    · skip
                      refine zz_iconst C dX10_buysLots_83 ?_
                      refine zz_goto (tgt := 88) C dX10_buysLots_84 (by decide) ?_
                      refine zz_istore_n (ls' := [(1, .int (iI 1)), (0, .ref mh), (2, .int (iI b2))]) C dX10_buysLots_88 rfl (by decide) rfl ?_
                      refine zz_iload_n C 0 dX10_buysLots_89 rfl rfl ?_
                      refine zz_if_eq (tgt := 103) C dX10_buysLots_90 (by decide) (by unfold rI; omega) (fun c90 => ?_) (fun c90 => ?_)
                      · skip
                        refine zz_goto (tgt := 27) C dX10_buysLots_103 (by decide) ?_
                        refine zz_loc (ls' := [(0, .ref mh), (1, .int (iI 1))]) [1, 0] rfl ?_
                        exact ih27 1 gY gS_32 gu9_32 gl9_32 go_32 gu_32 gl_32 gn_32 gE_32 (by omega) (by first | exact hr3 | exact hr2 | (exfalso; omega)) hf2_32 (fun h => by first | (exfalso; omega) | exact ⟨hbx9, hst9⟩) (fun h => by first | (exfalso; omega) | exact hst0) (wl_me hm27 (by omega) (wl_rng hX) (fun h => by first | (exfalso; omega) | exact ⟨hwl9, hwl8.2⟩) (by omega))
                      · skip
                        refine zz_aload_n C 1 dX10_buysLots_93 rfl rfl ?_
                        refine zz_get C 0 (ci := 10) (k := 30) rfl rfl in_X10 (by decide) qw_956 rfl rfl dX10_buysLots_94 ?_
                        refine zz_iload_n C 2 dX10_buysLots_97 rfl rfl ?_
                        refine zz_dup2 C dX10_buysLots_98 rfl rfl ?_
                        refine zz_iald C 16 rfl (by omega) (by omega) (by decide) dX10_buysLots_99 ?_
                        refine zz_iconst C dX10_buysLots_100 ?_
                        refine zz_iadd C dX10_buysLots_101 ?_
                        refine zz_iast (ws' := wMod z mh xT xD xP xR xC xW xA xH xU xB xI xN xM xY xK xL xE xS m_ra m_ca m_tp m_fa m_at m_wr m_va m_pl m_st m_lo m_bl m_bc go_32 m_yl m_yw gu9_32 gl9_32 gu_32 gl_32 gn_32 kT kD kP kR kC kW kA kH kU kB kI kN kM kY kK (zup gY b2 ((gY b2) + 1)) gE_32 gS_32) C 16 rfl (by omega) (by omega) (by decide) rfl dX10_buysLots_102 ?_
                        refine zz_goto (tgt := 27) C dX10_buysLots_103 (by decide) ?_
                        refine zz_loc (ls' := [(0, .ref mh), (1, .int (iI 1))]) [1, 0] rfl ?_
                        exact ih27 1 (zup gY b2 ((gY b2) + 1)) gS_32 gu9_32 gl9_32 go_32 gu_32 gl_32 gn_32 gE_32 (by omega) (by first | exact hr3 | exact hr2 | (exfalso; omega)) hf2_32 (fun h => by first | (exfalso; omega) | exact ⟨hbx9, hst9⟩) (fun h => by first | (exfalso; omega) | exact hst0) (wl_me hm27 (by omega) (wl_rng hX) (fun h => by first | (exfalso; omega) | exact ⟨hwl9, hwl8.2⟩) (by omega))
                  · skip
                    refine zz_aload_n C 0 dX10_buysLots_48 rfl rfl ?_
                    refine zz_get C 0 (ci := 10) (k := 30) rfl rfl in_X10 (by decide) qw_956 rfl rfl dX10_buysLots_49 ?_
                    refine zz_iload_n C 2 dX10_buysLots_52 rfl rfl ?_
                    refine zz_iald C 16 rfl (by omega) (by omega) (by decide) dX10_buysLots_53 ?_
                    refine zz_aload_n C 0 dX10_buysLots_54 rfl rfl ?_
                    refine zz_get C 0 (ci := 10) (k := 1) rfl rfl in_X10 (by decide) qw_927 rfl rfl dX10_buysLots_55 ?_
                    refine zz_bipush C dX10_buysLots_58 (by decide +kernel) ?_
                    refine zz_iload_n C 2 dX10_buysLots_60 rfl rfl ?_
                    refine zz_iadd C dX10_buysLots_61 ?_
                    refine zz_iald C 1 rfl (by omega) (by omega) (by decide) dX10_buysLots_62 ?_
                    have hr61 := hr2 b2 (by omega) (by omega)
                    have hr62 := hkT.2.2 (32 + b2) (by omega) (by omega)
                    refine zz_icmp_ne (tgt := 79) C dX10_buysLots_63 (by decide) (by unfold rI; omega) (by unfold rI; omega) (fun c63 => ?_) (fun c63 => ?_)
                    · skip
                      have hq63 := hbx b2 (by omega) (by omega)
                      have hq62 : gX b2 ≤ kT (32 + b2) := hq63.2
                      have hq64 := he2 b2 (by omega) (by omega)
                      have hq65 := hl0 b2 (by omega) (by omega)
                      have hq66 : gX b2 + 1 ≤ kT (32 + b2) := by omega
                      have hu1 : ∀ i : Int, 0 ≤ i → i < b2 → zup gY b2 (gY b2 + 1) i = gX i := fun i i0 i1 => by rw [zup_ne (by omega)]; exact he2 i i0 (by omega)
                      have hu2 : zup gY b2 (gY b2 + 1) b2 = gX b2 + 1 := by rw [zup_eq, hq64]
                      have hu3 : ∀ i : Int, b2 < i → i < kT 1 → zup gY b2 (gY b2 + 1) i = 0 ∧ gX i = kT (32 + i) := fun i i0 i1 => by rw [zup_ne (by omega)]; exact hz2 i i0 i1
                      have hst9 := hnx (fun m => lxL 0 (kT 1) m (zup gY b2 (gY b2 + 1))) (odo (l := (fun b => kT (32 + b))) ⟨by omega, by omega⟩ hbx hu1 hu2 hu3)
                      have hr3 : ∀ b : Int, 0 ≤ b → b < 5 → 0 ≤ zup gY b2 (gY b2 + 1) b ∧ zup gY b2 (gY b2 + 1) b ≤ 12 := fun b i0 i1 => by by_cases e9 : b = b2; rw [e9, zup_eq]; omega; rw [zup_ne e9]; exact hr2 b i0 i1
                      have hbx9 : bxd (kT 1) (fun b => kT (32 + b)) (zup gY b2 (gY b2 + 1)) := fun i i0 i1 => by show 0 ≤ zup gY b2 (gY b2 + 1) i ∧ zup gY b2 (gY b2 + 1) i ≤ kT (32 + i); rcases Int.lt_trichotomy i b2 with e9 | e9 | e9; rw [hu1 i i0 e9]; exact hbx i i0 i1; rw [e9, hu2]; omega; rw [(hu3 i e9 i1).1]; exact ⟨by omega, (hl0 i i0 i1).1⟩
                      have hwl9 := wl_up hX (fun b i0 i1 => (hr3 b i0 i1).1) ⟨by omega, by omega⟩ hu1 hu2
                      have hwl8 := wl_rng hr3
                      refine zz_iload_n C 2 dX10_buysLots_79 rfl rfl ?_
                      refine zz_if_lt (tgt := 87) C dX10_buysLots_80 (by decide) (by unfold rI; omega) (fun c80 => ?_) (fun c80 => ?_)
                      · skip
                        refine zz_iconst C dX10_buysLots_87 ?_
                        refine zz_istore_n (ls' := [(1, .int (iI 0)), (0, .ref mh), (2, .int (iI b2))]) C dX10_buysLots_88 rfl (by decide) rfl ?_
                        refine zz_iload_n C 0 dX10_buysLots_89 rfl rfl ?_
                        refine zz_if_eq (tgt := 103) C dX10_buysLots_90 (by decide) (by unfold rI; omega) (fun c90 => ?_) (fun c90 => ?_)
                        · skip
                          refine zz_goto (tgt := 27) C dX10_buysLots_103 (by decide) ?_
                          refine zz_loc (ls' := [(0, .ref mh), (1, .int (iI 0))]) [1, 0] rfl ?_
                          exact ih27 0 gY gS_32 gu9_32 gl9_32 go_32 gu_32 gl_32 gn_32 gE_32 (by omega) (by first | exact hr3 | exact hr2 | (exfalso; omega)) hf2_32 (fun h => by first | (exfalso; omega) | exact ⟨hbx9, hst9⟩) (fun h => by first | (exfalso; omega) | exact hst0) (wl_me hm27 (by omega) (wl_rng hX) (fun h => by first | (exfalso; omega) | exact ⟨hwl9, hwl8.2⟩) (by omega))
                        · skip
                          refine zz_aload_n C 1 dX10_buysLots_93 rfl rfl ?_
                          refine zz_get C 0 (ci := 10) (k := 30) rfl rfl in_X10 (by decide) qw_956 rfl rfl dX10_buysLots_94 ?_
                          refine zz_iload_n C 2 dX10_buysLots_97 rfl rfl ?_
                          refine zz_dup2 C dX10_buysLots_98 rfl rfl ?_
                          refine zz_iald C 16 rfl (by omega) (by omega) (by decide) dX10_buysLots_99 ?_
                          refine zz_iconst C dX10_buysLots_100 ?_
                          refine zz_iadd C dX10_buysLots_101 ?_
                          refine zz_iast (ws' := wMod z mh xT xD xP xR xC xW xA xH xU xB xI xN xM xY xK xL xE xS m_ra m_ca m_tp m_fa m_at m_wr m_va m_pl m_st m_lo m_bl m_bc go_32 m_yl m_yw gu9_32 gl9_32 gu_32 gl_32 gn_32 kT kD kP kR kC kW kA kH kU kB kI kN kM kY kK (zup gY b2 ((gY b2) + 1)) gE_32 gS_32) C 16 rfl (by omega) (by omega) (by decide) rfl dX10_buysLots_102 ?_
                          refine zz_goto (tgt := 27) C dX10_buysLots_103 (by decide) ?_
                          refine zz_loc (ls' := [(0, .ref mh), (1, .int (iI 0))]) [1, 0] rfl ?_
                          exact ih27 0 (zup gY b2 ((gY b2) + 1)) gS_32 gu9_32 gl9_32 go_32 gu_32 gl_32 gn_32 gE_32 (by omega) (by first | exact hr3 | exact hr2 | (exfalso; omega)) hf2_32 (fun h => by first | (exfalso; omega) | exact ⟨hbx9, hst9⟩) (fun h => by first | (exfalso; omega) | exact hst0) (wl_me hm27 (by omega) (wl_rng hX) (fun h => by first | (exfalso; omega) | exact ⟨hwl9, hwl8.2⟩) (by omega))
                      · skip
                        refine zz_iconst C dX10_buysLots_83 ?_
                        refine zz_goto (tgt := 88) C dX10_buysLots_84 (by decide) ?_
                        refine zz_istore_n (ls' := [(1, .int (iI 1)), (0, .ref mh), (2, .int (iI b2))]) C dX10_buysLots_88 rfl (by decide) rfl ?_
                        refine zz_iload_n C 0 dX10_buysLots_89 rfl rfl ?_
                        refine zz_if_eq (tgt := 103) C dX10_buysLots_90 (by decide) (by unfold rI; omega) (fun c90 => ?_) (fun c90 => ?_)
                        · skip
                          refine zz_goto (tgt := 27) C dX10_buysLots_103 (by decide) ?_
                          refine zz_loc (ls' := [(0, .ref mh), (1, .int (iI 1))]) [1, 0] rfl ?_
                          exact ih27 1 gY gS_32 gu9_32 gl9_32 go_32 gu_32 gl_32 gn_32 gE_32 (by omega) (by first | exact hr3 | exact hr2 | (exfalso; omega)) hf2_32 (fun h => by first | (exfalso; omega) | exact ⟨hbx9, hst9⟩) (fun h => by first | (exfalso; omega) | exact hst0) (wl_me hm27 (by omega) (wl_rng hX) (fun h => by first | (exfalso; omega) | exact ⟨hwl9, hwl8.2⟩) (by omega))
                        · skip
                          refine zz_aload_n C 1 dX10_buysLots_93 rfl rfl ?_
                          refine zz_get C 0 (ci := 10) (k := 30) rfl rfl in_X10 (by decide) qw_956 rfl rfl dX10_buysLots_94 ?_
                          refine zz_iload_n C 2 dX10_buysLots_97 rfl rfl ?_
                          refine zz_dup2 C dX10_buysLots_98 rfl rfl ?_
                          refine zz_iald C 16 rfl (by omega) (by omega) (by decide) dX10_buysLots_99 ?_
                          refine zz_iconst C dX10_buysLots_100 ?_
                          refine zz_iadd C dX10_buysLots_101 ?_
                          refine zz_iast (ws' := wMod z mh xT xD xP xR xC xW xA xH xU xB xI xN xM xY xK xL xE xS m_ra m_ca m_tp m_fa m_at m_wr m_va m_pl m_st m_lo m_bl m_bc go_32 m_yl m_yw gu9_32 gl9_32 gu_32 gl_32 gn_32 kT kD kP kR kC kW kA kH kU kB kI kN kM kY kK (zup gY b2 ((gY b2) + 1)) gE_32 gS_32) C 16 rfl (by omega) (by omega) (by decide) rfl dX10_buysLots_102 ?_
                          refine zz_goto (tgt := 27) C dX10_buysLots_103 (by decide) ?_
                          refine zz_loc (ls' := [(0, .ref mh), (1, .int (iI 1))]) [1, 0] rfl ?_
                          exact ih27 1 (zup gY b2 ((gY b2) + 1)) gS_32 gu9_32 gl9_32 go_32 gu_32 gl_32 gn_32 gE_32 (by omega) (by first | exact hr3 | exact hr2 | (exfalso; omega)) hf2_32 (fun h => by first | (exfalso; omega) | exact ⟨hbx9, hst9⟩) (fun h => by first | (exfalso; omega) | exact hst0) (wl_me hm27 (by omega) (wl_rng hX) (fun h => by first | (exfalso; omega) | exact ⟨hwl9, hwl8.2⟩) (by omega))
                    · skip
                      refine zz_aload_n C 0 dX10_buysLots_66 rfl rfl ?_
                      refine zz_get C 0 (ci := 10) (k := 30) rfl rfl in_X10 (by decide) qw_956 rfl rfl dX10_buysLots_67 ?_
                      refine zz_iload_n C 2 dX10_buysLots_70 rfl rfl ?_
                      refine zz_iconst C dX10_buysLots_71 ?_
                      refine zz_iast (ws' := wMod z mh xT xD xP xR xC xW xA xH xU xB xI xN xM xY xK xL xE xS m_ra m_ca m_tp m_fa m_at m_wr m_va m_pl m_st m_lo m_bl m_bc go_32 m_yl m_yw gu9_32 gl9_32 gu_32 gl_32 gn_32 kT kD kP kR kC kW kA kH kU kB kI kN kM kY kK (zup gY b2 0) gE_32 gS_32) C 16 rfl (by omega) (by omega) (by decide) rfl dX10_buysLots_72 ?_
                      refine zz_iinc (ls' := [(2, .int (iI (b2 + (-1)))), (0, .ref mh), (1, .int (iI mo))]) C 2 dX10_buysLots_73 rfl (by decide) rfl ?_
                      refine zz_goto (tgt := 44) C dX10_buysLots_76 (by decide) ?_
                      refine zz_loc (ls' := [(0, .ref mh), (1, .int (iI mo)), (2, .int (iI (b2 + (-1))))]) [1, 2, 0] rfl ?_
                      exact ih44 (b2 + (-1)) (zup gY b2 0) (by omega) (fun b h0 h1 => by by_cases e9 : b = b2; rw [e9, zup_eq]; omega; rw [zup_ne e9]; exact hr2 b h0 h1) (fun i h0 h1 => by rw [zup_ne (by omega)]; exact he2 i h0 (by omega)) (fun i h0 h1 => by by_cases e9 : i = b2; exact ⟨by rw [e9, zup_eq], by rw [e9, ← c63, he2 b2 (by omega) (by omega)]⟩; rw [zup_ne e9]; exact hz2 i (by omega) h1) (by omega)
              refine zz_loc (ls' := [(0, .ref mh), (1, .int (iI mo)), (2, .int (iI ((kT 1) - 1)))]) [1, 2, 0] rfl ?_
              exact Lp44 _ ((kT 1) - 1) gX (by omega) hX (fun i h0 h1 => rfl) (fun i h0 h1 => by omega) (Nat.lt_succ_self _)
        refine zz_loc (ls' := [(0, .ref mh), (1, .int (iI 1))]) [1, 0] rfl ?_
        exact Lp27 _ 1 gL kS m_nu m_nl 0 m_lu m_ll m_ln kE (by omega) (fun b h0 h1 => by rw [hL b h0 (by omega)]; omega) ⟨Or.inl rfl, fun h => by omega⟩ (fun _ => ⟨fun b h0 h1 => by rw [hL b h0 (by omega)]; exact ⟨by omega, (hl0 b h0 h1).1⟩, Or.inl ⟨rfl, fun m bm => odo_0 (fun b h0 h1 => hL b h0 (by omega)) bm⟩⟩) (fun h => by omega) (Nat.lt_succ_self _)
      · skip
        refine zz_aload_n C 0 dX10_buysLots_12 rfl rfl ?_
        refine zz_get C 0 (ci := 10) (k := 30) rfl rfl in_X10 (by decide) qw_956 rfl rfl dX10_buysLots_13 ?_
        refine zz_iload_n C 1 dX10_buysLots_16 rfl rfl ?_
        refine zz_iconst C dX10_buysLots_17 ?_
        refine zz_iast (ws' := wMod z mh xT xD xP xR xC xW xA xH xU xB xI xN xM xY xK xL xE xS m_ra m_ca m_tp m_fa m_at m_wr m_va m_pl m_st m_lo m_bl m_bc 0 m_yl m_yw m_nu m_nl m_lu m_ll m_ln kT kD kP kR kC kW kA kH kU kB kI kN kM kY kK (zup gL k 0) kE kS) C 16 rfl (by omega) (by omega) (by decide) rfl dX10_buysLots_18 ?_
        refine zz_iinc (ls' := [(1, .int (iI (k + 1))), (0, .ref mh)]) C 1 dX10_buysLots_19 rfl (by decide) rfl ?_
        refine zz_goto (tgt := 7) C dX10_buysLots_22 (by decide) ?_
        refine zz_loc (ls' := [(0, .ref mh), (1, .int (iI (k + 1)))]) [1, 0] rfl ?_
        exact ih7 (k + 1) (zup gL k 0) (by omega) (zup_all (f := fun _ => 0) hL rfl) (by omega)
  refine zz_loc (ls' := [(0, .ref mh), (1, .int (iI 0))]) [1, 0] rfl ?_
  exact Lp7 _ 0 kL (by omega) (fun i h0 h1 => by omega) (Nat.lt_succ_self _)
abbrev po_X10_lots (z : zC) (mh : Nat) (xT : Nat) (xD : Nat) (xP : Nat) (xR : Nat) (xC : Nat) (xW : Nat) (xA : Nat) (xH : Nat) (xU : Nat) (xB : Nat) (xI : Nat) (xN : Nat) (xM : Nat) (xY : Nat) (xK : Nat) (xL : Nat) (xE : Nat) (xS : Nat) (m_ra : Int) (m_ca : Int) (m_tp : Int) (m_fa : Int) (m_at : Int) (m_wr : Int) (m_va : Int) (m_pl : Int) (m_st : Int) (m_lo : Int) (m_bl : Int) (m_bc : Int) (m_fo : Int) (m_yl : Int) (m_yw : Int) (m_nu : Int) (m_nl : Int) (m_lu : Int) (m_ll : Int) (m_ln : Int) (kT : Int → Int) (kD : Int → Int) (kP : Int → Int) (kR : Int → Int) (kC : Int → Int) (kW : Int → Int) (kA : Int → Int) (kH : Int → Int) (kU : Int → Int) (kB : Int → Int) (kI : Int → Int) (kN : Int → Int) (kM : Int → Int) (kY : Int → Int) (kK : Int → Int) (kL : Int → Int) (kE : Int → Int) (kS : Int → Int) (b9 : Int) : Option Value → va_W → Prop := fun v w => ∃ (q : Int), ∃ (gS : Int → Int), ∃ (gu9 : Int), ∃ (gl9 : Int), ∃ (go : Int), ∃ (gu : Int), ∃ (gl : Int), ∃ (gn : Int), ∃ (gE : Int → Int), ∃ (gL : Int → Int), (((0 ≤ b9 ∧ b9 < kT 1) ∧ (∃ lu ll ln C, lotM kT lu ll ln C ∧ q = C b9)) ∨ (¬ (0 ≤ b9 ∧ b9 < kT 1) ∧ q = -1)) ∧ v = some (Value.int (iI q)) ∧ w = wMod z mh xT xD xP xR xC xW xA xH xU xB xI xN xM xY xK xL xE xS 0 m_ca m_tp m_fa m_at m_wr m_va m_pl m_st m_lo m_bl m_bc go m_yl m_yw gu9 gl9 gu gl gn kT kD kP kR kC kW kA kH kU kB kI kN kM kY kK gL gE gS
abbrev rm_X10_lots : Room := { frames := 5, cells := 0, slots := 0, locals := 153 }
set_option maxHeartbeats 4000000 in
set_option maxRecDepth 100000 in
theorem cc_X10_lots (l : Launch) (z : zC) (mh : Nat) (xT : Nat) (xD : Nat) (xP : Nat) (xR : Nat) (xC : Nat) (xW : Nat) (xA : Nat) (xH : Nat) (xU : Nat) (xB : Nat) (xI : Nat) (xN : Nat) (xM : Nat) (xY : Nat) (xK : Nat) (xL : Nat) (xE : Nat) (xS : Nat) (m_ra : Int) (m_ca : Int) (m_tp : Int) (m_fa : Int) (m_at : Int) (m_wr : Int) (m_va : Int) (m_pl : Int) (m_st : Int) (m_lo : Int) (m_bl : Int) (m_bc : Int) (m_fo : Int) (m_yl : Int) (m_yw : Int) (m_nu : Int) (m_nl : Int) (m_lu : Int) (m_ll : Int) (m_ln : Int) (kT : Int → Int) (kD : Int → Int) (kP : Int → Int) (kR : Int → Int) (kC : Int → Int) (kW : Int → Int) (kA : Int → Int) (kH : Int → Int) (kU : Int → Int) (kB : Int → Int) (kI : Int → Int) (kN : Int → Int) (kM : Int → Int) (kY : Int → Int) (kK : Int → Int) (kL : Int → Int) (kE : Int → Int) (kS : Int → Int) (b9 : Int) (hkT : mOk kT) (hk2 : mOk2 kT) (hk4 : ∀ b : Int, 0 ≤ b → b < kT 1 → kT (32 + b) ≤ 12) (hb9 : -2147483648 ≤ b9 ∧ b9 < 2147483648) : zzMet l yX10_lots cX10_lots 2 (Option.some .int) rm_X10_lots z [.ref mh, .int (iI b9)] (wMod z mh xT xD xP xR xC xW xA xH xU xB xI xN xM xY xK xL xE xS m_ra m_ca m_tp m_fa m_at m_wr m_va m_pl m_st m_lo m_bl m_bc m_fo m_yl m_yw m_nu m_nl m_lu m_ll m_ln kT kD kP kR kC kW kA kH kU kB kI kN kM kY kK kL kE kS) (po_X10_lots z mh xT xD xP xR xC xW xA xH xU xB xI xN xM xY xK xL xE xS m_ra m_ca m_tp m_fa m_at m_wr m_va m_pl m_st m_lo m_bl m_bc m_fo m_yl m_yw m_nu m_nl m_lu m_ll m_ln kT kD kP kR kC kW kA kH kU kB kI kN kM kY kK kL kE kS b9) := by
  refine zzMet.of (own := RX10) (ls0 := [(0, .ref mh), (1, .int (iI b9))]) (by decide) rfl (Nat.le_of_ble_eq_true rfl) rfl ?_
  intro p e s m below meth c A C hr hnm
  have hk0 := hkT.1
  have hk1 := hkT.2.1
  refine zz_aload_n C 0 dX10_lots_0 rfl rfl ?_
  refine zz_iconst C dX10_lots_1 ?_
  refine zz_put (ty := .int) (ws' := wMod z mh xT xD xP xR xC xW xA xH xU xB xI xN xM xY xK xL xE xS 0 m_ca m_tp m_fa m_at m_wr m_va m_pl m_st m_lo m_bl m_bc m_fo m_yl m_yw m_nu m_nl m_lu m_ll m_ln kT kD kP kR kC kW kA kH kU kB kI kN kM kY kK kL kE kS) C 0 (ci := 10) (k := 0) rfl rfl in_X10 tyX10 tyX10_ok nmX10 (by decide) qw_926 rfl rfl (by decide +kernel) rfl rfl (Nat.le_of_ble_eq_true rfl) rfl dX10_lots_2 ?_
  refine zz_iload_n C 1 dX10_lots_5 rfl rfl ?_
  refine zz_iconst C dX10_lots_6 ?_
  refine zz_aload_n C 0 dX10_lots_7 rfl rfl ?_
  refine zz_get C 0 (ci := 10) (k := 1) rfl rfl in_X10 (by decide) qw_927 rfl rfl dX10_lots_8 ?_
  refine zz_iconst C dX10_lots_11 ?_
  refine zz_iald C 1 rfl (by omega) (by omega) (by decide) dX10_lots_12 ?_
  refine zz_iconst C dX10_lots_13 ?_
  refine zz_isub C dX10_lots_14 ?_
  refine zz_callS (wr := wMod z mh xT xD xP xR xC xW xA xH xU xB xI xN xM xY xK xL xE xS 0 m_ca m_tp m_fa m_at m_wr m_va m_pl m_st m_lo m_bl m_bc m_fo m_yl m_yw m_nu m_nl m_lu m_ll m_ln kT kD kP kR kC kW kA kH kU kB kI kN kM kY kK kL kE kS) (st := []) C (cc_X10_in l z b9 0 ((kT 1) - 1) (by omega) (by omega) (by omega)) yk_X10_in qw_1049 ⟨by decide, by decide⟩ [] [0, 1, 2, 3, 4, 5, 6, 7, 8, 9, 10, 11, 12, 13, 14, 15, 16, 17, 18] rfl rfl rfl rfl (by decide) rfl rfl (Nat.le_of_ble_eq_true rfl) dX10_lots_15 ⟨by decide, by decide⟩ ?_
  rintro _ _ ⟨q_15, hq_15, rfl, rfl⟩
  refine zz_st (st' := [.int (iI q_15)]) rfl (zz_ws (ws' := wMod z mh xT xD xP xR xC xW xA xH xU xB xI xN xM xY xK xL xE xS 0 m_ca m_tp m_fa m_at m_wr m_va m_pl m_st m_lo m_bl m_bc m_fo m_yl m_yw m_nu m_nl m_lu m_ll m_ln kT kD kP kR kC kW kA kH kU kB kI kN kM kY kK kL kE kS) rfl ?_)
  refine zz_if_ne (tgt := 23) C dX10_lots_18 (by decide) (by unfold rI; omega) (fun c18 => ?_) (fun c18 => ?_)
  · skip
    refine zz_aload_n C 0 dX10_lots_23 rfl rfl ?_
    refine zz_callV (wr := ([] : va_W)) (st := []) C (cc_X10_buysLots l z mh xT xD xP xR xC xW xA xH xU xB xI xN xM xY xK xL xE xS 0 m_ca m_tp m_fa m_at m_wr m_va m_pl m_st m_lo m_bl m_bc m_fo m_yl m_yw m_nu m_nl m_lu m_ll m_ln kT kD kP kR kC kW kA kH kU kB kI kN kM kY kK kL kE kS (by omega) (by omega) hk4) yk_X10_buysLots qw_1283 ⟨by decide, by decide⟩ [0, 1, 2, 3, 4, 5, 6, 7, 8, 9, 10, 11, 12, 13, 14, 15, 16, 17, 18] [] rfl rfl rfl rfl (by decide) 0 10 rfl rfl rfl rfl (Nat.le_of_ble_eq_true rfl) dX10_lots_24 ⟨by decide, by decide⟩ ?_
    rintro _ _ ⟨gS_24, gu9_24, gl9_24, go_24, gu_24, gl_24, gn_24, gE_24, gL_24, hlm_24, rfl, rfl⟩
    refine zz_st (st' := []) rfl (zz_ws (ws' := wMod z mh xT xD xP xR xC xW xA xH xU xB xI xN xM xY xK xL xE xS 0 m_ca m_tp m_fa m_at m_wr m_va m_pl m_st m_lo m_bl m_bc go_24 m_yl m_yw gu9_24 gl9_24 gu_24 gl_24 gn_24 kT kD kP kR kC kW kA kH kU kB kI kN kM kY kK gL_24 gE_24 gS_24) rfl ?_)
    refine zz_aload_n C 0 dX10_lots_27 rfl rfl ?_
    refine zz_get C 0 (ci := 10) (k := 31) rfl rfl in_X10 (by decide) qw_957 rfl rfl dX10_lots_28 ?_
    refine zz_iload_n C 1 dX10_lots_31 rfl rfl ?_
    refine zz_iald C 17 rfl (by omega) (by omega) (by decide) dX10_lots_32 ?_
    exact zz_iret C hr dX10_lots_33 ⟨_, gS_24, gu9_24, gl9_24, go_24, gu_24, gl_24, gn_24, gE_24, gL_24, Or.inl ⟨by omega, ⟨_, _, _, _, hlm_24, rfl⟩⟩, rfl, rfl⟩
  · skip
    refine zz_iconst C dX10_lots_21 ?_
    exact zz_iret C hr dX10_lots_22 ⟨_, kS, m_nu, m_nl, m_fo, m_lu, m_ll, m_ln, kE, kL, Or.inr ⟨by omega, rfl⟩, rfl, rfl⟩
abbrev po_X10_lotsCost (z : zC) (mh : Nat) (xT : Nat) (xD : Nat) (xP : Nat) (xR : Nat) (xC : Nat) (xW : Nat) (xA : Nat) (xH : Nat) (xU : Nat) (xB : Nat) (xI : Nat) (xN : Nat) (xM : Nat) (xY : Nat) (xK : Nat) (xL : Nat) (xE : Nat) (xS : Nat) (m_ra : Int) (m_ca : Int) (m_tp : Int) (m_fa : Int) (m_at : Int) (m_wr : Int) (m_va : Int) (m_pl : Int) (m_st : Int) (m_lo : Int) (m_bl : Int) (m_bc : Int) (m_fo : Int) (m_yl : Int) (m_yw : Int) (m_nu : Int) (m_nl : Int) (m_lu : Int) (m_ll : Int) (m_ln : Int) (kT : Int → Int) (kD : Int → Int) (kP : Int → Int) (kR : Int → Int) (kC : Int → Int) (kW : Int → Int) (kA : Int → Int) (kH : Int → Int) (kU : Int → Int) (kB : Int → Int) (kI : Int → Int) (kN : Int → Int) (kM : Int → Int) (kY : Int → Int) (kK : Int → Int) (kL : Int → Int) (kE : Int → Int) (kS : Int → Int) (w9 : Int) (un : Int) : Option Value → va_W → Prop := fun v w => ∃ (q : Int), ∃ (gS : Int → Int), ∃ (gu9 : Int), ∃ (gl9 : Int), ∃ (go : Int), ∃ (gu : Int), ∃ (gl : Int), ∃ (gn : Int), ∃ (gE : Int → Int), ∃ (gL : Int → Int), (((w9 = 0 ∨ w9 = 1) ∧ (∃ lu ll ln C, lotM kT lu ll ln C ∧ q = ltm (if w9 = 0 then lu else ln) ll un)) ∨ (¬ (w9 = 0 ∨ w9 = 1) ∧ q = -1)) ∧ v = some (Value.long (iL q)) ∧ w = wMod z mh xT xD xP xR xC xW xA xH xU xB xI xN xM xY xK xL xE xS 0 m_ca m_tp m_fa m_at m_wr m_va m_pl m_st m_lo m_bl m_bc go m_yl m_yw gu9 gl9 gu gl gn kT kD kP kR kC kW kA kH kU kB kI kN kM kY kK gL gE gS
abbrev rm_X10_lotsCost : Room := { frames := 5, cells := 0, slots := 0, locals := 153 }
set_option maxHeartbeats 4000000 in
set_option maxRecDepth 100000 in
theorem cc_X10_lotsCost (l : Launch) (z : zC) (mh : Nat) (xT : Nat) (xD : Nat) (xP : Nat) (xR : Nat) (xC : Nat) (xW : Nat) (xA : Nat) (xH : Nat) (xU : Nat) (xB : Nat) (xI : Nat) (xN : Nat) (xM : Nat) (xY : Nat) (xK : Nat) (xL : Nat) (xE : Nat) (xS : Nat) (m_ra : Int) (m_ca : Int) (m_tp : Int) (m_fa : Int) (m_at : Int) (m_wr : Int) (m_va : Int) (m_pl : Int) (m_st : Int) (m_lo : Int) (m_bl : Int) (m_bc : Int) (m_fo : Int) (m_yl : Int) (m_yw : Int) (m_nu : Int) (m_nl : Int) (m_lu : Int) (m_ll : Int) (m_ln : Int) (kT : Int → Int) (kD : Int → Int) (kP : Int → Int) (kR : Int → Int) (kC : Int → Int) (kW : Int → Int) (kA : Int → Int) (kH : Int → Int) (kU : Int → Int) (kB : Int → Int) (kI : Int → Int) (kN : Int → Int) (kM : Int → Int) (kY : Int → Int) (kK : Int → Int) (kL : Int → Int) (kE : Int → Int) (kS : Int → Int) (w9 : Int) (un : Int) (hkT : mOk kT) (hk2 : mOk2 kT) (hk4 : ∀ b : Int, 0 ≤ b → b < kT 1 → kT (32 + b) ≤ 12) (hw9 : -2147483648 ≤ w9 ∧ w9 < 2147483648) (hun : un = 0 ∨ un = 1) : zzMet l yX10_lotsCost cX10_lotsCost 3 (Option.some .long) rm_X10_lotsCost z [.ref mh, .int (iI w9), .int (iI un)] (wMod z mh xT xD xP xR xC xW xA xH xU xB xI xN xM xY xK xL xE xS m_ra m_ca m_tp m_fa m_at m_wr m_va m_pl m_st m_lo m_bl m_bc m_fo m_yl m_yw m_nu m_nl m_lu m_ll m_ln kT kD kP kR kC kW kA kH kU kB kI kN kM kY kK kL kE kS) (po_X10_lotsCost z mh xT xD xP xR xC xW xA xH xU xB xI xN xM xY xK xL xE xS m_ra m_ca m_tp m_fa m_at m_wr m_va m_pl m_st m_lo m_bl m_bc m_fo m_yl m_yw m_nu m_nl m_lu m_ll m_ln kT kD kP kR kC kW kA kH kU kB kI kN kM kY kK kL kE kS w9 un) := by
  refine zzMet.of (own := RX10) (ls0 := [(0, .ref mh), (1, .int (iI w9)), (2, .int (iI un))]) (by decide) rfl (Nat.le_of_ble_eq_true rfl) rfl ?_
  intro p e s m below meth c A C hr hnm
  have hk0 := hkT.1
  have hk1 := hkT.2.1
  refine zz_aload_n C 0 dX10_lotsCost_0 rfl rfl ?_
  refine zz_iconst C dX10_lotsCost_1 ?_
  refine zz_put (ty := .int) (ws' := wMod z mh xT xD xP xR xC xW xA xH xU xB xI xN xM xY xK xL xE xS 0 m_ca m_tp m_fa m_at m_wr m_va m_pl m_st m_lo m_bl m_bc m_fo m_yl m_yw m_nu m_nl m_lu m_ll m_ln kT kD kP kR kC kW kA kH kU kB kI kN kM kY kK kL kE kS) C 0 (ci := 10) (k := 0) rfl rfl in_X10 tyX10 tyX10_ok nmX10 (by decide) qw_926 rfl rfl (by decide +kernel) rfl rfl (Nat.le_of_ble_eq_true rfl) rfl dX10_lotsCost_2 ?_
  refine zz_iload_n C 1 dX10_lotsCost_5 rfl rfl ?_
  refine zz_iconst C dX10_lotsCost_6 ?_
  refine zz_iconst C dX10_lotsCost_7 ?_
  refine zz_callS (wr := wMod z mh xT xD xP xR xC xW xA xH xU xB xI xN xM xY xK xL xE xS 0 m_ca m_tp m_fa m_at m_wr m_va m_pl m_st m_lo m_bl m_bc m_fo m_yl m_yw m_nu m_nl m_lu m_ll m_ln kT kD kP kR kC kW kA kH kU kB kI kN kM kY kK kL kE kS) (st := []) C (cc_X10_in l z w9 0 1 (by omega) (by omega) (by omega)) yk_X10_in qw_1049 ⟨by decide, by decide⟩ [] [0, 1, 2, 3, 4, 5, 6, 7, 8, 9, 10, 11, 12, 13, 14, 15, 16, 17, 18] rfl rfl rfl rfl (by decide) rfl rfl (Nat.le_of_ble_eq_true rfl) dX10_lotsCost_8 ⟨by decide, by decide⟩ ?_
  rintro _ _ ⟨q_8, hq_8, rfl, rfl⟩
  refine zz_st (st' := [.int (iI q_8)]) rfl (zz_ws (ws' := wMod z mh xT xD xP xR xC xW xA xH xU xB xI xN xM xY xK xL xE xS 0 m_ca m_tp m_fa m_at m_wr m_va m_pl m_st m_lo m_bl m_bc m_fo m_yl m_yw m_nu m_nl m_lu m_ll m_ln kT kD kP kR kC kW kA kH kU kB kI kN kM kY kK kL kE kS) rfl ?_)
  refine zz_if_ne (tgt := 18) C dX10_lotsCost_11 (by decide) (by unfold rI; omega) (fun c11 => ?_) (fun c11 => ?_)
  · skip
    refine zz_aload_n C 0 dX10_lotsCost_18 rfl rfl ?_
    refine zz_callV (wr := ([] : va_W)) (st := []) C (cc_X10_buysLots l z mh xT xD xP xR xC xW xA xH xU xB xI xN xM xY xK xL xE xS 0 m_ca m_tp m_fa m_at m_wr m_va m_pl m_st m_lo m_bl m_bc m_fo m_yl m_yw m_nu m_nl m_lu m_ll m_ln kT kD kP kR kC kW kA kH kU kB kI kN kM kY kK kL kE kS (by omega) (by omega) hk4) yk_X10_buysLots qw_1283 ⟨by decide, by decide⟩ [0, 1, 2, 3, 4, 5, 6, 7, 8, 9, 10, 11, 12, 13, 14, 15, 16, 17, 18] [] rfl rfl rfl rfl (by decide) 0 10 rfl rfl rfl rfl (Nat.le_of_ble_eq_true rfl) dX10_lotsCost_19 ⟨by decide, by decide⟩ ?_
    rintro _ _ ⟨gS_19, gu9_19, gl9_19, go_19, gu_19, gl_19, gn_19, gE_19, gL_19, hlm_19, rfl, rfl⟩
    refine zz_st (st' := []) rfl (zz_ws (ws' := wMod z mh xT xD xP xR xC xW xA xH xU xB xI xN xM xY xK xL xE xS 0 m_ca m_tp m_fa m_at m_wr m_va m_pl m_st m_lo m_bl m_bc go_19 m_yl m_yw gu9_19 gl9_19 gu_19 gl_19 gn_19 kT kD kP kR kC kW kA kH kU kB kI kN kM kY kK gL_19 gE_19 gS_19) rfl ?_)
    have hz1 := hlm_19.2.2.2
    refine zz_iload_n C 1 dX10_lotsCost_22 rfl rfl ?_
    refine zz_if_ne (tgt := 33) C dX10_lotsCost_23 (by decide) (by unfold rI; omega) (fun c23 => ?_) (fun c23 => ?_)
    · skip
      refine zz_aload_n C 0 dX10_lotsCost_33 rfl rfl ?_
      refine zz_get C 0 (ci := 10) (k := 37) rfl rfl in_X10 (by decide) qw_963 rfl rfl dX10_lotsCost_34 ?_
      refine zz_aload_n C 0 dX10_lotsCost_37 rfl rfl ?_
      refine zz_get C 0 (ci := 10) (k := 36) rfl rfl in_X10 (by decide) qw_962 rfl rfl dX10_lotsCost_38 ?_
      refine zz_iload_n C 2 dX10_lotsCost_41 rfl rfl ?_
      refine zz_callS (wr := wMod z mh xT xD xP xR xC xW xA xH xU xB xI xN xM xY xK xL xE xS 0 m_ca m_tp m_fa m_at m_wr m_va m_pl m_st m_lo m_bl m_bc go_19 m_yl m_yw gu9_19 gl9_19 gu_19 gl_19 gn_19 kT kD kP kR kC kW kA kH kU kB kI kN kM kY kK gL_19 gE_19 gS_19) (st := []) C (cc_X10_tells l z gn_19 gl_19 un (by omega) (by omega) (by omega)) yk_X10_tells qw_1233 ⟨by decide, by decide⟩ [] [0, 1, 2, 3, 4, 5, 6, 7, 8, 9, 10, 11, 12, 13, 14, 15, 16, 17, 18] rfl rfl rfl rfl (by decide) rfl rfl (Nat.le_of_ble_eq_true rfl) dX10_lotsCost_42 ⟨by decide, by decide⟩ ?_
      rintro _ _ ⟨rfl, rfl⟩
      refine zz_st (st' := [.long (iL (ltm gn_19 gl_19 un))]) rfl (zz_ws (ws' := wMod z mh xT xD xP xR xC xW xA xH xU xB xI xN xM xY xK xL xE xS 0 m_ca m_tp m_fa m_at m_wr m_va m_pl m_st m_lo m_bl m_bc go_19 m_yl m_yw gu9_19 gl9_19 gu_19 gl_19 gn_19 kT kD kP kR kC kW kA kH kU kB kI kN kM kY kK gL_19 gE_19 gS_19) rfl ?_)
      exact zz_lret C hr dX10_lotsCost_45 ⟨_, gS_19, gu9_19, gl9_19, go_19, gu_19, gl_19, gn_19, gE_19, gL_19, Or.inl ⟨by omega, ⟨_, _, _, _, hlm_19, by first | (exfalso; omega) | rw [if_pos (by omega)] | rw [if_neg (by omega)]⟩⟩, rfl, rfl⟩
    · skip
      refine zz_aload_n C 0 dX10_lotsCost_26 rfl rfl ?_
      refine zz_get C 0 (ci := 10) (k := 35) rfl rfl in_X10 (by decide) qw_961 rfl rfl dX10_lotsCost_27 ?_
      refine zz_goto (tgt := 37) C dX10_lotsCost_30 (by decide) ?_
      refine zz_aload_n C 0 dX10_lotsCost_37 rfl rfl ?_
      refine zz_get C 0 (ci := 10) (k := 36) rfl rfl in_X10 (by decide) qw_962 rfl rfl dX10_lotsCost_38 ?_
      refine zz_iload_n C 2 dX10_lotsCost_41 rfl rfl ?_
      refine zz_callS (wr := wMod z mh xT xD xP xR xC xW xA xH xU xB xI xN xM xY xK xL xE xS 0 m_ca m_tp m_fa m_at m_wr m_va m_pl m_st m_lo m_bl m_bc go_19 m_yl m_yw gu9_19 gl9_19 gu_19 gl_19 gn_19 kT kD kP kR kC kW kA kH kU kB kI kN kM kY kK gL_19 gE_19 gS_19) (st := []) C (cc_X10_tells l z gu_19 gl_19 un (by omega) (by omega) (by omega)) yk_X10_tells qw_1233 ⟨by decide, by decide⟩ [] [0, 1, 2, 3, 4, 5, 6, 7, 8, 9, 10, 11, 12, 13, 14, 15, 16, 17, 18] rfl rfl rfl rfl (by decide) rfl rfl (Nat.le_of_ble_eq_true rfl) dX10_lotsCost_42 ⟨by decide, by decide⟩ ?_
      rintro _ _ ⟨rfl, rfl⟩
      refine zz_st (st' := [.long (iL (ltm gu_19 gl_19 un))]) rfl (zz_ws (ws' := wMod z mh xT xD xP xR xC xW xA xH xU xB xI xN xM xY xK xL xE xS 0 m_ca m_tp m_fa m_at m_wr m_va m_pl m_st m_lo m_bl m_bc go_19 m_yl m_yw gu9_19 gl9_19 gu_19 gl_19 gn_19 kT kD kP kR kC kW kA kH kU kB kI kN kM kY kK gL_19 gE_19 gS_19) rfl ?_)
      exact zz_lret C hr dX10_lotsCost_45 ⟨_, gS_19, gu9_19, gl9_19, go_19, gu_19, gl_19, gn_19, gE_19, gL_19, Or.inl ⟨by omega, ⟨_, _, _, _, hlm_19, by first | (exfalso; omega) | rw [if_pos (by omega)] | rw [if_neg (by omega)]⟩⟩, rfl, rfl⟩
  · skip
    refine zz_ldc2 (a := (-1)) C qw_1150 (by decide +kernel) dX10_lotsCost_14 ?_
    exact zz_lret C hr dX10_lotsCost_17 ⟨_, kS, m_nu, m_nl, m_fo, m_lu, m_ll, m_ln, kE, kL, Or.inr ⟨by omega, rfl⟩, rfl, rfl⟩
abbrev po_X10_take (z : zC) (mh : Nat) (xT : Nat) (xD : Nat) (xP : Nat) (xR : Nat) (xC : Nat) (xW : Nat) (xA : Nat) (xH : Nat) (xU : Nat) (xB : Nat) (xI : Nat) (xN : Nat) (xM : Nat) (xY : Nat) (xK : Nat) (xL : Nat) (xE : Nat) (xS : Nat) (m_ra : Int) (m_ca : Int) (m_tp : Int) (m_fa : Int) (m_at : Int) (m_wr : Int) (m_va : Int) (m_pl : Int) (m_st : Int) (m_lo : Int) (m_bl : Int) (m_bc : Int) (m_fo : Int) (m_yl : Int) (m_yw : Int) (m_nu : Int) (m_nl : Int) (m_lu : Int) (m_ll : Int) (m_ln : Int) (kT : Int → Int) (kD : Int → Int) (kP : Int → Int) (kR : Int → Int) (kC : Int → Int) (kW : Int → Int) (kA : Int → Int) (kH : Int → Int) (kU : Int → Int) (kB : Int → Int) (kI : Int → Int) (kN : Int → Int) (kM : Int → Int) (kY : Int → Int) (kK : Int → Int) (kL : Int → Int) (kE : Int → Int) (kS : Int → Int) : Option Value → va_W → Prop := fun v w => ∃ (q : Int), ∃ (gT : Int → Int), ∃ (gS : Int → Int), ∃ (gu9 : Int), ∃ (gl9 : Int), ∃ (go : Int), ∃ (gu : Int), ∃ (gl : Int), ∃ (gn : Int), ∃ (gE : Int → Int), ∃ (gL : Int → Int), (lotM kT gu gl gn gE) ∧ (q = (gn + gl - 1) / gl) ∧ (∀ i : Int, gT i = mTake (kT 1) kT gE i) ∧ v = some (Value.int (iI q)) ∧ w = wMod z mh xT xD xP xR xC xW xA xH xU xB xI xN xM xY xK xL xE xS 0 q m_tp m_fa m_at m_wr m_va m_pl m_st m_lo m_bl m_bc go m_yl m_yw gu9 gl9 gu gl gn gT kD kP kR kC kW kA kH kU kB kI kN kM kY kK gL gE gS
abbrev rm_X10_take : Room := { frames := 5, cells := 0, slots := 0, locals := 153 }
set_option maxHeartbeats 4000000 in
set_option maxRecDepth 100000 in
theorem cc_X10_take (l : Launch) (z : zC) (mh : Nat) (xT : Nat) (xD : Nat) (xP : Nat) (xR : Nat) (xC : Nat) (xW : Nat) (xA : Nat) (xH : Nat) (xU : Nat) (xB : Nat) (xI : Nat) (xN : Nat) (xM : Nat) (xY : Nat) (xK : Nat) (xL : Nat) (xE : Nat) (xS : Nat) (m_ra : Int) (m_ca : Int) (m_tp : Int) (m_fa : Int) (m_at : Int) (m_wr : Int) (m_va : Int) (m_pl : Int) (m_st : Int) (m_lo : Int) (m_bl : Int) (m_bc : Int) (m_fo : Int) (m_yl : Int) (m_yw : Int) (m_nu : Int) (m_nl : Int) (m_lu : Int) (m_ll : Int) (m_ln : Int) (kT : Int → Int) (kD : Int → Int) (kP : Int → Int) (kR : Int → Int) (kC : Int → Int) (kW : Int → Int) (kA : Int → Int) (kH : Int → Int) (kU : Int → Int) (kB : Int → Int) (kI : Int → Int) (kN : Int → Int) (kM : Int → Int) (kY : Int → Int) (kK : Int → Int) (kL : Int → Int) (kE : Int → Int) (kS : Int → Int) (hkT : mOk kT) (hk2 : mOk2 kT) (hk4 : ∀ b : Int, 0 ≤ b → b < kT 1 → kT (32 + b) ≤ 12) : zzMet l yX10_take cX10_take 2 (Option.some .int) rm_X10_take z [.ref mh] (wMod z mh xT xD xP xR xC xW xA xH xU xB xI xN xM xY xK xL xE xS m_ra m_ca m_tp m_fa m_at m_wr m_va m_pl m_st m_lo m_bl m_bc m_fo m_yl m_yw m_nu m_nl m_lu m_ll m_ln kT kD kP kR kC kW kA kH kU kB kI kN kM kY kK kL kE kS) (po_X10_take z mh xT xD xP xR xC xW xA xH xU xB xI xN xM xY xK xL xE xS m_ra m_ca m_tp m_fa m_at m_wr m_va m_pl m_st m_lo m_bl m_bc m_fo m_yl m_yw m_nu m_nl m_lu m_ll m_ln kT kD kP kR kC kW kA kH kU kB kI kN kM kY kK kL kE kS) := by
  refine zzMet.of (own := RX10) (ls0 := [(0, .ref mh)]) (by decide) rfl (Nat.le_of_ble_eq_true rfl) rfl ?_
  intro p e s m below meth c A C hr hnm
  have hk0 := hkT.1
  have hk1 := hkT.2.1
  refine zz_aload_n C 0 dX10_take_0 rfl rfl ?_
  refine zz_iconst C dX10_take_1 ?_
  refine zz_put (ty := .int) (ws' := wMod z mh xT xD xP xR xC xW xA xH xU xB xI xN xM xY xK xL xE xS 0 m_ca m_tp m_fa m_at m_wr m_va m_pl m_st m_lo m_bl m_bc m_fo m_yl m_yw m_nu m_nl m_lu m_ll m_ln kT kD kP kR kC kW kA kH kU kB kI kN kM kY kK kL kE kS) C 0 (ci := 10) (k := 0) rfl rfl in_X10 tyX10 tyX10_ok nmX10 (by decide) qw_926 rfl rfl (by decide +kernel) rfl rfl (Nat.le_of_ble_eq_true rfl) rfl dX10_take_2 ?_
  refine zz_aload_n C 0 dX10_take_5 rfl rfl ?_
  refine zz_callV (wr := ([] : va_W)) (st := []) C (cc_X10_buysLots l z mh xT xD xP xR xC xW xA xH xU xB xI xN xM xY xK xL xE xS 0 m_ca m_tp m_fa m_at m_wr m_va m_pl m_st m_lo m_bl m_bc m_fo m_yl m_yw m_nu m_nl m_lu m_ll m_ln kT kD kP kR kC kW kA kH kU kB kI kN kM kY kK kL kE kS (by omega) (by omega) hk4) yk_X10_buysLots qw_1283 ⟨by decide, by decide⟩ [0, 1, 2, 3, 4, 5, 6, 7, 8, 9, 10, 11, 12, 13, 14, 15, 16, 17, 18] [] rfl rfl rfl rfl (by decide) 0 10 rfl rfl rfl rfl (Nat.le_of_ble_eq_true rfl) dX10_take_6 ⟨by decide, by decide⟩ ?_
  rintro _ _ ⟨gS_6, gu9_6, gl9_6, go_6, gu_6, gl_6, gn_6, gE_6, gL_6, hlm_6, rfl, rfl⟩
  refine zz_st (st' := []) rfl (zz_ws (ws' := wMod z mh xT xD xP xR xC xW xA xH xU xB xI xN xM xY xK xL xE xS 0 m_ca m_tp m_fa m_at m_wr m_va m_pl m_st m_lo m_bl m_bc go_6 m_yl m_yw gu9_6 gl9_6 gu_6 gl_6 gn_6 kT kD kP kR kC kW kA kH kU kB kI kN kM kY kK gL_6 gE_6 gS_6) rfl ?_)
  have hz1 := hlm_6.2.2.2
  refine zz_iconst C dX10_take_9 ?_
  refine zz_istore_n (ls' := [(1, .int (iI 0)), (0, .ref mh)]) C dX10_take_10 rfl (by decide) rfl ?_
  have Lp11 : ∀ (fu9 : Nat) (k : Int) (gT : Int → Int), (0 ≤ k ∧ k ≤ kT 1) → (∀ i : Int, gT i = mTake k kT gE_6 i) → (kT 1 - k).toNat < fu9 → zzW p l e rm_X10_take s m ([.ref mh] : List Value).toArray below meth c z A 2 (MQ below (zQ z A (po_X10_take z mh xT xD xP xR xC xW xA xH xU xB xI xN xM xY xK xL xE xS m_ra m_ca m_tp m_fa m_at m_wr m_va m_pl m_st m_lo m_bl m_bc m_fo m_yl m_yw m_nu m_nl m_lu m_ll m_ln kT kD kP kR kC kW kA kH kU kB kI kN kM kY kK kL kE kS)) ([.ref mh] : List Value).toArray s 0 0 A) 0 0 (wMod z mh xT xD xP xR xC xW xA xH xU xB xI xN xM xY xK xL xE xS 0 m_ca m_tp m_fa m_at m_wr m_va m_pl m_st m_lo m_bl m_bc go_6 m_yl m_yw gu9_6 gl9_6 gu_6 gl_6 gn_6 gT kD kP kR kC kW kA kH kU kB kI kN kM kY kK gL_6 gE_6 gS_6) [(0, .ref mh), (1, .int (iI k))] [] 11 := by
    intro fu9
    induction fu9 with
    | zero => intro k gT hk hgT h9; exact absurd h9 (Nat.not_lt_zero _)
    | succ fu9 ih11 =>
      intro k gT hk hgT hm11
      refine zz_iload_n C 1 dX10_take_11 rfl rfl ?_
      refine zz_aload_n C 0 dX10_take_12 rfl rfl ?_
      refine zz_get C 0 (ci := 10) (k := 1) rfl rfl in_X10 (by decide) qw_927 rfl rfl dX10_take_13 ?_
      refine zz_iconst C dX10_take_16 ?_
      refine zz_iald C 1 rfl (by omega) (by omega) (by decide) dX10_take_17 ?_
      have h18 : gT 1 = kT 1 := by rw [hgT 1]; unfold mTake; rw [if_neg (by omega)]
      refine zz_icmp_ge (tgt := 42) C dX10_take_18 (by decide) (by unfold rI; omega) (by unfold rI; omega) (fun c18 => ?_) (fun c18 => ?_)
      · skip
        refine zz_aload_n C 0 dX10_take_42 rfl rfl ?_
        refine zz_aload_n C 0 dX10_take_43 rfl rfl ?_
        refine zz_get C 0 (ci := 10) (k := 37) rfl rfl in_X10 (by decide) qw_963 rfl rfl dX10_take_44 ?_
        refine zz_aload_n C 0 dX10_take_47 rfl rfl ?_
        refine zz_get C 0 (ci := 10) (k := 36) rfl rfl in_X10 (by decide) qw_962 rfl rfl dX10_take_48 ?_
        refine zz_ladd C dX10_take_51 ?_
        refine zz_lconst (a := 1) C dX10_take_52 (by decide +kernel) ?_
        refine zz_lsub C dX10_take_53 ?_
        refine zz_aload_n C 0 dX10_take_54 rfl rfl ?_
        refine zz_get C 0 (ci := 10) (k := 36) rfl rfl in_X10 (by decide) qw_962 rfl rfl dX10_take_55 ?_
        refine zz_ldiv C dX10_take_58 (by unfold rL; omega) (by unfold rL; omega) (by omega) (by omega) ?_
        refine zz_l2i C dX10_take_59 ?_
        refine zz_put (ty := .int) (ws' := wMod z mh xT xD xP xR xC xW xA xH xU xB xI xN xM xY xK xL xE xS 0 (((gn_6 + gl_6) - 1).tdiv gl_6) m_tp m_fa m_at m_wr m_va m_pl m_st m_lo m_bl m_bc go_6 m_yl m_yw gu9_6 gl9_6 gu_6 gl_6 gn_6 gT kD kP kR kC kW kA kH kU kB kI kN kM kY kK gL_6 gE_6 gS_6) C 0 (ci := 10) (k := 3) rfl rfl in_X10 tyX10 tyX10_ok nmX10 (by decide) qw_929 rfl rfl (by decide +kernel) rfl rfl (Nat.le_of_ble_eq_true rfl) rfl dX10_take_60 ?_
        refine zz_aload_n C 0 dX10_take_63 rfl rfl ?_
        refine zz_get C 0 (ci := 10) (k := 3) rfl rfl in_X10 (by decide) qw_929 rfl rfl dX10_take_64 ?_
        exact zz_iret C hr dX10_take_67 ⟨_, gT, gS_6, gu9_6, gl9_6, go_6, gu_6, gl_6, gn_6, gE_6, gL_6, hlm_6, Int.tdiv_eq_ediv_of_nonneg (by omega), by rw [show k = kT 1 by omega] at hgT; exact hgT, rfl, rfl⟩
      · skip
        refine zz_aload_n C 0 dX10_take_21 rfl rfl ?_
        refine zz_get C 0 (ci := 10) (k := 1) rfl rfl in_X10 (by decide) qw_927 rfl rfl dX10_take_22 ?_
        refine zz_bipush C dX10_take_25 (by decide +kernel) ?_
        refine zz_iload_n C 1 dX10_take_27 rfl rfl ?_
        refine zz_iadd C dX10_take_28 ?_
        refine zz_aload_n C 0 dX10_take_29 rfl rfl ?_
        refine zz_get C 0 (ci := 10) (k := 31) rfl rfl in_X10 (by decide) qw_957 rfl rfl dX10_take_30 ?_
        refine zz_iload_n C 1 dX10_take_33 rfl rfl ?_
        refine zz_iald C 17 rfl (by omega) (by omega) (by decide) dX10_take_34 ?_
        refine zz_iast (ws' := wMod z mh xT xD xP xR xC xW xA xH xU xB xI xN xM xY xK xL xE xS 0 m_ca m_tp m_fa m_at m_wr m_va m_pl m_st m_lo m_bl m_bc go_6 m_yl m_yw gu9_6 gl9_6 gu_6 gl_6 gn_6 (zup gT (42 + k) (gE_6 k)) kD kP kR kC kW kA kH kU kB kI kN kM kY kK gL_6 gE_6 gS_6) C 1 rfl (by omega) (by omega) (by decide) rfl dX10_take_35 ?_
        refine zz_iinc (ls' := [(1, .int (iI (k + 1))), (0, .ref mh)]) C 1 dX10_take_36 rfl (by decide) rfl ?_
        refine zz_goto (tgt := 11) C dX10_take_39 (by decide) ?_
        refine zz_loc (ls' := [(0, .ref mh), (1, .int (iI (k + 1)))]) [1, 0] rfl ?_
        exact ih11 (k + 1) (zup gT (42 + k) (gE_6 k)) (by omega) (mTake_step hgT hk.1) (by omega)
  refine zz_loc (ls' := [(0, .ref mh), (1, .int (iI 0))]) [1, 0] rfl ?_
  exact Lp11 _ 0 kT (by omega) (fun i => by unfold mTake; rw [if_neg (by omega)]) (Nat.lt_succ_self _)
