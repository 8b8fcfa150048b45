abbrev po_X10_laysBounds (z : zC) (mh : Nat) (xT : Nat) (xD : Nat) (xP : Nat) (xR : Nat) (xC : Nat) (xW : Nat) (xA : Nat) (xH : Nat) (xU : Nat) (xB : Nat) (xI : Nat) (xN : Nat) (xM : Nat) (xY : Nat) (xK : Nat) (xL : Nat) (xE : Nat) (xS : Nat) (m_ra : Int) (m_ca : Int) (m_tp : Int) (m_fa : Int) (m_at : Int) (m_wr : Int) (m_va : Int) (m_pl : Int) (m_st : Int) (m_lo : Int) (m_bl : Int) (m_bc : Int) (m_fo : Int) (m_yl : Int) (m_yw : Int) (m_nu : Int) (m_nl : Int) (m_lu : Int) (m_ll : Int) (m_ln : Int) (kT : Int → Int) (kD : Int → Int) (kP : Int → Int) (kR : Int → Int) (kC : Int → Int) (kW : Int → Int) (kA : Int → Int) (kH : Int → Int) (kU : Int → Int) (kB : Int → Int) (kI : Int → Int) (kN : Int → Int) (kM : Int → Int) (kY : Int → Int) (kK : Int → Int) (kL : Int → Int) (kE : Int → Int) (kS : Int → Int) : Option Value → va_W → Prop := fun v w => ∃ (gN : Int → Int), ∃ (gM : Int → Int), (∀ c r : Int, 0 ≤ c → c < 10 → 0 ≤ r → r < 4 → gN (4 * c + r) = mBF (kT 0) (kT 1) kT c (r + 1)) ∧ (∀ c : Int, 0 ≤ c → c < 10 → gM c = mBG (kT 0) (kT 1) kT c) ∧ v = none ∧ w = wMod z mh xT xD xP xR xC xW xA xH xU xB xI xN xM xY xK xL xE xS m_ra m_ca m_tp m_fa m_at m_wr m_va m_pl m_st m_lo m_bl m_bc m_fo m_yl m_yw m_nu m_nl m_lu m_ll m_ln kT kD kP kR kC kW kA kH kU kB kI gN gM kY kK kL kE kS
abbrev rm_X10_laysBounds : Room := { frames := 2, cells := 0, slots := 0, locals := 63 }
set_option maxHeartbeats 4000000 in
set_option maxRecDepth 100000 in
theorem cc_X10_laysBounds (l : Launch) (z : zC) (mh : Nat) (xT : Nat) (xD : Nat) (xP : Nat) (xR : Nat) (xC : Nat) (xW : Nat) (xA : Nat) (xH : Nat) (xU : Nat) (xB : Nat) (xI : Nat) (xN : Nat) (xM : Nat) (xY : Nat) (xK : Nat) (xL : Nat) (xE : Nat) (xS : Nat) (m_ra : Int) (m_ca : Int) (m_tp : Int) (m_fa : Int) (m_at : Int) (m_wr : Int) (m_va : Int) (m_pl : Int) (m_st : Int) (m_lo : Int) (m_bl : Int) (m_bc : Int) (m_fo : Int) (m_yl : Int) (m_yw : Int) (m_nu : Int) (m_nl : Int) (m_lu : Int) (m_ll : Int) (m_ln : Int) (kT : Int → Int) (kD : Int → Int) (kP : Int → Int) (kR : Int → Int) (kC : Int → Int) (kW : Int → Int) (kA : Int → Int) (kH : Int → Int) (kU : Int → Int) (kB : Int → Int) (kI : Int → Int) (kN : Int → Int) (kM : Int → Int) (kY : Int → Int) (kK : Int → Int) (kL : Int → Int) (kE : Int → Int) (kS : Int → Int) (hkT : mOk kT) (hk2 : mOk2 kT) : zzMet l yX10_laysBounds cX10_laysBounds 5 none rm_X10_laysBounds z [.ref mh] (wMod z mh xT xD xP xR xC xW xA xH xU xB xI xN xM xY xK xL xE xS m_ra m_ca m_tp m_fa m_at m_wr m_va m_pl m_st m_lo m_bl m_bc m_fo m_yl m_yw m_nu m_nl m_lu m_ll m_ln kT kD kP kR kC kW kA kH kU kB kI kN kM kY kK kL kE kS) (po_X10_laysBounds z mh xT xD xP xR xC xW xA xH xU xB xI xN xM xY xK xL xE xS m_ra m_ca m_tp m_fa m_at m_wr m_va m_pl m_st m_lo m_bl m_bc m_fo m_yl m_yw m_nu m_nl m_lu m_ll m_ln kT kD kP kR kC kW kA kH kU kB kI kN kM kY kK kL kE kS) := by
  refine zzMet.of (own := RX10) (ls0 := [(0, .ref mh)]) (by decide) rfl (Nat.le_of_ble_eq_true rfl) rfl ?_
  intro p e s m below meth c A C hr hnm
  have hk0 := hkT.1
  have hk1 := hkT.2.1
  refine zz_aload_n C 0 dX10_laysBounds_0 rfl rfl ?_
  refine zz_get C 0 (ci := 10) (k := 1) rfl rfl in_X10 (by decide) qw_927 rfl rfl dX10_laysBounds_1 ?_
  refine zz_iconst C dX10_laysBounds_4 ?_
  refine zz_iald C 1 rfl (by omega) (by omega) (by decide) dX10_laysBounds_5 ?_
  refine zz_istore_n (ls' := [(1, .int (iI (kT 0))), (0, .ref mh)]) C dX10_laysBounds_6 rfl (by decide) rfl ?_
  refine zz_aload_n C 1 dX10_laysBounds_7 rfl rfl ?_
  refine zz_get C 0 (ci := 10) (k := 1) rfl rfl in_X10 (by decide) qw_927 rfl rfl dX10_laysBounds_8 ?_
  refine zz_iconst C dX10_laysBounds_11 ?_
  refine zz_iald C 1 rfl (by omega) (by omega) (by decide) dX10_laysBounds_12 ?_
  refine zz_istore_n (ls' := [(2, .int (iI (kT 1))), (1, .int (iI (kT 0))), (0, .ref mh)]) C dX10_laysBounds_13 rfl (by decide) rfl ?_
  refine zz_iconst C dX10_laysBounds_14 ?_
  refine zz_istore_n (ls' := [(3, .int (iI 0)), (2, .int (iI (kT 1))), (1, .int (iI (kT 0))), (0, .ref mh)]) C dX10_laysBounds_15 rfl (by decide) rfl ?_
  have Lp16 : ∀ (fu9 : Nat) (z9 : Int) (gZ : Int → Int), (0 ≤ z9 ∧ z9 ≤ 40) → (∀ i : Int, 0 ≤ i → i < z9 → gZ i = 0) → (40 - z9).toNat < fu9 → zzW p l e rm_X10_laysBounds s m ([.ref mh] : List Value).toArray below meth c z A 5 (MQ below (zQ z A (po_X10_laysBounds z mh xT xD xP xR xC xW xA xH xU xB xI xN xM xY xK xL xE xS m_ra m_ca m_tp m_fa m_at m_wr m_va m_pl m_st m_lo m_bl m_bc m_fo m_yl m_yw m_nu m_nl m_lu m_ll m_ln kT kD kP kR kC kW kA kH kU kB kI kN kM kY kK kL kE kS)) ([.ref mh] : List Value).toArray s 0 0 A) 0 0 (wMod z mh xT xD xP xR xC xW xA xH xU xB xI xN xM xY xK xL xE xS m_ra m_ca m_tp m_fa m_at m_wr m_va m_pl m_st m_lo m_bl m_bc m_fo m_yl m_yw m_nu m_nl m_lu m_ll m_ln kT kD kP kR kC kW kA kH kU kB kI gZ kM kY kK kL kE kS) [(0, .ref mh), (1, .int (iI (kT 0))), (2, .int (iI (kT 1))), (3, .int (iI z9))] [] 16 := by
    intro fu9
    induction fu9 with
    | zero => intro z9 gZ hz9 hZ h9; exact absurd h9 (Nat.not_lt_zero _)
    | succ fu9 ih16 =>
      intro z9 gZ hz9 hZ hm16
      refine zz_iload_n C 3 dX10_laysBounds_16 rfl rfl ?_
      refine zz_bipush C dX10_laysBounds_17 (by decide +kernel) ?_
      refine zz_icmp_ge (tgt := 35) C dX10_laysBounds_19 (by decide) (by unfold rI; omega) (by unfold rI; omega) (fun c19 => ?_) (fun c19 => ?_)
      · skip
        refine zz_iconst C dX10_laysBounds_35 ?_
        refine zz_istore_n (ls' := [(3, .int (iI 0)), (0, .ref mh), (1, .int (iI (kT 0))), (2, .int (iI (kT 1)))]) C dX10_laysBounds_36 rfl (by decide) rfl ?_
        have Lp37 : ∀ (fu9 : Nat) (y9 : Int) (gQ9 : Int → Int), (0 ≤ y9 ∧ y9 ≤ 10) → (∀ i : Int, 0 ≤ i → i < y9 → gQ9 i = 0) → (10 - y9).toNat < fu9 → zzW p l e rm_X10_laysBounds s m ([.ref mh] : List Value).toArray below meth c z A 5 (MQ below (zQ z A (po_X10_laysBounds z mh xT xD xP xR xC xW xA xH xU xB xI xN xM xY xK xL xE xS m_ra m_ca m_tp m_fa m_at m_wr m_va m_pl m_st m_lo m_bl m_bc m_fo m_yl m_yw m_nu m_nl m_lu m_ll m_ln kT kD kP kR kC kW kA kH kU kB kI kN kM kY kK kL kE kS)) ([.ref mh] : List Value).toArray s 0 0 A) 0 0 (wMod z mh xT xD xP xR xC xW xA xH xU xB xI xN xM xY xK xL xE xS m_ra m_ca m_tp m_fa m_at m_wr m_va m_pl m_st m_lo m_bl m_bc m_fo m_yl m_yw m_nu m_nl m_lu m_ll m_ln kT kD kP kR kC kW kA kH kU kB kI gZ gQ9 kY kK kL kE kS) [(0, .ref mh), (1, .int (iI (kT 0))), (2, .int (iI (kT 1))), (3, .int (iI y9))] [] 37 := by
          intro fu9
          induction fu9 with
          | zero => intro y9 gQ9 hy9 hQ9 h9; exact absurd h9 (Nat.not_lt_zero _)
          | succ fu9 ih37 =>
            intro y9 gQ9 hy9 hQ9 hm37
            refine zz_iload_n C 3 dX10_laysBounds_37 rfl rfl ?_
            refine zz_bipush C dX10_laysBounds_38 (by decide +kernel) ?_
            refine zz_icmp_ge (tgt := 56) C dX10_laysBounds_40 (by decide) (by unfold rI; omega) (by unfold rI; omega) (fun c40 => ?_) (fun c40 => ?_)
            · skip
              refine zz_iconst C dX10_laysBounds_56 ?_
              refine zz_istore_n (ls' := [(3, .int (iI 0)), (0, .ref mh), (1, .int (iI (kT 0))), (2, .int (iI (kT 1)))]) C dX10_laysBounds_57 rfl (by decide) rfl ?_
              have Lp58 : ∀ (fu9 : Nat) (k : Int) (gW : Int → Int) (gM : Int → Int), (0 ≤ k ∧ k ≤ kT 1) → (∀ c r : Int, 0 ≤ c → c < 10 → 0 ≤ r → r < 4 → gW (4 * c + r) = b1 (kT 0) (kT 1) kT k 1 c (r + 1)) → (∀ c : Int, 0 ≤ c → c < 10 → gM c = if c < k then kT (27 + c) else 0) → (kT 1 - k).toNat < fu9 → zzW p l e rm_X10_laysBounds s m ([.ref mh] : List Value).toArray below meth c z A 5 (MQ below (zQ z A (po_X10_laysBounds z mh xT xD xP xR xC xW xA xH xU xB xI xN xM xY xK xL xE xS m_ra m_ca m_tp m_fa m_at m_wr m_va m_pl m_st m_lo m_bl m_bc m_fo m_yl m_yw m_nu m_nl m_lu m_ll m_ln kT kD kP kR kC kW kA kH kU kB kI kN kM kY kK kL kE kS)) ([.ref mh] : List Value).toArray s 0 0 A) 0 0 (wMod z mh xT xD xP xR xC xW xA xH xU xB xI xN xM xY xK xL xE xS m_ra m_ca m_tp m_fa m_at m_wr m_va m_pl m_st m_lo m_bl m_bc m_fo m_yl m_yw m_nu m_nl m_lu m_ll m_ln kT kD kP kR kC kW kA kH kU kB kI gW gM kY kK kL kE kS) [(0, .ref mh), (1, .int (iI (kT 0))), (2, .int (iI (kT 1))), (3, .int (iI k))] [] 58 := by
                intro fu9
                induction fu9 with
                | zero => intro k gW gM hk hW hM h9; exact absurd h9 (Nat.not_lt_zero _)
                | succ fu9 ih58 =>
                  intro k gW gM hk hW hM hm58
                  refine zz_iload_n C 3 dX10_laysBounds_58 rfl rfl ?_
                  refine zz_iload_n C 2 dX10_laysBounds_59 rfl rfl ?_
                  refine zz_icmp_ge (tgt := 121) C dX10_laysBounds_60 (by decide) (by unfold rI; omega) (by unfold rI; omega) (fun c60 => ?_) (fun c60 => ?_)
                  · skip
                    refine zz_iconst C dX10_laysBounds_121 ?_
                    refine zz_istore_n (ls' := [(3, .int (iI 1)), (0, .ref mh), (1, .int (iI (kT 0))), (2, .int (iI (kT 1)))]) C dX10_laysBounds_122 rfl (by decide) rfl ?_
                    have Lp123 : ∀ (fu9 : Nat) (s9 : Int) (gS9 : Int → Int), (1 ≤ s9 ∧ s9 ≤ kT 0) → (∀ c r : Int, 0 ≤ c → c < 10 → 0 ≤ r → r < 4 → gS9 (4 * c + r) = b2 (kT 0) (kT 1) kT s9 c (r + 1)) → (kT 0 - s9).toNat < fu9 → zzW p l e rm_X10_laysBounds s m ([.ref mh] : List Value).toArray below meth c z A 5 (MQ below (zQ z A (po_X10_laysBounds z mh xT xD xP xR xC xW xA xH xU xB xI xN xM xY xK xL xE xS m_ra m_ca m_tp m_fa m_at m_wr m_va m_pl m_st m_lo m_bl m_bc m_fo m_yl m_yw m_nu m_nl m_lu m_ll m_ln kT kD kP kR kC kW kA kH kU kB kI kN kM kY kK kL kE kS)) ([.ref mh] : List Value).toArray s 0 0 A) 0 0 (wMod z mh xT xD xP xR xC xW xA xH xU xB xI xN xM xY xK xL xE xS m_ra m_ca m_tp m_fa m_at m_wr m_va m_pl m_st m_lo m_bl m_bc m_fo m_yl m_yw m_nu m_nl m_lu m_ll m_ln kT kD kP kR kC kW kA kH kU kB kI gS9 gM kY kK kL kE kS) [(0, .ref mh), (1, .int (iI (kT 0))), (2, .int (iI (kT 1))), (3, .int (iI s9))] [] 123 := by
                      intro fu9
                      induction fu9 with
                      | zero => intro s9 gS9 hs9 hS9 h9; exact absurd h9 (Nat.not_lt_zero _)
                      | succ fu9 ih123 =>
                        intro s9 gS9 hs9 hS9 hm123
                        refine zz_iload_n C 3 dX10_laysBounds_123 rfl rfl ?_
                        refine zz_iload_n C 1 dX10_laysBounds_124 rfl rfl ?_
                        refine zz_icmp_ge (tgt := 183) C dX10_laysBounds_125 (by decide) (by unfold rI; omega) (by unfold rI; omega) (fun c125 => ?_) (fun c125 => ?_)
                        · skip
                          refine zz_aload_n C 0 dX10_laysBounds_183 rfl rfl ?_
                          refine zz_get C 0 (ci := 10) (k := 24) rfl rfl in_X10 (by decide) qw_950 rfl rfl dX10_laysBounds_184 ?_
                          refine zz_iconst C dX10_laysBounds_187 ?_
                          refine zz_iload_n C 2 dX10_laysBounds_188 rfl rfl ?_
                          refine zz_iload_n C 1 dX10_laysBounds_189 rfl rfl ?_
                          refine zz_iadd C dX10_laysBounds_190 ?_
                          refine zz_iconst C dX10_laysBounds_191 ?_
                          refine zz_isub C dX10_laysBounds_192 ?_
                          refine zz_imul C dX10_laysBounds_193 ?_
                          refine zz_iload_n C 1 dX10_laysBounds_194 rfl rfl ?_
                          refine zz_iadd C dX10_laysBounds_195 ?_
                          refine zz_iconst C dX10_laysBounds_196 ?_
                          refine zz_isub C dX10_laysBounds_197 ?_
                          refine zz_ldc2 (a := (-1)) C qw_1150 (by decide +kernel) dX10_laysBounds_198 ?_
                          refine zz_last (ws' := wMod z mh xT xD xP xR xC xW xA xH xU xB xI xN xM xY xK xL xE xS m_ra m_ca m_tp m_fa m_at m_wr m_va m_pl m_st m_lo m_bl m_bc m_fo m_yl m_yw m_nu m_nl m_lu m_ll m_ln kT kD kP kR kC kW kA kH kU kB kI (zup gS9 (((4 * (((kT 1) + (kT 0)) - 1)) + (kT 0)) - 1) (-1)) gM kY kK kL kE kS) C 12 rfl (by omega) (by omega) (by decide) rfl dX10_laysBounds_201 ?_
                          refine zz_aload_n C 0 dX10_laysBounds_202 rfl rfl ?_
                          refine zz_get C 0 (ci := 10) (k := 24) rfl rfl in_X10 (by decide) qw_950 rfl rfl dX10_laysBounds_203 ?_
                          refine zz_iconst C dX10_laysBounds_206 ?_
                          refine zz_iload_n C 2 dX10_laysBounds_207 rfl rfl ?_
                          refine zz_iload_n C 1 dX10_laysBounds_208 rfl rfl ?_
                          refine zz_iadd C dX10_laysBounds_209 ?_
                          refine zz_imul C dX10_laysBounds_210 ?_
                          have hr11 := hkT.2.2 8 (by omega) (by omega)
                          refine zz_ldc2 (a := 20) C qw_1196 (by decide +kernel) dX10_laysBounds_211 ?_
                          refine zz_aload_n C 0 dX10_laysBounds_214 rfl rfl ?_
                          refine zz_get C 0 (ci := 10) (k := 1) rfl rfl in_X10 (by decide) qw_927 rfl rfl dX10_laysBounds_215 ?_
                          refine zz_bipush C dX10_laysBounds_218 (by decide +kernel) ?_
                          refine zz_iald C 1 rfl (by omega) (by omega) (by decide) dX10_laysBounds_220 ?_
                          refine zz_i2l C dX10_laysBounds_221 (by unfold rI; omega) ?_
                          refine zz_ladd C dX10_laysBounds_222 ?_
                          refine zz_last (ws' := wMod z mh xT xD xP xR xC xW xA xH xU xB xI xN xM xY xK xL xE xS m_ra m_ca m_tp m_fa m_at m_wr m_va m_pl m_st m_lo m_bl m_bc m_fo m_yl m_yw m_nu m_nl m_lu m_ll m_ln kT kD kP kR kC kW kA kH kU kB kI (zup (zup gS9 (((4 * (((kT 1) + (kT 0)) - 1)) + (kT 0)) - 1) (-1)) (4 * ((kT 1) + (kT 0))) (20 + (kT 8))) gM kY kK kL kE kS) C 12 rfl (by omega) (by omega) (by decide) rfl dX10_laysBounds_223 ?_
                          refine zz_aload_n C 0 dX10_laysBounds_224 rfl rfl ?_
                          refine zz_get C 0 (ci := 10) (k := 25) rfl rfl in_X10 (by decide) qw_951 rfl rfl dX10_laysBounds_225 ?_
                          refine zz_iload_n C 2 dX10_laysBounds_228 rfl rfl ?_
                          refine zz_iload_n C 1 dX10_laysBounds_229 rfl rfl ?_
                          refine zz_iadd C dX10_laysBounds_230 ?_
                          refine zz_ldc2 (a := 20) C qw_1196 (by decide +kernel) dX10_laysBounds_231 ?_
                          refine zz_last (ws' := wMod z mh xT xD xP xR xC xW xA xH xU xB xI xN xM xY xK xL xE xS m_ra m_ca m_tp m_fa m_at m_wr m_va m_pl m_st m_lo m_bl m_bc m_fo m_yl m_yw m_nu m_nl m_lu m_ll m_ln kT kD kP kR kC kW kA kH kU kB kI (zup (zup gS9 (((4 * (((kT 1) + (kT 0)) - 1)) + (kT 0)) - 1) (-1)) (4 * ((kT 1) + (kT 0))) (20 + (kT 8))) (zup gM ((kT 1) + (kT 0)) 20) kY kK kL kE kS) C 13 rfl (by omega) (by omega) (by decide) rfl dX10_laysBounds_234 ?_
                          exact zz_vret C hr dX10_laysBounds_235 ⟨_, _, b2_end hS9 (by omega) (by omega) (by omega), fun c h0 h1 => by unfold zup mBG; by_cases e9 : c = kT 1 + kT 0; (rw [if_pos e9, if_neg (by omega), if_pos e9]); (rw [if_neg e9, hM c h0 h1]; (repeat' split) <;> first | rfl | (exfalso; omega)), rfl, rfl⟩
                        · skip
                          refine zz_aload_n C 0 dX10_laysBounds_128 rfl rfl ?_
                          refine zz_get C 0 (ci := 10) (k := 24) rfl rfl in_X10 (by decide) qw_950 rfl rfl dX10_laysBounds_129 ?_
                          refine zz_iconst C dX10_laysBounds_132 ?_
                          refine zz_iload_n C 2 dX10_laysBounds_133 rfl rfl ?_
                          refine zz_iload_n C 3 dX10_laysBounds_134 rfl rfl ?_
                          refine zz_iadd C dX10_laysBounds_135 ?_
                          refine zz_iconst C dX10_laysBounds_136 ?_
                          refine zz_isub C dX10_laysBounds_137 ?_
                          refine zz_imul C dX10_laysBounds_138 ?_
                          refine zz_iload_n C 3 dX10_laysBounds_139 rfl rfl ?_
                          refine zz_iadd C dX10_laysBounds_140 ?_
                          refine zz_iconst C dX10_laysBounds_141 ?_
                          refine zz_isub C dX10_laysBounds_142 ?_
                          refine zz_ldc2 (a := (-20)) C qw_1197 (by decide +kernel) dX10_laysBounds_143 ?_
                          refine zz_last (ws' := wMod z mh xT xD xP xR xC xW xA xH xU xB xI xN xM xY xK xL xE xS m_ra m_ca m_tp m_fa m_at m_wr m_va m_pl m_st m_lo m_bl m_bc m_fo m_yl m_yw m_nu m_nl m_lu m_ll m_ln kT kD kP kR kC kW kA kH kU kB kI (zup gS9 (((4 * (((kT 1) + s9) - 1)) + s9) - 1) (-20)) gM kY kK kL kE kS) C 12 rfl (by omega) (by omega) (by decide) rfl dX10_laysBounds_146 ?_
                          refine zz_aload_n C 0 dX10_laysBounds_147 rfl rfl ?_
                          refine zz_get C 0 (ci := 10) (k := 24) rfl rfl in_X10 (by decide) qw_950 rfl rfl dX10_laysBounds_148 ?_
                          refine zz_iconst C dX10_laysBounds_151 ?_
                          refine zz_iload_n C 2 dX10_laysBounds_152 rfl rfl ?_
                          refine zz_iload_n C 3 dX10_laysBounds_153 rfl rfl ?_
                          refine zz_iadd C dX10_laysBounds_154 ?_
                          refine zz_iconst C dX10_laysBounds_155 ?_
                          refine zz_isub C dX10_laysBounds_156 ?_
                          refine zz_imul C dX10_laysBounds_157 ?_
                          refine zz_iload_n C 3 dX10_laysBounds_158 rfl rfl ?_
                          refine zz_iadd C dX10_laysBounds_159 ?_
                          have hr60 := hkT.2.2 (7 + s9 + 1) (by omega) (by omega)
                          refine zz_ldc2 (a := 20) C qw_1196 (by decide +kernel) dX10_laysBounds_160 ?_
                          refine zz_aload_n C 0 dX10_laysBounds_163 rfl rfl ?_
                          refine zz_get C 0 (ci := 10) (k := 1) rfl rfl in_X10 (by decide) qw_927 rfl rfl dX10_laysBounds_164 ?_
                          refine zz_bipush C dX10_laysBounds_167 (by decide +kernel) ?_
                          refine zz_iload_n C 3 dX10_laysBounds_169 rfl rfl ?_
                          refine zz_iadd C dX10_laysBounds_170 ?_
                          refine zz_iconst C dX10_laysBounds_171 ?_
                          refine zz_iadd C dX10_laysBounds_172 ?_
                          refine zz_iald C 1 rfl (by omega) (by omega) (by decide) dX10_laysBounds_173 ?_
                          refine zz_i2l C dX10_laysBounds_174 (by unfold rI; omega) ?_
                          refine zz_ladd C dX10_laysBounds_175 ?_
                          refine zz_last (ws' := wMod z mh xT xD xP xR xC xW xA xH xU xB xI xN xM xY xK xL xE xS m_ra m_ca m_tp m_fa m_at m_wr m_va m_pl m_st m_lo m_bl m_bc m_fo m_yl m_yw m_nu m_nl m_lu m_ll m_ln kT kD kP kR kC kW kA kH kU kB kI (zup (zup gS9 (((4 * (((kT 1) + s9) - 1)) + s9) - 1) (-20)) ((4 * (((kT 1) + s9) - 1)) + s9) (20 + (kT ((7 + s9) + 1)))) gM kY kK kL kE kS) C 12 rfl (by omega) (by omega) (by decide) rfl dX10_laysBounds_176 ?_
                          refine zz_iinc (ls' := [(3, .int (iI (s9 + 1))), (0, .ref mh), (1, .int (iI (kT 0))), (2, .int (iI (kT 1)))]) C 3 dX10_laysBounds_177 rfl (by decide) rfl ?_
                          refine zz_goto (tgt := 123) C dX10_laysBounds_180 (by decide) ?_
                          refine zz_loc (ls' := [(0, .ref mh), (1, .int (iI (kT 0))), (2, .int (iI (kT 1))), (3, .int (iI (s9 + 1)))]) [1, 2, 3, 0] rfl ?_
                          exact ih123 (s9 + 1) (zup (zup gS9 (((4 * (((kT 1) + s9) - 1)) + s9) - 1) (-20)) ((4 * (((kT 1) + s9) - 1)) + s9) (20 + (kT ((7 + s9) + 1)))) (by omega) (b2_step hS9 (by omega) (by omega) (by omega)) (by omega)
                    refine zz_loc (ls' := [(0, .ref mh), (1, .int (iI (kT 0))), (2, .int (iI (kT 1))), (3, .int (iI 1))]) [1, 2, 3, 0] rfl ?_
                    exact Lp123 _ 1 gW (by omega) (fun c r h0 h1 h2 h3 => by rw [hW c r h0 h1 h2 h3]; exact b2_1 (by omega) c (r + 1)) (Nat.lt_succ_self _)
                  · skip
                    refine zz_iconst C dX10_laysBounds_63 ?_
                    refine zz_istore (ls' := [(4, .int (iI 1)), (0, .ref mh), (1, .int (iI (kT 0))), (2, .int (iI (kT 1))), (3, .int (iI k))]) C dX10_laysBounds_64 (by decide) rfl ?_
                    have Lp66 : ∀ (fu9 : Nat) (j : Int) (gX : Int → Int), (1 ≤ j ∧ j ≤ kT 0 + 1) → (∀ c r : Int, 0 ≤ c → c < 10 → 0 ≤ r → r < 4 → gX (4 * c + r) = b1 (kT 0) (kT 1) kT k j c (r + 1)) → (kT 0 + 1 - j).toNat < fu9 → zzW p l e rm_X10_laysBounds s m ([.ref mh] : List Value).toArray below meth c z A 5 (MQ below (zQ z A (po_X10_laysBounds z mh xT xD xP xR xC xW xA xH xU xB xI xN xM xY xK xL xE xS m_ra m_ca m_tp m_fa m_at m_wr m_va m_pl m_st m_lo m_bl m_bc m_fo m_yl m_yw m_nu m_nl m_lu m_ll m_ln kT kD kP kR kC kW kA kH kU kB kI kN kM kY kK kL kE kS)) ([.ref mh] : List Value).toArray s 0 0 A) 0 0 (wMod z mh xT xD xP xR xC xW xA xH xU xB xI xN xM xY xK xL xE xS m_ra m_ca m_tp m_fa m_at m_wr m_va m_pl m_st m_lo m_bl m_bc m_fo m_yl m_yw m_nu m_nl m_lu m_ll m_ln kT kD kP kR kC kW kA kH kU kB kI gX gM kY kK kL kE kS) [(0, .ref mh), (1, .int (iI (kT 0))), (2, .int (iI (kT 1))), (3, .int (iI k)), (4, .int (iI j))] [] 66 := by
                      intro fu9
                      induction fu9 with
                      | zero => intro j gX hj hX h9; exact absurd h9 (Nat.not_lt_zero _)
                      | succ fu9 ih66 =>
                        intro j gX hj hX hm66
                        refine zz_iload C 4 dX10_laysBounds_66 rfl ?_
                        refine zz_iload_n C 1 dX10_laysBounds_68 rfl rfl ?_
                        refine zz_icmp_gt (tgt := 99) C dX10_laysBounds_69 (by decide) (by unfold rI; omega) (by unfold rI; omega) (fun c69 => ?_) (fun c69 => ?_)
                        · skip
                          have hr99 := hkT.2.2 (27 + k) (by omega) (by omega)
                          refine zz_aload_n C 0 dX10_laysBounds_99 rfl rfl ?_
                          refine zz_get C 0 (ci := 10) (k := 25) rfl rfl in_X10 (by decide) qw_951 rfl rfl dX10_laysBounds_100 ?_
                          refine zz_iload_n C 3 dX10_laysBounds_103 rfl rfl ?_
                          refine zz_aload_n C 0 dX10_laysBounds_104 rfl rfl ?_
                          refine zz_get C 0 (ci := 10) (k := 1) rfl rfl in_X10 (by decide) qw_927 rfl rfl dX10_laysBounds_105 ?_
                          refine zz_bipush C dX10_laysBounds_108 (by decide +kernel) ?_
                          refine zz_iload_n C 3 dX10_laysBounds_110 rfl rfl ?_
                          refine zz_iadd C dX10_laysBounds_111 ?_
                          refine zz_iald C 1 rfl (by omega) (by omega) (by decide) dX10_laysBounds_112 ?_
                          refine zz_i2l C dX10_laysBounds_113 (by unfold rI; omega) ?_
                          refine zz_last (ws' := wMod z mh xT xD xP xR xC xW xA xH xU xB xI xN xM xY xK xL xE xS m_ra m_ca m_tp m_fa m_at m_wr m_va m_pl m_st m_lo m_bl m_bc m_fo m_yl m_yw m_nu m_nl m_lu m_ll m_ln kT kD kP kR kC kW kA kH kU kB kI gX (zup gM k (kT (27 + k))) kY kK kL kE kS) C 13 rfl (by omega) (by omega) (by decide) rfl dX10_laysBounds_114 ?_
                          refine zz_iinc (ls' := [(3, .int (iI (k + 1))), (0, .ref mh), (1, .int (iI (kT 0))), (2, .int (iI (kT 1))), (4, .int (iI j))]) C 3 dX10_laysBounds_115 rfl (by decide) rfl ?_
                          refine zz_goto (tgt := 58) C dX10_laysBounds_118 (by decide) ?_
                          refine zz_loc (ls' := [(0, .ref mh), (1, .int (iI (kT 0))), (2, .int (iI (kT 1))), (3, .int (iI (k + 1)))]) [1, 2, 3, 0] rfl ?_
                          exact ih58 (k + 1) gX (zup gM k (kT (27 + k))) (by omega) (fun c r h0 h1 h2 h3 => by rw [hX c r h0 h1 h2 h3]; exact (b1_next (by omega) c (r + 1)).resolve_right (by omega)) (fun c h0 h1 => by unfold zup; by_cases e9 : c = k; (rw [if_pos e9, if_pos (by omega), e9]); (rw [if_neg e9, hM c h0 h1]; (repeat' split) <;> first | rfl | (exfalso; omega))) (by omega)
                        · skip
                          refine zz_aload_n C 0 dX10_laysBounds_72 rfl rfl ?_
                          refine zz_get C 0 (ci := 10) (k := 24) rfl rfl in_X10 (by decide) qw_950 rfl rfl dX10_laysBounds_73 ?_
                          refine zz_iconst C dX10_laysBounds_76 ?_
                          refine zz_iload_n C 3 dX10_laysBounds_77 rfl rfl ?_
                          refine zz_imul C dX10_laysBounds_78 ?_
                          refine zz_iload C 4 dX10_laysBounds_79 rfl ?_
                          refine zz_iadd C dX10_laysBounds_81 ?_
                          refine zz_iconst C dX10_laysBounds_82 ?_
                          refine zz_isub C dX10_laysBounds_83 ?_
                          refine zz_aload_n C 0 dX10_laysBounds_84 rfl rfl ?_
                          refine zz_iload_n C 3 dX10_laysBounds_85 rfl rfl ?_
                          refine zz_iload C 4 dX10_laysBounds_86 rfl ?_
                          refine zz_callV (wr := ([] : va_W)) (st := [.int (iI (((4 * k) + j) - 1)), .ref xN]) C (cc_X10_yields l z mh xT xD xP xR xC xW xA xH xU xB xI xN xM xY xK xL xE xS m_ra m_ca m_tp m_fa m_at m_wr m_va m_pl m_st m_lo m_bl m_bc m_fo m_yl m_yw m_nu m_nl m_lu m_ll m_ln kT kD kP kR kC kW kA kH kU kB kI gX gM kY kK kL kE kS k j (by omega) (by omega) (by omega)) yk_X10_yields qw_1180 ⟨by decide, by decide⟩ [0, 1, 2, 3, 4, 5, 6, 7, 8, 9, 10, 11, 12, 13, 14, 15, 16, 17, 18] [] rfl rfl rfl rfl (by decide) 0 10 rfl rfl rfl rfl (Nat.le_of_ble_eq_true rfl) dX10_laysBounds_88 ⟨by decide, by decide⟩ ?_
                          rintro _ _ ⟨rfl, rfl⟩
                          refine zz_st (st' := [.int (iI (mYield kT k j)), .int (iI (((4 * k) + j) - 1)), .ref xN]) rfl (zz_ws (ws' := wMod z mh xT xD xP xR xC xW xA xH xU xB xI xN xM xY xK xL xE xS m_ra m_ca m_tp m_fa m_at m_wr m_va m_pl m_st m_lo m_bl m_bc m_fo m_yl m_yw m_nu m_nl m_lu m_ll m_ln kT kD kP kR kC kW kA kH kU kB kI gX gM kY kK kL kE kS) rfl ?_)
                          have hy88 := mYield_rng hkT (b := k) (by omega) j
                          refine zz_i2l C dX10_laysBounds_91 (by unfold rI; omega) ?_
                          refine zz_last (ws' := wMod z mh xT xD xP xR xC xW xA xH xU xB xI xN xM xY xK xL xE xS m_ra m_ca m_tp m_fa m_at m_wr m_va m_pl m_st m_lo m_bl m_bc m_fo m_yl m_yw m_nu m_nl m_lu m_ll m_ln kT kD kP kR kC kW kA kH kU kB kI (zup gX (((4 * k) + j) - 1) (mYield kT k j)) gM kY kK kL kE kS) C 12 rfl (by omega) (by omega) (by decide) rfl dX10_laysBounds_92 ?_
                          refine zz_iinc (ls' := [(4, .int (iI (j + 1))), (0, .ref mh), (1, .int (iI (kT 0))), (2, .int (iI (kT 1))), (3, .int (iI k))]) C 4 dX10_laysBounds_93 rfl (by decide) rfl ?_
                          refine zz_goto (tgt := 66) C dX10_laysBounds_96 (by decide) ?_
                          refine zz_loc (ls' := [(0, .ref mh), (1, .int (iI (kT 0))), (2, .int (iI (kT 1))), (3, .int (iI k)), (4, .int (iI (j + 1)))]) [1, 2, 3, 4, 0] rfl ?_
                          exact ih66 (j + 1) (zup gX (((4 * k) + j) - 1) (mYield kT k j)) (by omega) (b1_step hX (by omega) (by omega) (by omega) (by omega)) (by omega)
                    refine zz_loc (ls' := [(0, .ref mh), (1, .int (iI (kT 0))), (2, .int (iI (kT 1))), (3, .int (iI k)), (4, .int (iI 1))]) [1, 2, 3, 4, 0] rfl ?_
                    exact Lp66 _ 1 gW (by omega) hW (Nat.lt_succ_self _)
              refine zz_loc (ls' := [(0, .ref mh), (1, .int (iI (kT 0))), (2, .int (iI (kT 1))), (3, .int (iI 0))]) [1, 2, 3, 0] rfl ?_
              exact Lp58 _ 0 gZ gQ9 (by omega) (fun c r h0 h1 h2 h3 => by rw [hZ (4 * c + r) (by omega) (by omega)]; unfold b1; rw [if_neg (by omega)]) (fun c h0 h1 => by rw [hQ9 c h0 (by omega), if_neg (by omega)]) (Nat.lt_succ_self _)
            · skip
              refine zz_aload_n C 0 dX10_laysBounds_43 rfl rfl ?_
              refine zz_get C 0 (ci := 10) (k := 25) rfl rfl in_X10 (by decide) qw_951 rfl rfl dX10_laysBounds_44 ?_
              refine zz_iload_n C 3 dX10_laysBounds_47 rfl rfl ?_
              refine zz_lconst (a := 0) C dX10_laysBounds_48 (by decide +kernel) ?_
              refine zz_last (ws' := wMod z mh xT xD xP xR xC xW xA xH xU xB xI xN xM xY xK xL xE xS m_ra m_ca m_tp m_fa m_at m_wr m_va m_pl m_st m_lo m_bl m_bc m_fo m_yl m_yw m_nu m_nl m_lu m_ll m_ln kT kD kP kR kC kW kA kH kU kB kI gZ (zup gQ9 y9 0) kY kK kL kE kS) C 13 rfl (by omega) (by omega) (by decide) rfl dX10_laysBounds_49 ?_
              refine zz_iinc (ls' := [(3, .int (iI (y9 + 1))), (0, .ref mh), (1, .int (iI (kT 0))), (2, .int (iI (kT 1)))]) C 3 dX10_laysBounds_50 rfl (by decide) rfl ?_
              refine zz_goto (tgt := 37) C dX10_laysBounds_53 (by decide) ?_
              refine zz_loc (ls' := [(0, .ref mh), (1, .int (iI (kT 0))), (2, .int (iI (kT 1))), (3, .int (iI (y9 + 1)))]) [1, 2, 3, 0] rfl ?_
              exact ih37 (y9 + 1) (zup gQ9 y9 0) (by omega) (zup_all (f := fun _ => 0) hQ9 rfl) (by omega)
        refine zz_loc (ls' := [(0, .ref mh), (1, .int (iI (kT 0))), (2, .int (iI (kT 1))), (3, .int (iI 0))]) [1, 2, 3, 0] rfl ?_
        exact Lp37 _ 0 kM (by omega) (fun i h0 h1 => by omega) (Nat.lt_succ_self _)
      · skip
        refine zz_aload_n C 0 dX10_laysBounds_22 rfl rfl ?_
        refine zz_get C 0 (ci := 10) (k := 24) rfl rfl in_X10 (by decide) qw_950 rfl rfl dX10_laysBounds_23 ?_
        refine zz_iload_n C 3 dX10_laysBounds_26 rfl rfl ?_
        refine zz_lconst (a := 0) C dX10_laysBounds_27 (by decide +kernel) ?_
        refine zz_last (ws' := wMod z mh xT xD xP xR xC xW xA xH xU xB xI xN xM xY xK xL xE xS m_ra m_ca m_tp m_fa m_at m_wr m_va m_pl m_st m_lo m_bl m_bc m_fo m_yl m_yw m_nu m_nl m_lu m_ll m_ln kT kD kP kR kC kW kA kH kU kB kI (zup gZ z9 0) kM kY kK kL kE kS) C 12 rfl (by omega) (by omega) (by decide) rfl dX10_laysBounds_28 ?_
        refine zz_iinc (ls' := [(3, .int (iI (z9 + 1))), (0, .ref mh), (1, .int (iI (kT 0))), (2, .int (iI (kT 1)))]) C 3 dX10_laysBounds_29 rfl (by decide) rfl ?_
        refine zz_goto (tgt := 16) C dX10_laysBounds_32 (by decide) ?_
        refine zz_loc (ls' := [(0, .ref mh), (1, .int (iI (kT 0))), (2, .int (iI (kT 1))), (3, .int (iI (z9 + 1)))]) [1, 2, 3, 0] rfl ?_
        exact ih16 (z9 + 1) (zup gZ z9 0) (by omega) (zup_all (f := fun _ => 0) hZ rfl) (by omega)
  refine zz_loc (ls' := [(0, .ref mh), (1, .int (iI (kT 0))), (2, .int (iI (kT 1))), (3, .int (iI 0))]) [3, 2, 1, 0] rfl ?_
  exact Lp16 _ 0 kN (by omega) (fun i h0 h1 => by omega) (Nat.lt_succ_self _)
abbrev po_X10_solvesBounds (z : zC) (mh : Nat) (xT : Nat) (xD : Nat) (xP : Nat) (xR : Nat) (xC : Nat) (xW : Nat) (xA : Nat) (xH : Nat) (xU : Nat) (xB : Nat) (xI : Nat) (xN : Nat) (xM : Nat) (xY : Nat) (xK : Nat) (xL : Nat) (xE : Nat) (xS : Nat) (m_ra : Int) (m_ca : Int) (m_tp : Int) (m_fa : Int) (m_at : Int) (m_wr : Int) (m_va : Int) (m_pl : Int) (m_st : Int) (m_lo : Int) (m_bl : Int) (m_bc : Int) (m_fo : Int) (m_yl : Int) (m_yw : Int) (m_nu : Int) (m_nl : Int) (m_lu : Int) (m_ll : Int) (m_ln : Int) (kT : Int → Int) (kD : Int → Int) (kP : Int → Int) (kR : Int → Int) (kC : Int → Int) (kW : Int → Int) (kA : Int → Int) (kH : Int → Int) (kU : Int → Int) (kB : Int → Int) (kI : Int → Int) (kN : Int → Int) (kM : Int → Int) (kY : Int → Int) (kK : Int → Int) (kL : Int → Int) (kE : Int → Int) (kS : Int → Int) : Option Value → va_W → Prop := fun v w => ∃ (q : Int), ∃ (gW : Int → Int), ∃ (gA : Int → Int), ∃ (gK : Int → Int), ∃ (gC : Int → Int), ∃ (gU : Int → Int), ∃ (gl : Int), ∃ (gH : Int → Int), (eqT (kT 0) gH kH) ∧ ((q = 1 ∧ dSol (kT 0) (wE kN) kM kH gl gU) ∨ (q = 0 ∧ dB (kT 0) (wE kN) kH = 0)) ∧ v = some (Value.int (iI q)) ∧ w = wMod z mh xT xD xP xR xC xW xA xH xU xB xI xN xM xY xK xL xE xS m_ra m_ca m_tp m_fa m_at m_wr m_va m_pl m_st gl m_bl m_bc m_fo m_yl m_yw m_nu m_nl m_lu m_ll m_ln kT kD kP kR gC gW gA gH gU kB kI kN kM kY gK kL kE kS
abbrev rm_X10_solvesBounds : Room := { frames := 4, cells := 0, slots := 0, locals := 106 }
set_option maxHeartbeats 4000000 in
set_option maxRecDepth 100000 in
theorem cc_X10_solvesBounds (l : Launch) (z : zC) (mh : Nat) (xT : Nat) (xD : Nat) (xP : Nat) (xR : Nat) (xC : Nat) (xW : Nat) (xA : Nat) (xH : Nat) (xU : Nat) (xB : Nat) (xI : Nat) (xN : Nat) (xM : Nat) (xY : Nat) (xK : Nat) (xL : Nat) (xE : Nat) (xS : Nat) (m_ra : Int) (m_ca : Int) (m_tp : Int) (m_fa : Int) (m_at : Int) (m_wr : Int) (m_va : Int) (m_pl : Int) (m_st : Int) (m_lo : Int) (m_bl : Int) (m_bc : Int) (m_fo : Int) (m_yl : Int) (m_yw : Int) (m_nu : Int) (m_nl : Int) (m_lu : Int) (m_ll : Int) (m_ln : Int) (kT : Int → Int) (kD : Int → Int) (kP : Int → Int) (kR : Int → Int) (kC : Int → Int) (kW : Int → Int) (kA : Int → Int) (kH : Int → Int) (kU : Int → Int) (kB : Int → Int) (kI : Int → Int) (kN : Int → Int) (kM : Int → Int) (kY : Int → Int) (kK : Int → Int) (kL : Int → Int) (kE : Int → Int) (kS : Int → Int) (hkT : mOk kT) (hN60 : ∀ k r : Int, 0 ≤ k → k < 10 → 0 ≤ r → r < 4 → -60 ≤ kN (4 * k + r) ∧ kN (4 * k + r) ≤ 60) (hM2 : ∀ k : Int, 0 ≤ k → k < 10 → 0 ≤ kM k ∧ kM k ≤ 200) (hHr : ∀ i : Int, 0 ≤ i → i < kT 0 → 0 ≤ kH i ∧ kH i < 10) : zzMet l yX10_solvesBounds cX10_solvesBounds 4 (Option.some .boolean) rm_X10_solvesBounds z [.ref mh] (wMod z mh xT xD xP xR xC xW xA xH xU xB xI xN xM xY xK xL xE xS m_ra m_ca m_tp m_fa m_at m_wr m_va m_pl m_st m_lo m_bl m_bc m_fo m_yl m_yw m_nu m_nl m_lu m_ll m_ln kT kD kP kR kC kW kA kH kU kB kI kN kM kY kK kL kE kS) (po_X10_solvesBounds z mh xT xD xP xR xC xW xA xH xU xB xI xN xM xY xK xL xE xS m_ra m_ca m_tp m_fa m_at m_wr m_va m_pl m_st m_lo m_bl m_bc m_fo m_yl m_yw m_nu m_nl m_lu m_ll m_ln kT kD kP kR kC kW kA kH kU kB kI kN kM kY kK kL kE kS) := by
  refine zzMet.of (own := RX10) (ls0 := [(0, .ref mh)]) (by decide) rfl (Nat.le_of_ble_eq_true rfl) rfl ?_
  intro p e s m below meth c A C hr hnm
  have hk0 := hkT.1
  have hk1 := hkT.2.1
  refine zz_aload_n C 0 dX10_solvesBounds_0 rfl rfl ?_
  refine zz_get C 0 (ci := 10) (k := 1) rfl rfl in_X10 (by decide) qw_927 rfl rfl dX10_solvesBounds_1 ?_
  refine zz_iconst C dX10_solvesBounds_4 ?_
  refine zz_iald C 1 rfl (by omega) (by omega) (by decide) dX10_solvesBounds_5 ?_
  refine zz_istore_n (ls' := [(1, .int (iI (kT 0))), (0, .ref mh)]) C dX10_solvesBounds_6 rfl (by decide) rfl ?_
  refine zz_iconst C dX10_solvesBounds_7 ?_
  refine zz_istore_n (ls' := [(2, .int (iI 0)), (1, .int (iI (kT 0))), (0, .ref mh)]) C dX10_solvesBounds_8 rfl (by decide) rfl ?_
  have Lp9 : ∀ (fu9 : Nat) (k : Int) (gW : Int → Int), (0 ≤ k ∧ k ≤ kT 0) → (∀ c r : Int, 0 ≤ c → c < k → 0 ≤ r → r < 4 → gW (4 * c + r) = sbM (kT 0) kN kH c r) → (kT 0 - k).toNat < fu9 → zzW p l e rm_X10_solvesBounds s m ([.ref mh] : List Value).toArray below meth c z A 4 (MQ below (zQ z A (po_X10_solvesBounds z mh xT xD xP xR xC xW xA xH xU xB xI xN xM xY xK xL xE xS m_ra m_ca m_tp m_fa m_at m_wr m_va m_pl m_st m_lo m_bl m_bc m_fo m_yl m_yw m_nu m_nl m_lu m_ll m_ln kT kD kP kR kC kW kA kH kU kB kI kN kM kY kK kL kE kS)) ([.ref mh] : List Value).toArray s 0 0 A) 0 0 (wMod z mh xT xD xP xR xC xW xA xH xU xB xI xN xM xY xK xL xE xS m_ra m_ca m_tp m_fa m_at m_wr m_va m_pl m_st m_lo m_bl m_bc m_fo m_yl m_yw m_nu m_nl m_lu m_ll m_ln kT kD kP kR kC gW kA kH kU kB kI kN kM kY kK kL kE kS) [(0, .ref mh), (1, .int (iI (kT 0))), (2, .int (iI k))] [] 9 := by
    intro fu9
    induction fu9 with
    | zero => intro k gW hk hW h9; exact absurd h9 (Nat.not_lt_zero _)
    | succ fu9 ih9 =>
      intro k gW hk hW hm9
      refine zz_iload_n C 2 dX10_solvesBounds_9 rfl rfl ?_
      refine zz_iload_n C 1 dX10_solvesBounds_10 rfl rfl ?_
      refine zz_icmp_ge (tgt := 67) C dX10_solvesBounds_11 (by decide) (by unfold rI; omega) (by unfold rI; omega) (fun c11 => ?_) (fun c11 => ?_)
      · skip
        refine zz_iconst C dX10_solvesBounds_67 ?_
        refine zz_istore_n (ls' := [(2, .int (iI 0)), (0, .ref mh), (1, .int (iI (kT 0)))]) C dX10_solvesBounds_68 rfl (by decide) rfl ?_
        have Lp69 : ∀ (fu9 : Nat) (i9 : Int) (gA : Int → Int) (gK : Int → Int) (gI9 : Int → Int), (0 ≤ i9 ∧ i9 ≤ kT 0) → (∀ r : Int, 0 ≤ r → r < i9 → gA r = kM (kH r)) → (∀ r : Int, 0 ≤ r → r < i9 → gK r = kH r) → (∀ r : Int, 0 ≤ r → r < i9 → gI9 r = r) → (∀ r : Int, i9 ≤ r → gI9 r = kH r) → (kT 0 - i9).toNat < fu9 → zzW p l e rm_X10_solvesBounds s m ([.ref mh] : List Value).toArray below meth c z A 4 (MQ below (zQ z A (po_X10_solvesBounds z mh xT xD xP xR xC xW xA xH xU xB xI xN xM xY xK xL xE xS m_ra m_ca m_tp m_fa m_at m_wr m_va m_pl m_st m_lo m_bl m_bc m_fo m_yl m_yw m_nu m_nl m_lu m_ll m_ln kT kD kP kR kC kW kA kH kU kB kI kN kM kY kK kL kE kS)) ([.ref mh] : List Value).toArray s 0 0 A) 0 0 (wMod z mh xT xD xP xR xC xW xA xH xU xB xI xN xM xY xK xL xE xS m_ra m_ca m_tp m_fa m_at m_wr m_va m_pl m_st m_lo m_bl m_bc m_fo m_yl m_yw m_nu m_nl m_lu m_ll m_ln kT kD kP kR kC gW gA gI9 kU kB kI kN kM kY gK kL kE kS) [(0, .ref mh), (1, .int (iI (kT 0))), (2, .int (iI i9))] [] 69 := by
          intro fu9
          induction fu9 with
          | zero => intro i9 gA gK gI9 hi9 hA hK hI hI2 h9; exact absurd h9 (Nat.not_lt_zero _)
          | succ fu9 ih69 =>
            intro i9 gA gK gI9 hi9 hA hK hI hI2 hm69
            refine zz_iload_n C 2 dX10_solvesBounds_69 rfl rfl ?_
            refine zz_iload_n C 1 dX10_solvesBounds_70 rfl rfl ?_
            refine zz_icmp_ge (tgt := 116) C dX10_solvesBounds_71 (by decide) (by unfold rI; omega) (by unfold rI; omega) (fun c71 => ?_) (fun c71 => ?_)
            · skip
              have hie : i9 = kT 0 := by omega
              rw [hie] at hA hK hI
              have hke : k = kT 0 := by omega
              rw [hke] at hW
              have hW4 : ∀ c r : Int, 0 ≤ c → c < kT 0 → 0 ≤ r → r < kT 0 → gW (4 * c + r) = kN (4 * kH r + c) := fun c r h0 h1 h2 h3 => by rw [hW c r h0 h1 h2 (by omega)]; unfold sbM; rw [if_pos h3]
              refine zz_aload_n C 0 dX10_solvesBounds_116 rfl rfl ?_
              refine zz_callV (wr := ([] : va_W)) (st := []) C (cc_X10_solves l z mh xT xD xP xR xC xW xA xH xU xB xI xN xM xY xK xL xE xS m_ra m_ca m_tp m_fa m_at m_wr m_va m_pl m_st m_lo m_bl m_bc m_fo m_yl m_yw m_nu m_nl m_lu m_ll m_ln kT kD kP kR kC gW gA gI9 kU kB kI kN kM kY gK kL kE kS (by omega) (fun i r h0 h1 h2 h3 => by rw [hI i h0 h1, hW4 i r h0 h1 h2 h3]; have a := hHr r h2 h3; have := hN60 (kH r) i a.1 a.2 h0 (by omega); omega) (fun i r h0 h1 h2 h3 => by rw [hI i h0 h1, hW i r h0 h1 (by omega) h3]; unfold sbM; rw [if_neg (by omega)]) (fun i h0 h1 => by rw [hI i h0 h1]; omega) (fun r h0 h1 => by rw [hA r h0 h1]; have a := hHr r h0 h1; have := hM2 (kH r) a.1 a.2; omega)) yk_X10_solves qw_1206 ⟨by decide, by decide⟩ [0, 1, 2, 3, 4, 5, 6, 7, 8, 9, 10, 11, 12, 13, 14, 15, 16, 17, 18] [] rfl rfl rfl rfl (by decide) 0 10 rfl rfl rfl rfl (Nat.le_of_ble_eq_true rfl) dX10_solvesBounds_117 ⟨by decide, by decide⟩ ?_
              rintro _ _ ⟨q_117, gC_117, gU_117, gl_117, hq_117, rfl, rfl⟩
              refine zz_st (st' := [.int (iI q_117)]) rfl (zz_ws (ws' := wMod z mh xT xD xP xR xC xW xA xH xU xB xI xN xM xY xK xL xE xS m_ra m_ca m_tp m_fa m_at m_wr m_va m_pl m_st gl_117 m_bl m_bc m_fo m_yl m_yw m_nu m_nl m_lu m_ll m_ln kT kD kP kR gC_117 gW gA gI9 gU_117 kB kI kN kM kY gK kL kE kS) rfl ?_)
              have hq9 : (q_117 = 1 ∧ dSol (kT 0) (wE kN) kM kH gl_117 gU_117) ∨ (q_117 = 0 ∧ dB (kT 0) (wE kN) kH = 0) := by rcases hq_117 with ⟨a, b⟩ | ⟨a, b⟩; exact Or.inl ⟨a, dSol_of hW4 hA hI b⟩; exact Or.inr ⟨a, by rw [← dSol_dB hW4 hI]; exact b⟩
              refine zz_istore_n (ls' := [(2, .int (iI q_117)), (0, .ref mh), (1, .int (iI (kT 0)))]) C dX10_solvesBounds_120 rfl (by decide) rfl ?_
              refine zz_iconst C dX10_solvesBounds_121 ?_
              refine zz_istore_n (ls' := [(3, .int (iI 0)), (2, .int (iI q_117)), (0, .ref mh), (1, .int (iI (kT 0)))]) C dX10_solvesBounds_122 rfl (by decide) rfl ?_
              have Lp123 : ∀ (fu9 : Nat) (j9 : Int) (gH : Int → Int), (0 ≤ j9 ∧ j9 ≤ kT 0) → (∀ r : Int, 0 ≤ r → r < j9 → gH r = kH r) → (kT 0 - j9).toNat < fu9 → zzW p l e rm_X10_solvesBounds s m ([.ref mh] : List Value).toArray below meth c z A 4 (MQ below (zQ z A (po_X10_solvesBounds z mh xT xD xP xR xC xW xA xH xU xB xI xN xM xY xK xL xE xS m_ra m_ca m_tp m_fa m_at m_wr m_va m_pl m_st m_lo m_bl m_bc m_fo m_yl m_yw m_nu m_nl m_lu m_ll m_ln kT kD kP kR kC kW kA kH kU kB kI kN kM kY kK kL kE kS)) ([.ref mh] : List Value).toArray s 0 0 A) 0 0 (wMod z mh xT xD xP xR xC xW xA xH xU xB xI xN xM xY xK xL xE xS m_ra m_ca m_tp m_fa m_at m_wr m_va m_pl m_st gl_117 m_bl m_bc m_fo m_yl m_yw m_nu m_nl m_lu m_ll m_ln kT kD kP kR gC_117 gW gA gH gU_117 kB kI kN kM kY gK kL kE kS) [(0, .ref mh), (1, .int (iI (kT 0))), (2, .int (iI q_117)), (3, .int (iI j9))] [] 123 := by
                intro fu9
                induction fu9 with
                | zero => intro j9 gH hj9 hHH h9; exact absurd h9 (Nat.not_lt_zero _)
                | succ fu9 ih123 =>
                  intro j9 gH hj9 hHH hm123
                  refine zz_iload_n C 3 dX10_solvesBounds_123 rfl rfl ?_
                  refine zz_iload_n C 1 dX10_solvesBounds_124 rfl rfl ?_
                  refine zz_icmp_ge (tgt := 146) C dX10_solvesBounds_125 (by decide) (by unfold rI; omega) (by unfold rI; omega) (fun c125 => ?_) (fun c125 => ?_)
                  · skip
                    refine zz_iload_n C 2 dX10_solvesBounds_146 rfl rfl ?_
                    exact zz_zret C hr (zz_bool (by rcases hq9 with h | h; exact Or.inr h.1; exact Or.inl h.1)) dX10_solvesBounds_147 ⟨q_117, _, _, _, _, _, _, _, fun r h0 h1 => hHH r h0 (by omega), hq9, rfl, rfl⟩
                  · skip
                    refine zz_aload_n C 0 dX10_solvesBounds_128 rfl rfl ?_
                    refine zz_get C 0 (ci := 10) (k := 16) rfl rfl in_X10 (by decide) qw_942 rfl rfl dX10_solvesBounds_129 ?_
                    refine zz_iload_n C 3 dX10_solvesBounds_132 rfl rfl ?_
                    refine zz_aload_n C 0 dX10_solvesBounds_133 rfl rfl ?_
                    refine zz_get C 0 (ci := 10) (k := 29) rfl rfl in_X10 (by decide) qw_955 rfl rfl dX10_solvesBounds_134 ?_
                    refine zz_iload_n C 3 dX10_solvesBounds_137 rfl rfl ?_
                    refine zz_iald C 15 rfl (by omega) (by omega) (by decide) dX10_solvesBounds_138 ?_
                    refine zz_iast (ws' := wMod z mh xT xD xP xR xC xW xA xH xU xB xI xN xM xY xK xL xE xS m_ra m_ca m_tp m_fa m_at m_wr m_va m_pl m_st gl_117 m_bl m_bc m_fo m_yl m_yw m_nu m_nl m_lu m_ll m_ln kT kD kP kR gC_117 gW gA (zup gH j9 (gK j9)) gU_117 kB kI kN kM kY gK kL kE kS) C 8 rfl (by omega) (by omega) (by decide) rfl dX10_solvesBounds_139 ?_
                    refine zz_iinc (ls' := [(3, .int (iI (j9 + 1))), (0, .ref mh), (1, .int (iI (kT 0))), (2, .int (iI q_117))]) C 3 dX10_solvesBounds_140 rfl (by decide) rfl ?_
                    refine zz_goto (tgt := 123) C dX10_solvesBounds_143 (by decide) ?_
                    refine zz_loc (ls' := [(0, .ref mh), (1, .int (iI (kT 0))), (2, .int (iI q_117)), (3, .int (iI (j9 + 1)))]) [1, 2, 3, 0] rfl ?_
                    exact ih123 (j9 + 1) (zup gH j9 (gK j9)) (by omega) (zup_all hHH (hK j9 (by omega) (by omega))) (by omega)
              refine zz_loc (ls' := [(0, .ref mh), (1, .int (iI (kT 0))), (2, .int (iI q_117)), (3, .int (iI 0))]) [2, 3, 1, 0] rfl ?_
              exact Lp123 _ 0 gI9 (by omega) (fun r h0 h1 => by omega) (Nat.lt_succ_self _)
            · skip
              refine zz_aload_n C 0 dX10_solvesBounds_74 rfl rfl ?_
              refine zz_get C 0 (ci := 10) (k := 15) rfl rfl in_X10 (by decide) qw_941 rfl rfl dX10_solvesBounds_75 ?_
              refine zz_iload_n C 2 dX10_solvesBounds_78 rfl rfl ?_
              refine zz_aload_n C 0 dX10_solvesBounds_79 rfl rfl ?_
              refine zz_get C 0 (ci := 10) (k := 25) rfl rfl in_X10 (by decide) qw_951 rfl rfl dX10_solvesBounds_80 ?_
              have hh9 := hHr i9 (by omega) (by omega)
              have he9 := hI2 i9 (by omega)
              refine zz_aload_n C 0 dX10_solvesBounds_83 rfl rfl ?_
              refine zz_get C 0 (ci := 10) (k := 16) rfl rfl in_X10 (by decide) qw_942 rfl rfl dX10_solvesBounds_84 ?_
              refine zz_iload_n C 2 dX10_solvesBounds_87 rfl rfl ?_
              refine zz_iald C 8 rfl (by omega) (by omega) (by decide) dX10_solvesBounds_88 ?_
              refine zz_lald C 13 rfl (by omega) (by omega) (by decide) dX10_solvesBounds_89 ?_
              refine zz_last (ws' := wMod z mh xT xD xP xR xC xW xA xH xU xB xI xN xM xY xK xL xE xS m_ra m_ca m_tp m_fa m_at m_wr m_va m_pl m_st m_lo m_bl m_bc m_fo m_yl m_yw m_nu m_nl m_lu m_ll m_ln kT kD kP kR kC gW (zup gA i9 (kM (gI9 i9))) gI9 kU kB kI kN kM kY gK kL kE kS) C 7 rfl (by omega) (by omega) (by decide) rfl dX10_solvesBounds_90 ?_
              refine zz_aload_n C 0 dX10_solvesBounds_91 rfl rfl ?_
              refine zz_get C 0 (ci := 10) (k := 29) rfl rfl in_X10 (by decide) qw_955 rfl rfl dX10_solvesBounds_92 ?_
              refine zz_iload_n C 2 dX10_solvesBounds_95 rfl rfl ?_
              refine zz_aload_n C 0 dX10_solvesBounds_96 rfl rfl ?_
              refine zz_get C 0 (ci := 10) (k := 16) rfl rfl in_X10 (by decide) qw_942 rfl rfl dX10_solvesBounds_97 ?_
              refine zz_iload_n C 2 dX10_solvesBounds_100 rfl rfl ?_
              refine zz_iald C 8 rfl (by omega) (by omega) (by decide) dX10_solvesBounds_101 ?_
              refine zz_iast (ws' := wMod z mh xT xD xP xR xC xW xA xH xU xB xI xN xM xY xK xL xE xS m_ra m_ca m_tp m_fa m_at m_wr m_va m_pl m_st m_lo m_bl m_bc m_fo m_yl m_yw m_nu m_nl m_lu m_ll m_ln kT kD kP kR kC gW (zup gA i9 (kM (gI9 i9))) gI9 kU kB kI kN kM kY (zup gK i9 (gI9 i9)) kL kE kS) C 15 rfl (by omega) (by omega) (by decide) rfl dX10_solvesBounds_102 ?_
              refine zz_aload_n C 0 dX10_solvesBounds_103 rfl rfl ?_
              refine zz_get C 0 (ci := 10) (k := 16) rfl rfl in_X10 (by decide) qw_942 rfl rfl dX10_solvesBounds_104 ?_
              refine zz_iload_n C 2 dX10_solvesBounds_107 rfl rfl ?_
              refine zz_iload_n C 2 dX10_solvesBounds_108 rfl rfl ?_
              refine zz_iast (ws' := wMod z mh xT xD xP xR xC xW xA xH xU xB xI xN xM xY xK xL xE xS m_ra m_ca m_tp m_fa m_at m_wr m_va m_pl m_st m_lo m_bl m_bc m_fo m_yl m_yw m_nu m_nl m_lu m_ll m_ln kT kD kP kR kC gW (zup gA i9 (kM (gI9 i9))) (zup gI9 i9 i9) kU kB kI kN kM kY (zup gK i9 (gI9 i9)) kL kE kS) C 8 rfl (by omega) (by omega) (by decide) rfl dX10_solvesBounds_109 ?_
              refine zz_iinc (ls' := [(2, .int (iI (i9 + 1))), (0, .ref mh), (1, .int (iI (kT 0)))]) C 2 dX10_solvesBounds_110 rfl (by decide) rfl ?_
              refine zz_goto (tgt := 69) C dX10_solvesBounds_113 (by decide) ?_
              refine zz_loc (ls' := [(0, .ref mh), (1, .int (iI (kT 0))), (2, .int (iI (i9 + 1)))]) [1, 2, 0] rfl ?_
              exact ih69 (i9 + 1) (zup gA i9 (kM (gI9 i9))) (zup gK i9 (gI9 i9)) (zup gI9 i9 i9) (by omega) (zup_all (f := fun r => kM (kH r)) hA (by rw [hI2 i9 (by omega)])) (zup_all hK (hI2 i9 (by omega))) (zup_all (f := fun r => r) hI rfl) (fun r h0 => by rw [zup_ne (by omega)]; exact hI2 r (by omega)) (by omega)
        refine zz_loc (ls' := [(0, .ref mh), (1, .int (iI (kT 0))), (2, .int (iI 0))]) [1, 2, 0] rfl ?_
        exact Lp69 _ 0 kA kK kH (by omega) (fun r h0 h1 => by omega) (fun r h0 h1 => by omega) (fun r h0 h1 => by omega) (fun r h0 => rfl) (Nat.lt_succ_self _)
      · skip
        refine zz_iconst C dX10_solvesBounds_14 ?_
        refine zz_istore_n (ls' := [(3, .int (iI 0)), (0, .ref mh), (1, .int (iI (kT 0))), (2, .int (iI k))]) C dX10_solvesBounds_15 rfl (by decide) rfl ?_
        have Lp16 : ∀ (fu9 : Nat) (j : Int) (gX : Int → Int), (0 ≤ j ∧ j ≤ 4) → (∀ c r : Int, 0 ≤ c → 0 ≤ r → r < 4 → (c < k ∨ (c = k ∧ r < j)) → gX (4 * c + r) = sbM (kT 0) kN kH c r) → (4 - j).toNat < fu9 → zzW p l e rm_X10_solvesBounds s m ([.ref mh] : List Value).toArray below meth c z A 4 (MQ below (zQ z A (po_X10_solvesBounds z mh xT xD xP xR xC xW xA xH xU xB xI xN xM xY xK xL xE xS m_ra m_ca m_tp m_fa m_at m_wr m_va m_pl m_st m_lo m_bl m_bc m_fo m_yl m_yw m_nu m_nl m_lu m_ll m_ln kT kD kP kR kC kW kA kH kU kB kI kN kM kY kK kL kE kS)) ([.ref mh] : List Value).toArray s 0 0 A) 0 0 (wMod z mh xT xD xP xR xC xW xA xH xU xB xI xN xM xY xK xL xE xS m_ra m_ca m_tp m_fa m_at m_wr m_va m_pl m_st m_lo m_bl m_bc m_fo m_yl m_yw m_nu m_nl m_lu m_ll m_ln kT kD kP kR kC gX kA kH kU kB kI kN kM kY kK kL kE kS) [(0, .ref mh), (1, .int (iI (kT 0))), (2, .int (iI k)), (3, .int (iI j))] [] 16 := by
          intro fu9
          induction fu9 with
          | zero => intro j gX hj hX h9; exact absurd h9 (Nat.not_lt_zero _)
          | succ fu9 ih16 =>
            intro j gX hj hX hm16
            refine zz_iload_n C 3 dX10_solvesBounds_16 rfl rfl ?_
            refine zz_iconst C dX10_solvesBounds_17 ?_
            refine zz_icmp_ge (tgt := 61) C dX10_solvesBounds_18 (by decide) (by unfold rI; omega) (by unfold rI; omega) (fun c18 => ?_) (fun c18 => ?_)
            · skip
              refine zz_iinc (ls' := [(2, .int (iI (k + 1))), (0, .ref mh), (1, .int (iI (kT 0))), (3, .int (iI j))]) C 2 dX10_solvesBounds_61 rfl (by decide) rfl ?_
              refine zz_goto (tgt := 9) C dX10_solvesBounds_64 (by decide) ?_
              refine zz_loc (ls' := [(0, .ref mh), (1, .int (iI (kT 0))), (2, .int (iI (k + 1)))]) [1, 2, 0] rfl ?_
              exact ih9 (k + 1) gX (by omega) (fun c r h0 h1 h2 h3 => hX c r h0 h2 h3 (by omega)) (by omega)
            · skip
              refine zz_aload_n C 0 dX10_solvesBounds_21 rfl rfl ?_
              refine zz_get C 0 (ci := 10) (k := 14) rfl rfl in_X10 (by decide) qw_940 rfl rfl dX10_solvesBounds_22 ?_
              refine zz_iconst C dX10_solvesBounds_25 ?_
              refine zz_iload_n C 2 dX10_solvesBounds_26 rfl rfl ?_
              refine zz_imul C dX10_solvesBounds_27 ?_
              refine zz_iload_n C 3 dX10_solvesBounds_28 rfl rfl ?_
              refine zz_iadd C dX10_solvesBounds_29 ?_
              refine zz_iload_n C 3 dX10_solvesBounds_30 rfl rfl ?_
              refine zz_iload_n C 1 dX10_solvesBounds_31 rfl rfl ?_
              refine zz_icmp_ge (tgt := 53) C dX10_solvesBounds_32 (by decide) (by unfold rI; omega) (by unfold rI; omega) (fun c32 => ?_) (fun c32 => ?_)
              · skip
                refine zz_lconst (a := 0) C dX10_solvesBounds_53 (by decide +kernel) ?_
                have hv9 : 0 = sbM (kT 0) kN kH k j := by unfold sbM; (repeat' split) <;> first | rfl | (exfalso; omega)
                refine zz_last (ws' := wMod z mh xT xD xP xR xC xW xA xH xU xB xI xN xM xY xK xL xE xS m_ra m_ca m_tp m_fa m_at m_wr m_va m_pl m_st m_lo m_bl m_bc m_fo m_yl m_yw m_nu m_nl m_lu m_ll m_ln kT kD kP kR kC (zup gX ((4 * k) + j) 0) kA kH kU kB kI kN kM kY kK kL kE kS) C 6 rfl (by omega) (by omega) (by decide) rfl dX10_solvesBounds_54 ?_
                refine zz_iinc (ls' := [(3, .int (iI (j + 1))), (0, .ref mh), (1, .int (iI (kT 0))), (2, .int (iI k))]) C 3 dX10_solvesBounds_55 rfl (by decide) rfl ?_
                refine zz_goto (tgt := 16) C dX10_solvesBounds_58 (by decide) ?_
                refine zz_loc (ls' := [(0, .ref mh), (1, .int (iI (kT 0))), (2, .int (iI k)), (3, .int (iI (j + 1)))]) [1, 2, 3, 0] rfl ?_
                exact ih16 (j + 1) (zup gX ((4 * k) + j) 0) (by omega) (sb_step (T := kT 0) hX hj.1 (by omega) hv9) (by omega)
              · skip
                refine zz_aload_n C 0 dX10_solvesBounds_35 rfl rfl ?_
                refine zz_get C 0 (ci := 10) (k := 24) rfl rfl in_X10 (by decide) qw_950 rfl rfl dX10_solvesBounds_36 ?_
                refine zz_iconst C dX10_solvesBounds_39 ?_
                have hh9 := hHr j (by omega) (by omega)
                refine zz_aload_n C 0 dX10_solvesBounds_40 rfl rfl ?_
                refine zz_get C 0 (ci := 10) (k := 16) rfl rfl in_X10 (by decide) qw_942 rfl rfl dX10_solvesBounds_41 ?_
                refine zz_iload_n C 3 dX10_solvesBounds_44 rfl rfl ?_
                refine zz_iald C 8 rfl (by omega) (by omega) (by decide) dX10_solvesBounds_45 ?_
                refine zz_imul C dX10_solvesBounds_46 ?_
                refine zz_iload_n C 2 dX10_solvesBounds_47 rfl rfl ?_
                refine zz_iadd C dX10_solvesBounds_48 ?_
                refine zz_lald C 12 rfl (by omega) (by omega) (by decide) dX10_solvesBounds_49 ?_
                refine zz_goto (tgt := 54) C dX10_solvesBounds_50 (by decide) ?_
                have hv9 : (kN ((4 * (kH j)) + k)) = sbM (kT 0) kN kH k j := by unfold sbM; (repeat' split) <;> first | rfl | (exfalso; omega)
                refine zz_last (ws' := wMod z mh xT xD xP xR xC xW xA xH xU xB xI xN xM xY xK xL xE xS m_ra m_ca m_tp m_fa m_at m_wr m_va m_pl m_st m_lo m_bl m_bc m_fo m_yl m_yw m_nu m_nl m_lu m_ll m_ln kT kD kP kR kC (zup gX ((4 * k) + j) (kN ((4 * (kH j)) + k))) kA kH kU kB kI kN kM kY kK kL kE kS) C 6 rfl (by omega) (by omega) (by decide) rfl dX10_solvesBounds_54 ?_
                refine zz_iinc (ls' := [(3, .int (iI (j + 1))), (0, .ref mh), (1, .int (iI (kT 0))), (2, .int (iI k))]) C 3 dX10_solvesBounds_55 rfl (by decide) rfl ?_
                refine zz_goto (tgt := 16) C dX10_solvesBounds_58 (by decide) ?_
                refine zz_loc (ls' := [(0, .ref mh), (1, .int (iI (kT 0))), (2, .int (iI k)), (3, .int (iI (j + 1)))]) [1, 2, 3, 0] rfl ?_
                exact ih16 (j + 1) (zup gX ((4 * k) + j) (kN ((4 * (kH j)) + k))) (by omega) (sb_step (T := kT 0) hX hj.1 (by omega) hv9) (by omega)
        refine zz_loc (ls' := [(0, .ref mh), (1, .int (iI (kT 0))), (2, .int (iI k)), (3, .int (iI 0))]) [1, 2, 3, 0] rfl ?_
        exact Lp16 _ 0 gW (by omega) (fun c r h0 h2 h3 h4 => hW c r h0 (by omega) h2 h3) (Nat.lt_succ_self _)
  refine zz_loc (ls' := [(0, .ref mh), (1, .int (iI (kT 0))), (2, .int (iI 0))]) [2, 1, 0] rfl ?_
  exact Lp9 _ 0 kW (by omega) (fun c r h0 h1 => by omega) (Nat.lt_succ_self _)
abbrev po_X10_areKept (z : zC) (mh : Nat) (xT : Nat) (xD : Nat) (xP : Nat) (xR : Nat) (xC : Nat) (xW : Nat) (xA : Nat) (xH : Nat) (xU : Nat) (xB : Nat) (xI : Nat) (xN : Nat) (xM : Nat) (xY : Nat) (xK : Nat) (xL : Nat) (xE : Nat) (xS : Nat) (m_ra : Int) (m_ca : Int) (m_tp : Int) (m_fa : Int) (m_at : Int) (m_wr : Int) (m_va : Int) (m_pl : Int) (m_st : Int) (m_lo : Int) (m_bl : Int) (m_bc : Int) (m_fo : Int) (m_yl : Int) (m_yw : Int) (m_nu : Int) (m_nl : Int) (m_lu : Int) (m_ll : Int) (m_ln : Int) (kT : Int → Int) (kD : Int → Int) (kP : Int → Int) (kR : Int → Int) (kC : Int → Int) (kW : Int → Int) (kA : Int → Int) (kH : Int → Int) (kU : Int → Int) (kB : Int → Int) (kI : Int → Int) (kN : Int → Int) (kM : Int → Int) (kY : Int → Int) (kK : Int → Int) (kL : Int → Int) (kE : Int → Int) (kS : Int → Int) : Option Value → va_W → Prop := fun v w => ∃ (q : Int), ((q = 1 ∧ ∀ c : Int, 0 ≤ c → c < (kT 1 + kT 0 + 1) → dsum (kT 0) (wE kN) (fun d => kU (d - 1)) c ≤ m_lo * kM c) ∨ (q = 0 ∧ ∃ c : Int, 0 ≤ c ∧ c < (kT 1 + kT 0 + 1) ∧ ¬ dsum (kT 0) (wE kN) (fun d => kU (d - 1)) c ≤ m_lo * kM c)) ∧ v = some (Value.int (iI q)) ∧ w = wMod z mh xT xD xP xR xC xW xA xH xU xB xI xN xM xY xK xL xE xS m_ra m_ca m_tp m_fa m_at m_wr m_va m_pl m_st m_lo m_bl m_bc m_fo m_yl m_yw m_nu m_nl m_lu m_ll m_ln kT kD kP kR kC kW kA kH kU kB kI kN kM kY kK kL kE kS
abbrev rm_X10_areKept : Room := { frames := 1, cells := 0, slots := 0, locals := 40 }
set_option maxHeartbeats 4000000 in
set_option maxRecDepth 100000 in
theorem cc_X10_areKept (l : Launch) (z : zC) (mh : Nat) (xT : Nat) (xD : Nat) (xP : Nat) (xR : Nat) (xC : Nat) (xW : Nat) (xA : Nat) (xH : Nat) (xU : Nat) (xB : Nat) (xI : Nat) (xN : Nat) (xM : Nat) (xY : Nat) (xK : Nat) (xL : Nat) (xE : Nat) (xS : Nat) (m_ra : Int) (m_ca : Int) (m_tp : Int) (m_fa : Int) (m_at : Int) (m_wr : Int) (m_va : Int) (m_pl : Int) (m_st : Int) (m_lo : Int) (m_bl : Int) (m_bc : Int) (m_fo : Int) (m_yl : Int) (m_yw : Int) (m_nu : Int) (m_nl : Int) (m_lu : Int) (m_ll : Int) (m_ln : Int) (kT : Int → Int) (kD : Int → Int) (kP : Int → Int) (kR : Int → Int) (kC : Int → Int) (kW : Int → Int) (kA : Int → Int) (kH : Int → Int) (kU : Int → Int) (kB : Int → Int) (kI : Int → Int) (kN : Int → Int) (kM : Int → Int) (kY : Int → Int) (kK : Int → Int) (kL : Int → Int) (kE : Int → Int) (kS : Int → Int) (hkT : mOk kT) (hN60 : ∀ k r : Int, 0 ≤ k → k < 10 → 0 ≤ r → r < 4 → -60 ≤ kN (4 * k + r) ∧ kN (4 * k + r) ≤ 60) (hM2 : ∀ k : Int, 0 ≤ k → k < 10 → 0 ≤ kM k ∧ kM k ≤ 200) (hU : ∀ j : Int, 0 ≤ j → j < kT 0 → -6144000000000000 ≤ kU j ∧ kU j ≤ 6144000000000000) (hlo : 0 < m_lo ∧ m_lo ≤ 6144000000000000) : zzMet l yX10_areKept cX10_areKept 5 (Option.some .boolean) rm_X10_areKept z [.ref mh] (wMod z mh xT xD xP xR xC xW xA xH xU xB xI xN xM xY xK xL xE xS m_ra m_ca m_tp m_fa m_at m_wr m_va m_pl m_st m_lo m_bl m_bc m_fo m_yl m_yw m_nu m_nl m_lu m_ll m_ln kT kD kP kR kC kW kA kH kU kB kI kN kM kY kK kL kE kS) (po_X10_areKept z mh xT xD xP xR xC xW xA xH xU xB xI xN xM xY xK xL xE xS m_ra m_ca m_tp m_fa m_at m_wr m_va m_pl m_st m_lo m_bl m_bc m_fo m_yl m_yw m_nu m_nl m_lu m_ll m_ln kT kD kP kR kC kW kA kH kU kB kI kN kM kY kK kL kE kS) := by
  refine zzMet.of (own := RX10) (ls0 := [(0, .ref mh)]) (by decide) rfl (Nat.le_of_ble_eq_true rfl) rfl ?_
  intro p e s m below meth c A C hr hnm
  have hk0 := hkT.1
  have hk1 := hkT.2.1
  refine zz_iconst C dX10_areKept_0 ?_
  refine zz_istore_n (ls' := [(1, .int (iI 0)), (0, .ref mh)]) C dX10_areKept_1 rfl (by decide) rfl ?_
  have Lp2 : ∀ (fu9 : Nat) (k : Int), (0 ≤ k ∧ k ≤ kT 1 + kT 0 + 1) → (∀ c : Int, 0 ≤ c → c < k → dsum (kT 0) (wE kN) (fun d => kU (d - 1)) c ≤ m_lo * kM c) → (kT 1 + kT 0 + 1 - k).toNat < fu9 → zzW p l e rm_X10_areKept s m ([.ref mh] : List Value).toArray below meth c z A 5 (MQ below (zQ z A (po_X10_areKept z mh xT xD xP xR xC xW xA xH xU xB xI xN xM xY xK xL xE xS m_ra m_ca m_tp m_fa m_at m_wr m_va m_pl m_st m_lo m_bl m_bc m_fo m_yl m_yw m_nu m_nl m_lu m_ll m_ln kT kD kP kR kC kW kA kH kU kB kI kN kM kY kK kL kE kS)) ([.ref mh] : List Value).toArray s 0 0 A) 0 0 (wMod z mh xT xD xP xR xC xW xA xH xU xB xI xN xM xY xK xL xE xS m_ra m_ca m_tp m_fa m_at m_wr m_va m_pl m_st m_lo m_bl m_bc m_fo m_yl m_yw m_nu m_nl m_lu m_ll m_ln kT kD kP kR kC kW kA kH kU kB kI kN kM kY kK kL kE kS) [(0, .ref mh), (1, .int (iI k))] [] 2 := by
    intro fu9
    induction fu9 with
    | zero => intro k hk hx h9; exact absurd h9 (Nat.not_lt_zero _)
    | succ fu9 ih2 =>
      intro k hk hx hm2
      refine zz_iload_n C 1 dX10_areKept_2 rfl rfl ?_
      refine zz_aload_n C 0 dX10_areKept_3 rfl rfl ?_
      refine zz_get C 0 (ci := 10) (k := 1) rfl rfl in_X10 (by decide) qw_927 rfl rfl dX10_areKept_4 ?_
      refine zz_iconst C dX10_areKept_7 ?_
      refine zz_iald C 1 rfl (by omega) (by omega) (by decide) dX10_areKept_8 ?_
      refine zz_aload_n C 0 dX10_areKept_9 rfl rfl ?_
      refine zz_get C 0 (ci := 10) (k := 1) rfl rfl in_X10 (by decide) qw_927 rfl rfl dX10_areKept_10 ?_
      refine zz_iconst C dX10_areKept_13 ?_
      refine zz_iald C 1 rfl (by omega) (by omega) (by decide) dX10_areKept_14 ?_
      refine zz_iadd C dX10_areKept_15 ?_
      refine zz_icmp_gt (tgt := 87) C dX10_areKept_16 (by decide) (by unfold rI; omega) (by unfold rI; omega) (fun c16 => ?_) (fun c16 => ?_)
      · skip
        refine zz_iconst C dX10_areKept_87 ?_
        exact zz_zret C hr (by decide +kernel) dX10_areKept_88 ⟨1, Or.inl ⟨rfl, fun c h0 h1 => hx c h0 (by omega)⟩, rfl, rfl⟩
      · skip
        refine zz_lconst (a := 0) C dX10_areKept_19 (by decide +kernel) ?_
        refine zz_lstore_n (ls' := [(2, .long (iL 0)), (0, .ref mh), (1, .int (iI k))]) C dX10_areKept_20 rfl (by decide) rfl ?_
        refine zz_iconst C dX10_areKept_21 ?_
        refine zz_istore (ls' := [(4, .int (iI 0)), (2, .long (iL 0)), (0, .ref mh), (1, .int (iI k))]) C dX10_areKept_22 (by decide) rfl ?_
        have Lp24 : ∀ (fu9 : Nat) (j : Int) (sm : Int), (0 ≤ j ∧ j ≤ kT 0) → (sm = zsum (fun j => kN (4 * k + j) * kU j) j) → (kT 0 - j).toNat < fu9 → zzW p l e rm_X10_areKept s m ([.ref mh] : List Value).toArray below meth c z A 5 (MQ below (zQ z A (po_X10_areKept z mh xT xD xP xR xC xW xA xH xU xB xI xN xM xY xK xL xE xS m_ra m_ca m_tp m_fa m_at m_wr m_va m_pl m_st m_lo m_bl m_bc m_fo m_yl m_yw m_nu m_nl m_lu m_ll m_ln kT kD kP kR kC kW kA kH kU kB kI kN kM kY kK kL kE kS)) ([.ref mh] : List Value).toArray s 0 0 A) 0 0 (wMod z mh xT xD xP xR xC xW xA xH xU xB xI xN xM xY xK xL xE xS m_ra m_ca m_tp m_fa m_at m_wr m_va m_pl m_st m_lo m_bl m_bc m_fo m_yl m_yw m_nu m_nl m_lu m_ll m_ln kT kD kP kR kC kW kA kH kU kB kI kN kM kY kK kL kE kS) [(0, .ref mh), (1, .int (iI k)), (2, .long (iL sm)), (4, .int (iI j))] [] 24 := by
          intro fu9
          induction fu9 with
          | zero => intro j sm hj hsm h9; exact absurd h9 (Nat.not_lt_zero _)
          | succ fu9 ih24 =>
            intro j sm hj hsm hm24
            refine zz_iload C 3 dX10_areKept_24 rfl ?_
            refine zz_aload_n C 0 dX10_areKept_26 rfl rfl ?_
            refine zz_get C 0 (ci := 10) (k := 1) rfl rfl in_X10 (by decide) qw_927 rfl rfl dX10_areKept_27 ?_
            refine zz_iconst C dX10_areKept_30 ?_
            refine zz_iald C 1 rfl (by omega) (by omega) (by decide) dX10_areKept_31 ?_
            refine zz_icmp_ge (tgt := 63) C dX10_areKept_32 (by decide) (by unfold rI; omega) (by unfold rI; omega) (fun c32 => ?_) (fun c32 => ?_)
            · skip
              have hje : j = kT 0 := by omega
              rw [hje] at hsm
              have hr1 := ak_rng (T := kT 0) (k := kT 0) (c := k) (kN := kN) (kU := kU) (by omega) hk0.2 (fun j h0 h1 => hN60 k j (by omega) (by omega) h0 (by omega)) hU
              rw [← hsm] at hr1
              have hr2 := ak_lo (hM2 k (by omega) (by omega)) hlo
              have hsd := (hsm.trans ak_dsum)
              have hmc : kM k * m_lo = m_lo * kM k := Int.mul_comm _ _
              refine zz_lload_n C 2 dX10_areKept_63 rfl rfl ?_
              refine zz_aload_n C 0 dX10_areKept_64 rfl rfl ?_
              refine zz_get C 0 (ci := 10) (k := 25) rfl rfl in_X10 (by decide) qw_951 rfl rfl dX10_areKept_65 ?_
              refine zz_iload_n C 1 dX10_areKept_68 rfl rfl ?_
              refine zz_lald C 13 rfl (by omega) (by omega) (by decide) dX10_areKept_69 ?_
              refine zz_aload_n C 0 dX10_areKept_70 rfl rfl ?_
              refine zz_get C 0 (ci := 10) (k := 18) rfl rfl in_X10 (by decide) qw_944 rfl rfl dX10_areKept_71 ?_
              refine zz_lmul C dX10_areKept_74 ?_
              refine zz_lcmp_le (tgt := 81) C dX10_areKept_75 dX10_areKept_76 (by decide) (by unfold rL; omega) (by unfold rL; omega) (fun c75 => ?_) (fun c75 => ?_)
              · skip
                have hk9 : dsum (kT 0) (wE kN) (fun d => kU (d - 1)) k ≤ m_lo * kM k := by rw [← hsd]; omega
                refine zz_iinc (ls' := [(1, .int (iI (k + 1))), (0, .ref mh), (2, .long (iL sm)), (4, .int (iI j))]) C 1 dX10_areKept_81 rfl (by decide) rfl ?_
                refine zz_goto (tgt := 2) C dX10_areKept_84 (by decide) ?_
                refine zz_loc (ls' := [(0, .ref mh), (1, .int (iI (k + 1)))]) [1, 0] rfl ?_
                exact ih2 (k + 1) (by omega) (fun c h0 h1 => by rcases (show c = k ∨ c < k by omega) with e9 | e9; (rw [e9]; exact hk9); exact hx c h0 e9) (by omega)
              · skip
                refine zz_iconst C dX10_areKept_79 ?_
                exact zz_zret C hr (by decide +kernel) dX10_areKept_80 ⟨0, Or.inr ⟨rfl, k, by omega, by omega, by rw [← hsd]; omega⟩, rfl, rfl⟩
            · skip
              refine zz_lload_n C 2 dX10_areKept_35 rfl rfl ?_
              refine zz_aload_n C 0 dX10_areKept_36 rfl rfl ?_
              refine zz_get C 0 (ci := 10) (k := 24) rfl rfl in_X10 (by decide) qw_950 rfl rfl dX10_areKept_37 ?_
              refine zz_iconst C dX10_areKept_40 ?_
              refine zz_iload_n C 1 dX10_areKept_41 rfl rfl ?_
              refine zz_imul C dX10_areKept_42 ?_
              refine zz_iload C 3 dX10_areKept_43 rfl ?_
              refine zz_iadd C dX10_areKept_45 ?_
              refine zz_lald C 12 rfl (by omega) (by omega) (by decide) dX10_areKept_46 ?_
              refine zz_aload_n C 0 dX10_areKept_47 rfl rfl ?_
              refine zz_get C 0 (ci := 10) (k := 17) rfl rfl in_X10 (by decide) qw_943 rfl rfl dX10_areKept_48 ?_
              refine zz_iload C 3 dX10_areKept_51 rfl ?_
              refine zz_lald C 9 rfl (by omega) (by omega) (by decide) dX10_areKept_53 ?_
              refine zz_lmul C dX10_areKept_54 ?_
              refine zz_ladd C dX10_areKept_55 ?_
              refine zz_lstore_n (ls' := [(2, .long (iL (sm + ((kN ((4 * k) + j)) * (kU j))))), (0, .ref mh), (1, .int (iI k)), (4, .int (iI j))]) C dX10_areKept_56 rfl (by decide) rfl ?_
              refine zz_iinc (ls' := [(4, .int (iI (j + 1))), (2, .long (iL (sm + ((kN ((4 * k) + j)) * (kU j))))), (0, .ref mh), (1, .int (iI k))]) C 3 dX10_areKept_57 rfl (by decide) rfl ?_
              refine zz_goto (tgt := 24) C dX10_areKept_60 (by decide) ?_
              refine zz_loc (ls' := [(0, .ref mh), (1, .int (iI k)), (2, .long (iL (sm + ((kN ((4 * k) + j)) * (kU j))))), (4, .int (iI (j + 1)))]) [2, 3, 1, 0] rfl ?_
              exact ih24 (j + 1) (sm + ((kN ((4 * k) + j)) * (kU j))) (by omega) (ak_step (f := fun j => kN (4 * k + j)) (g := kU) hsm hj.1) (by omega)
        refine zz_loc (ls' := [(0, .ref mh), (1, .int (iI k)), (2, .long (iL 0)), (4, .int (iI 0))]) [2, 3, 1, 0] rfl ?_
        exact Lp24 _ 0 0 (by omega) rfl (Nat.lt_succ_self _)
  refine zz_loc (ls' := [(0, .ref mh), (1, .int (iI 0))]) [1, 0] rfl ?_
  exact Lp2 _ 0 (by omega) (fun c h0 h1 => by omega) (Nat.lt_succ_self _)
abbrev po_X10_triesBounds (z : zC) (mh : Nat) (xT : Nat) (xD : Nat) (xP : Nat) (xR : Nat) (xC : Nat) (xW : Nat) (xA : Nat) (xH : Nat) (xU : Nat) (xB : Nat) (xI : Nat) (xN : Nat) (xM : Nat) (xY : Nat) (xK : Nat) (xL : Nat) (xE : Nat) (xS : Nat) (m_ra : Int) (m_ca : Int) (m_tp : Int) (m_fa : Int) (m_at : Int) (m_wr : Int) (m_va : Int) (m_pl : Int) (m_st : Int) (m_lo : Int) (m_bl : Int) (m_bc : Int) (m_fo : Int) (m_yl : Int) (m_yw : Int) (m_nu : Int) (m_nl : Int) (m_lu : Int) (m_ll : Int) (m_ln : Int) (kT : Int → Int) (kD : Int → Int) (kP : Int → Int) (kR : Int → Int) (kC : Int → Int) (kW : Int → Int) (kA : Int → Int) (kH : Int → Int) (kU : Int → Int) (kB : Int → Int) (kI : Int → Int) (kN : Int → Int) (kM : Int → Int) (kY : Int → Int) (kK : Int → Int) (kL : Int → Int) (kE : Int → Int) (kS : Int → Int) : Option Value → va_W → Prop := fun v w => ∃ (gW : Int → Int), ∃ (gA : Int → Int), ∃ (gK : Int → Int), ∃ (gC : Int → Int), ∃ (gU : Int → Int), ∃ (gl : Int), ∃ (gH : Int → Int), ∃ (go : Int), ∃ (gb : Int), ∃ (gc : Int), ∃ (gY : Int → Int), (eqT (kT 0) gH kH) ∧ (tbP (kT 0) (kT 1 + kT 0 + 1) (wE kN) (fun d => kT (2 + d)) kM kH m_fo m_yl m_yw (yS kY) go gb gc (yS gY)) ∧ v = none ∧ w = wMod z mh xT xD xP xR xC xW xA xH xU xB xI xN xM xY xK xL xE xS m_ra m_ca m_tp m_fa m_at m_wr m_va m_pl m_st gl m_bl m_bc go gb gc m_nu m_nl m_lu m_ll m_ln kT kD kP kR gC gW gA gH gU kB kI kN kM gY gK kL kE kS
abbrev rm_X10_triesBounds : Room := { frames := 5, cells := 0, slots := 0, locals := 129 }
set_option maxHeartbeats 4000000 in
set_option maxRecDepth 100000 in
theorem cc_X10_triesBounds (l : Launch) (z : zC) (mh : Nat) (xT : Nat) (xD : Nat) (xP : Nat) (xR : Nat) (xC : Nat) (xW : Nat) (xA : Nat) (xH : Nat) (xU : Nat) (xB : Nat) (xI : Nat) (xN : Nat) (xM : Nat) (xY : Nat) (xK : Nat) (xL : Nat) (xE : Nat) (xS : Nat) (m_ra : Int) (m_ca : Int) (m_tp : Int) (m_fa : Int) (m_at : Int) (m_wr : Int) (m_va : Int) (m_pl : Int) (m_st : Int) (m_lo : Int) (m_bl : Int) (m_bc : Int) (m_fo : Int) (m_yl : Int) (m_yw : Int) (m_nu : Int) (m_nl : Int) (m_lu : Int) (m_ll : Int) (m_ln : Int) (kT : Int → Int) (kD : Int → Int) (kP : Int → Int) (kR : Int → Int) (kC : Int → Int) (kW : Int → Int) (kA : Int → Int) (kH : Int → Int) (kU : Int → Int) (kB : Int → Int) (kI : Int → Int) (kN : Int → Int) (kM : Int → Int) (kY : Int → Int) (kK : Int → Int) (kL : Int → Int) (kE : Int → Int) (kS : Int → Int) (hkT : mOk kT) (hN60 : ∀ k r : Int, 0 ≤ k → k < 10 → 0 ≤ r → r < 4 → -60 ≤ kN (4 * k + r) ∧ kN (4 * k + r) ≤ 60) (hM2 : ∀ k : Int, 0 ≤ k → k < 10 → 0 ≤ kM k ∧ kM k ≤ 200) (hin : inB (kT 0) (kT 1 + kT 0 + 1) kH) (hyp : ∀ D Y, (∀ c : Int, 0 ≤ c → c < (kT 1 + kT 0 + 1) → dsum (kT 0) (wE kN) Y c ≤ D * kM c) → ∀ d : Int, 1 ≤ d → d ≤ kT 0 → 0 ≤ Y d) (hfn : nFnd (kT 0) (fun d => kT (2 + d)) m_fo m_yl m_yw (yS kY)) : zzMet l yX10_triesBounds cX10_triesBounds 5 none rm_X10_triesBounds z [.ref mh] (wMod z mh xT xD xP xR xC xW xA xH xU xB xI xN xM xY xK xL xE xS m_ra m_ca m_tp m_fa m_at m_wr m_va m_pl m_st m_lo m_bl m_bc m_fo m_yl m_yw m_nu m_nl m_lu m_ll m_ln kT kD kP kR kC kW kA kH kU kB kI kN kM kY kK kL kE kS) (po_X10_triesBounds z mh xT xD xP xR xC xW xA xH xU xB xI xN xM xY xK xL xE xS m_ra m_ca m_tp m_fa m_at m_wr m_va m_pl m_st m_lo m_bl m_bc m_fo m_yl m_yw m_nu m_nl m_lu m_ll m_ln kT kD kP kR kC kW kA kH kU kB kI kN kM kY kK kL kE kS) := by
  refine zzMet.of (own := RX10) (ls0 := [(0, .ref mh)]) (by decide) rfl (Nat.le_of_ble_eq_true rfl) rfl ?_
  intro p e s m below meth c A C hr hnm
  have hk0 := hkT.1
  have hk1 := hkT.2.1
  have hHr : ∀ i : Int, 0 ≤ i → i < kT 0 → 0 ≤ kH i ∧ kH i < 10 := fun i a b => by have := hin i a b; omega
  obtain ⟨hfo, hfv⟩ := hfn
  refine zz_aload_n C 0 dX10_triesBounds_0 rfl rfl ?_
  refine zz_callV (wr := ([] : va_W)) (st := []) C (cc_X10_solvesBounds l z mh xT xD xP xR xC xW xA xH xU xB xI xN xM xY xK xL xE xS m_ra m_ca m_tp m_fa m_at m_wr m_va m_pl m_st m_lo m_bl m_bc m_fo m_yl m_yw m_nu m_nl m_lu m_ll m_ln kT kD kP kR kC kW kA kH kU kB kI kN kM kY kK kL kE kS (by omega) (by omega) (by omega) hHr) yk_X10_solvesBounds qw_1267 ⟨by decide, by decide⟩ [0, 1, 2, 3, 4, 5, 6, 7, 8, 9, 10, 11, 12, 13, 14, 15, 16, 17, 18] [] rfl rfl rfl rfl (by decide) 0 10 rfl rfl rfl rfl (Nat.le_of_ble_eq_true rfl) dX10_triesBounds_1 ⟨by decide, by decide⟩ ?_
  rintro _ _ ⟨q_1, gW_1, gA_1, gK_1, gC_1, gU_1, gl_1, gH_1, hH2_1, hq_1, rfl, rfl⟩
  refine zz_st (st' := [.int (iI q_1)]) rfl (zz_ws (ws' := wMod z mh xT xD xP xR xC xW xA xH xU xB xI xN xM xY xK xL xE xS m_ra m_ca m_tp m_fa m_at m_wr m_va m_pl m_st gl_1 m_bl m_bc m_fo m_yl m_yw m_nu m_nl m_lu m_ll m_ln kT kD kP kR gC_1 gW_1 gA_1 gH_1 gU_1 kB kI kN kM kY gK_1 kL kE kS) rfl ?_)
  refine zz_if_eq (tgt := 14) C dX10_triesBounds_4 (by decide) (by unfold rI; omega) (fun c4 => ?_) (fun c4 => ?_)
  · skip
    have hno : ∀ D V, ¬ dcand (kT 0) (kT 1 + kT 0 + 1) (wE kN) kM kH D V := fun D V h => h.2.1 (hq_1.resolve_left (fun h => by omega)).2
    exact zz_vret C hr dX10_triesBounds_14 ⟨gW_1, gA_1, gK_1, gC_1, gU_1, gl_1, gH_1, m_fo, m_yl, m_yw, kY, hH2_1, Or.inl ⟨hno, rfl, rfl, rfl, rfl⟩, rfl, rfl⟩
  · skip
    have hsl := (hq_1.resolve_right (fun h => by omega)).2
    clear hq_1
    refine zz_aload_n C 0 dX10_triesBounds_7 rfl rfl ?_
    refine zz_callV (wr := ([] : va_W)) (st := []) C (cc_X10_areKept l z mh xT xD xP xR xC xW xA xH xU xB xI xN xM xY xK xL xE xS m_ra m_ca m_tp m_fa m_at m_wr m_va m_pl m_st gl_1 m_bl m_bc m_fo m_yl m_yw m_nu m_nl m_lu m_ll m_ln kT kD kP kR gC_1 gW_1 gA_1 gH_1 gU_1 kB kI kN kM kY gK_1 kL kE kS (by omega) (by omega) (by omega) hsl.2.2.1 hsl.2.1) yk_X10_areKept qw_1271 ⟨by decide, by decide⟩ [0, 1, 2, 3, 4, 5, 6, 7, 8, 9, 10, 11, 12, 13, 14, 15, 16, 17, 18] [] rfl rfl rfl rfl (by decide) 0 10 rfl rfl rfl rfl (Nat.le_of_ble_eq_true rfl) dX10_triesBounds_8 ⟨by decide, by decide⟩ ?_
    rintro _ _ ⟨q_8, hq_8, rfl, rfl⟩
    refine zz_st (st' := [.int (iI q_8)]) rfl (zz_ws (ws' := wMod z mh xT xD xP xR xC xW xA xH xU xB xI xN xM xY xK xL xE xS m_ra m_ca m_tp m_fa m_at m_wr m_va m_pl m_st gl_1 m_bl m_bc m_fo m_yl m_yw m_nu m_nl m_lu m_ll m_ln kT kD kP kR gC_1 gW_1 gA_1 gH_1 gU_1 kB kI kN kM kY gK_1 kL kE kS) rfl ?_)
    refine zz_if_ne (tgt := 15) C dX10_triesBounds_11 (by decide) (by unfold rI; omega) (fun c11 => ?_) (fun c11 => ?_)
    · skip
      have hkp := (hq_8.resolve_right (fun h => by omega)).2
      clear hq_8
      have hdc := dcand_sol hsl hin hkp
      have hyp9 := hyp gl_1 (yS gU_1) hkp
      have hl9 := hsl.2.1
      refine zz_lconst (a := 0) C dX10_triesBounds_15 (by decide +kernel) ?_
      refine zz_lstore_n (ls' := [(1, .long (iL 0)), (0, .ref mh)]) C dX10_triesBounds_16 rfl (by decide) rfl ?_
      refine zz_iconst C dX10_triesBounds_17 ?_
      refine zz_istore_n (ls' := [(3, .int (iI 1)), (1, .long (iL 0)), (0, .ref mh)]) C dX10_triesBounds_18 rfl (by decide) rfl ?_
      have Lp19 : ∀ (fu9 : Nat) (k : Int) (pz : Int), (1 ≤ k ∧ k ≤ kT 0 + 1) → (pz = zsum (fun j => yS gU_1 (j + 1) * (fun d => kT (2 + d)) (j + 1)) (k - 1)) → (kT 0 + 1 - k).toNat < fu9 → zzW p l e rm_X10_triesBounds s m ([.ref mh] : List Value).toArray below meth c z A 5 (MQ below (zQ z A (po_X10_triesBounds z mh xT xD xP xR xC xW xA xH xU xB xI xN xM xY xK xL xE xS m_ra m_ca m_tp m_fa m_at m_wr m_va m_pl m_st m_lo m_bl m_bc m_fo m_yl m_yw m_nu m_nl m_lu m_ll m_ln kT kD kP kR kC kW kA kH kU kB kI kN kM kY kK kL kE kS)) ([.ref mh] : List Value).toArray s 0 0 A) 0 0 (wMod z mh xT xD xP xR xC xW xA xH xU xB xI xN xM xY xK xL xE xS m_ra m_ca m_tp m_fa m_at m_wr m_va m_pl m_st gl_1 m_bl m_bc m_fo m_yl m_yw m_nu m_nl m_lu m_ll m_ln kT kD kP kR gC_1 gW_1 gA_1 gH_1 gU_1 kB kI kN kM kY gK_1 kL kE kS) [(0, .ref mh), (1, .long (iL pz)), (3, .int (iI k))] [] 19 := by
        intro fu9
        induction fu9 with
        | zero => intro k pz hk hpz h9; exact absurd h9 (Nat.not_lt_zero _)
        | succ fu9 ih19 =>
          intro k pz hk hpz hm19
          refine zz_iload_n C 2 dX10_triesBounds_19 rfl rfl ?_
          refine zz_aload_n C 0 dX10_triesBounds_20 rfl rfl ?_
          refine zz_get C 0 (ci := 10) (k := 1) rfl rfl in_X10 (by decide) qw_927 rfl rfl dX10_triesBounds_21 ?_
          refine zz_iconst C dX10_triesBounds_24 ?_
          refine zz_iald C 1 rfl (by omega) (by omega) (by decide) dX10_triesBounds_25 ?_
          refine zz_icmp_gt (tgt := 56) C dX10_triesBounds_26 (by decide) (by unfold rI; omega) (by unfold rI; omega) (fun c26 => ?_) (fun c26 => ?_)
          · skip
            have hke : k - 1 = kT 0 := by omega
            rw [hke] at hpz
            have hnb := nBd_of (T := kT 0) (O := fun d => kT (2 + d)) (Y := yS gU_1) hk0.1 hk0.2 hpz (fun r a b => hkT.2.2 (2 + r) (by omega) (by omega)) (fun d a b => ⟨hyp9 d a b, (hsl.2.2.1 (d - 1) (by omega) (by omega)).2⟩)
            have hnb1 := hnb.2.1
            refine zz_aload_n C 0 dX10_triesBounds_56 rfl rfl ?_
            refine zz_get C 0 (ci := 10) (k := 22) rfl rfl in_X10 (by decide) qw_948 rfl rfl dX10_triesBounds_57 ?_
            refine zz_if_eq (tgt := 83) C dX10_triesBounds_60 (by decide) (by unfold rI; omega) (fun c60 => ?_) (fun c60 => ?_)
            · skip
              refine zz_iconst C dX10_triesBounds_83 ?_
              refine zz_istore_n (ls' := [(3, .int (iI (-1))), (0, .ref mh), (1, .long (iL pz))]) C dX10_triesBounds_84 rfl (by decide) rfl ?_
              refine zz_iconst C dX10_triesBounds_85 ?_
              refine zz_istore (ls' := [(4, .int (iI 0)), (3, .int (iI (-1))), (0, .ref mh), (1, .long (iL pz))]) C dX10_triesBounds_86 (by decide) rfl ?_
              have Lp88 : ∀ (fu9 : Nat) (b9 : Int) (o9 : Int), (0 ≤ b9 ∧ b9 ≤ kT 0) → ((m_fo = 0 ∧ o9 = -1) ∨ (m_fo = 1 ∧ lexS (b9 + 1) gl_1 (kd pz (yS gU_1)) m_yl (kd m_yw (yS kY)) o9)) → (kT 0 - b9).toNat < fu9 → zzW p l e rm_X10_triesBounds s m ([.ref mh] : List Value).toArray below meth c z A 5 (MQ below (zQ z A (po_X10_triesBounds z mh xT xD xP xR xC xW xA xH xU xB xI xN xM xY xK xL xE xS m_ra m_ca m_tp m_fa m_at m_wr m_va m_pl m_st m_lo m_bl m_bc m_fo m_yl m_yw m_nu m_nl m_lu m_ll m_ln kT kD kP kR kC kW kA kH kU kB kI kN kM kY kK kL kE kS)) ([.ref mh] : List Value).toArray s 0 0 A) 0 0 (wMod z mh xT xD xP xR xC xW xA xH xU xB xI xN xM xY xK xL xE xS m_ra m_ca m_tp m_fa m_at m_wr m_va m_pl m_st gl_1 m_bl m_bc m_fo m_yl m_yw m_nu m_nl m_lu m_ll m_ln kT kD kP kR gC_1 gW_1 gA_1 gH_1 gU_1 kB kI kN kM kY gK_1 kL kE kS) [(0, .ref mh), (1, .long (iL pz)), (3, .int (iI o9)), (4, .int (iI b9))] [] 88 := by
                intro fu9
                induction fu9 with
                | zero => intro b9 o9 hb9 hst h9; exact absurd h9 (Nat.not_lt_zero _)
                | succ fu9 ih88 =>
                  intro b9 o9 hb9 hst hm88
                  have ho9 : -1 ≤ o9 ∧ o9 ≤ 1 := by rcases hst with h | h; omega; exact lexS_o h.2
                  refine zz_iload C 3 dX10_triesBounds_88 rfl ?_
                  refine zz_aload_n C 0 dX10_triesBounds_90 rfl rfl ?_
                  refine zz_get C 0 (ci := 10) (k := 1) rfl rfl in_X10 (by decide) qw_927 rfl rfl dX10_triesBounds_91 ?_
                  refine zz_iconst C dX10_triesBounds_94 ?_
                  refine zz_iald C 1 rfl (by omega) (by omega) (by decide) dX10_triesBounds_95 ?_
                  refine zz_icmp_ge (tgt := 135) C dX10_triesBounds_96 (by decide) (by unfold rI; omega) (by unfold rI; omega) (fun c96 => ?_) (fun c96 => ?_)
                  · skip
                    refine zz_iload_n C 2 dX10_triesBounds_135 rfl rfl ?_
                    refine zz_if_ge (tgt := 191) C dX10_triesBounds_136 (by decide) (by unfold rI; omega) (fun c136 => ?_) (fun c136 => ?_)
                    · skip
                      exact zz_vret C hr dX10_triesBounds_191 ⟨gW_1, gA_1, gK_1, gC_1, gU_1, gl_1, gH_1, m_fo, m_yl, m_yw, kY, hH2_1, Or.inr ⟨pz, gl_1, yS gU_1, hdc, hnb, by omega, by first | exact Or.inl ⟨by rcases hst with h | h; exact Or.inl h.1; exact Or.inr (lexS_yes h.2 (by omega) (by omega)), rfl, rfl, rfl, fun d h0 h1 => hB (d - 1) (by omega) (by omega)⟩ | exact Or.inr ⟨⟨by omega, lexS_no (hst.resolve_left (fun h => by omega)).2 (by omega) (by omega) (by have := (hfv (by omega)).1; omega) (by omega) (fun _ => by omega)⟩, rfl, rfl, rfl, rfl⟩⟩, rfl, rfl⟩
                    · skip
                      refine zz_aload_n C 0 dX10_triesBounds_139 rfl rfl ?_
                      refine zz_iconst C dX10_triesBounds_140 ?_
                      refine zz_put (ty := .boolean) (ws' := wMod z mh xT xD xP xR xC xW xA xH xU xB xI xN xM xY xK xL xE xS m_ra m_ca m_tp m_fa m_at m_wr m_va m_pl m_st gl_1 m_bl m_bc 1 m_yl m_yw m_nu m_nl m_lu m_ll m_ln kT kD kP kR gC_1 gW_1 gA_1 gH_1 gU_1 kB kI kN kM kY gK_1 kL kE kS) C 0 (ci := 10) (k := 22) rfl rfl in_X10 tyX10 tyX10_ok nmX10 (by decide) qw_948 rfl rfl (by decide +kernel) (by decide +kernel) (by decide +kernel) (Nat.le_of_ble_eq_true rfl) rfl dX10_triesBounds_141 ?_
                      refine zz_aload_n C 0 dX10_triesBounds_144 rfl rfl ?_
                      refine zz_lload_n C 1 dX10_triesBounds_145 rfl rfl ?_
                      refine zz_put (ty := .long) (ws' := wMod z mh xT xD xP xR xC xW xA xH xU xB xI xN xM xY xK xL xE xS m_ra m_ca m_tp m_fa m_at m_wr m_va m_pl m_st gl_1 m_bl m_bc 1 m_yl pz m_nu m_nl m_lu m_ll m_ln kT kD kP kR gC_1 gW_1 gA_1 gH_1 gU_1 kB kI kN kM kY gK_1 kL kE kS) C 0 (ci := 10) (k := 28) rfl rfl in_X10 tyX10 tyX10_ok nmX10 (by decide) qw_954 rfl rfl (by decide +kernel) rfl rfl (Nat.le_of_ble_eq_true rfl) rfl dX10_triesBounds_146 ?_
                      refine zz_aload_n C 0 dX10_triesBounds_149 rfl rfl ?_
                      refine zz_aload_n C 0 dX10_triesBounds_150 rfl rfl ?_
                      refine zz_get C 0 (ci := 10) (k := 18) rfl rfl in_X10 (by decide) qw_944 rfl rfl dX10_triesBounds_151 ?_
                      refine zz_put (ty := .long) (ws' := wMod z mh xT xD xP xR xC xW xA xH xU xB xI xN xM xY xK xL xE xS m_ra m_ca m_tp m_fa m_at m_wr m_va m_pl m_st gl_1 m_bl m_bc 1 gl_1 pz m_nu m_nl m_lu m_ll m_ln kT kD kP kR gC_1 gW_1 gA_1 gH_1 gU_1 kB kI kN kM kY gK_1 kL kE kS) C 0 (ci := 10) (k := 27) rfl rfl in_X10 tyX10 tyX10_ok nmX10 (by decide) qw_953 rfl rfl (by decide +kernel) rfl rfl (Nat.le_of_ble_eq_true rfl) rfl dX10_triesBounds_154 ?_
                      refine zz_iconst C dX10_triesBounds_157 ?_
                      refine zz_istore (ls' := [(4, .int (iI 0)), (0, .ref mh), (1, .long (iL pz)), (3, .int (iI o9))]) C dX10_triesBounds_158 (by decide) rfl ?_
                      have Lp160 : ∀ (fu9 : Nat) (c9 : Int) (gY : Int → Int), (0 ≤ c9 ∧ c9 ≤ kT 0) → (∀ c : Int, 0 ≤ c → c < c9 → gY c = gU_1 c) → (kT 0 - c9).toNat < fu9 → zzW p l e rm_X10_triesBounds s m ([.ref mh] : List Value).toArray below meth c z A 5 (MQ below (zQ z A (po_X10_triesBounds z mh xT xD xP xR xC xW xA xH xU xB xI xN xM xY xK xL xE xS m_ra m_ca m_tp m_fa m_at m_wr m_va m_pl m_st m_lo m_bl m_bc m_fo m_yl m_yw m_nu m_nl m_lu m_ll m_ln kT kD kP kR kC kW kA kH kU kB kI kN kM kY kK kL kE kS)) ([.ref mh] : List Value).toArray s 0 0 A) 0 0 (wMod z mh xT xD xP xR xC xW xA xH xU xB xI xN xM xY xK xL xE xS m_ra m_ca m_tp m_fa m_at m_wr m_va m_pl m_st gl_1 m_bl m_bc 1 gl_1 pz m_nu m_nl m_lu m_ll m_ln kT kD kP kR gC_1 gW_1 gA_1 gH_1 gU_1 kB kI kN kM gY gK_1 kL kE kS) [(0, .ref mh), (1, .long (iL pz)), (3, .int (iI o9)), (4, .int (iI c9))] [] 160 := by
                        intro fu9
                        induction fu9 with
                        | zero => intro c9 gY hc9 hB h9; exact absurd h9 (Nat.not_lt_zero _)
                        | succ fu9 ih160 =>
                          intro c9 gY hc9 hB hm160
                          refine zz_iload C 3 dX10_triesBounds_160 rfl ?_
                          refine zz_aload_n C 0 dX10_triesBounds_162 rfl rfl ?_
                          refine zz_get C 0 (ci := 10) (k := 1) rfl rfl in_X10 (by decide) qw_927 rfl rfl dX10_triesBounds_163 ?_
                          refine zz_iconst C dX10_triesBounds_166 ?_
                          refine zz_iald C 1 rfl (by omega) (by omega) (by decide) dX10_triesBounds_167 ?_
                          refine zz_icmp_ge (tgt := 191) C dX10_triesBounds_168 (by decide) (by unfold rI; omega) (by unfold rI; omega) (fun c168 => ?_) (fun c168 => ?_)
                          · skip
                            exact zz_vret C hr dX10_triesBounds_191 ⟨gW_1, gA_1, gK_1, gC_1, gU_1, gl_1, gH_1, 1, gl_1, pz, gY, hH2_1, Or.inr ⟨pz, gl_1, yS gU_1, hdc, hnb, by omega, by first | exact Or.inl ⟨by rcases hst with h | h; exact Or.inl h.1; exact Or.inr (lexS_yes h.2 (by omega) (by omega)), rfl, rfl, rfl, fun d h0 h1 => hB (d - 1) (by omega) (by omega)⟩ | exact Or.inr ⟨⟨by omega, lexS_no (hst.resolve_left (fun h => by omega)).2 (by omega) (by omega) (by have := (hfv (by omega)).1; omega) (by omega) (fun _ => by omega)⟩, rfl, rfl, rfl, rfl⟩⟩, rfl, rfl⟩
                          · skip
                            refine zz_aload_n C 0 dX10_triesBounds_171 rfl rfl ?_
                            refine zz_get C 0 (ci := 10) (k := 26) rfl rfl in_X10 (by decide) qw_952 rfl rfl dX10_triesBounds_172 ?_
                            refine zz_iload C 3 dX10_triesBounds_175 rfl ?_
                            refine zz_aload_n C 0 dX10_triesBounds_177 rfl rfl ?_
                            refine zz_get C 0 (ci := 10) (k := 17) rfl rfl in_X10 (by decide) qw_943 rfl rfl dX10_triesBounds_178 ?_
                            refine zz_iload C 3 dX10_triesBounds_181 rfl ?_
                            refine zz_lald C 9 rfl (by omega) (by omega) (by decide) dX10_triesBounds_183 ?_
                            refine zz_last (ws' := wMod z mh xT xD xP xR xC xW xA xH xU xB xI xN xM xY xK xL xE xS m_ra m_ca m_tp m_fa m_at m_wr m_va m_pl m_st gl_1 m_bl m_bc 1 gl_1 pz m_nu m_nl m_lu m_ll m_ln kT kD kP kR gC_1 gW_1 gA_1 gH_1 gU_1 kB kI kN kM (zup gY c9 (gU_1 c9)) gK_1 kL kE kS) C 14 rfl (by omega) (by omega) (by decide) rfl dX10_triesBounds_184 ?_
                            refine zz_iinc (ls' := [(4, .int (iI (c9 + 1))), (0, .ref mh), (1, .long (iL pz)), (3, .int (iI o9))]) C 3 dX10_triesBounds_185 rfl (by decide) rfl ?_
                            refine zz_goto (tgt := 160) C dX10_triesBounds_188 (by decide) ?_
                            refine zz_loc (ls' := [(0, .ref mh), (1, .long (iL pz)), (3, .int (iI o9)), (4, .int (iI (c9 + 1)))]) [1, 2, 3, 0] rfl ?_
                            exact ih160 (c9 + 1) (zup gY c9 (gU_1 c9)) (by omega) (zup_all hB rfl) (by omega)
                      refine zz_loc (ls' := [(0, .ref mh), (1, .long (iL pz)), (3, .int (iI o9)), (4, .int (iI 0))]) [1, 2, 3, 0] rfl ?_
                      exact Lp160 _ 0 kY (by omega) (fun c h0 h1 => by omega) (Nat.lt_succ_self _)
                  · skip
                    refine zz_iload_n C 2 dX10_triesBounds_99 rfl rfl ?_
                    refine zz_if_ne (tgt := 135) C dX10_triesBounds_100 (by decide) (by unfold rI; omega) (fun c100 => ?_) (fun c100 => ?_)
                    · skip
                      refine zz_iload_n C 2 dX10_triesBounds_135 rfl rfl ?_
                      refine zz_if_ge (tgt := 191) C dX10_triesBounds_136 (by decide) (by unfold rI; omega) (fun c136 => ?_) (fun c136 => ?_)
                      · skip
                        exact zz_vret C hr dX10_triesBounds_191 ⟨gW_1, gA_1, gK_1, gC_1, gU_1, gl_1, gH_1, m_fo, m_yl, m_yw, kY, hH2_1, Or.inr ⟨pz, gl_1, yS gU_1, hdc, hnb, by omega, by first | exact Or.inl ⟨by rcases hst with h | h; exact Or.inl h.1; exact Or.inr (lexS_yes h.2 (by omega) (by omega)), rfl, rfl, rfl, fun d h0 h1 => hB (d - 1) (by omega) (by omega)⟩ | exact Or.inr ⟨⟨by omega, lexS_no (hst.resolve_left (fun h => by omega)).2 (by omega) (by omega) (by have := (hfv (by omega)).1; omega) (by omega) (fun _ => by omega)⟩, rfl, rfl, rfl, rfl⟩⟩, rfl, rfl⟩
                      · skip
                        refine zz_aload_n C 0 dX10_triesBounds_139 rfl rfl ?_
                        refine zz_iconst C dX10_triesBounds_140 ?_
                        refine zz_put (ty := .boolean) (ws' := wMod z mh xT xD xP xR xC xW xA xH xU xB xI xN xM xY xK xL xE xS m_ra m_ca m_tp m_fa m_at m_wr m_va m_pl m_st gl_1 m_bl m_bc 1 m_yl m_yw m_nu m_nl m_lu m_ll m_ln kT kD kP kR gC_1 gW_1 gA_1 gH_1 gU_1 kB kI kN kM kY gK_1 kL kE kS) C 0 (ci := 10) (k := 22) rfl rfl in_X10 tyX10 tyX10_ok nmX10 (by decide) qw_948 rfl rfl (by decide +kernel) (by decide +kernel) (by decide +kernel) (Nat.le_of_ble_eq_true rfl) rfl dX10_triesBounds_141 ?_
                        refine zz_aload_n C 0 dX10_triesBounds_144 rfl rfl ?_
                        refine zz_lload_n C 1 dX10_triesBounds_145 rfl rfl ?_
                        refine zz_put (ty := .long) (ws' := wMod z mh xT xD xP xR xC xW xA xH xU xB xI xN xM xY xK xL xE xS m_ra m_ca m_tp m_fa m_at m_wr m_va m_pl m_st gl_1 m_bl m_bc 1 m_yl pz m_nu m_nl m_lu m_ll m_ln kT kD kP kR gC_1 gW_1 gA_1 gH_1 gU_1 kB kI kN kM kY gK_1 kL kE kS) C 0 (ci := 10) (k := 28) rfl rfl in_X10 tyX10 tyX10_ok nmX10 (by decide) qw_954 rfl rfl (by decide +kernel) rfl rfl (Nat.le_of_ble_eq_true rfl) rfl dX10_triesBounds_146 ?_
                        refine zz_aload_n C 0 dX10_triesBounds_149 rfl rfl ?_
                        refine zz_aload_n C 0 dX10_triesBounds_150 rfl rfl ?_
                        refine zz_get C 0 (ci := 10) (k := 18) rfl rfl in_X10 (by decide) qw_944 rfl rfl dX10_triesBounds_151 ?_
                        refine zz_put (ty := .long) (ws' := wMod z mh xT xD xP xR xC xW xA xH xU xB xI xN xM xY xK xL xE xS m_ra m_ca m_tp m_fa m_at m_wr m_va m_pl m_st gl_1 m_bl m_bc 1 gl_1 pz m_nu m_nl m_lu m_ll m_ln kT kD kP kR gC_1 gW_1 gA_1 gH_1 gU_1 kB kI kN kM kY gK_1 kL kE kS) C 0 (ci := 10) (k := 27) rfl rfl in_X10 tyX10 tyX10_ok nmX10 (by decide) qw_953 rfl rfl (by decide +kernel) rfl rfl (Nat.le_of_ble_eq_true rfl) rfl dX10_triesBounds_154 ?_
                        refine zz_iconst C dX10_triesBounds_157 ?_
                        refine zz_istore (ls' := [(4, .int (iI 0)), (0, .ref mh), (1, .long (iL pz)), (3, .int (iI o9))]) C dX10_triesBounds_158 (by decide) rfl ?_
                        have Lp160 : ∀ (fu9 : Nat) (c9 : Int) (gY : Int → Int), (0 ≤ c9 ∧ c9 ≤ kT 0) → (∀ c : Int, 0 ≤ c → c < c9 → gY c = gU_1 c) → (kT 0 - c9).toNat < fu9 → zzW p l e rm_X10_triesBounds s m ([.ref mh] : List Value).toArray below meth c z A 5 (MQ below (zQ z A (po_X10_triesBounds z mh xT xD xP xR xC xW xA xH xU xB xI xN xM xY xK xL xE xS m_ra m_ca m_tp m_fa m_at m_wr m_va m_pl m_st m_lo m_bl m_bc m_fo m_yl m_yw m_nu m_nl m_lu m_ll m_ln kT kD kP kR kC kW kA kH kU kB kI kN kM kY kK kL kE kS)) ([.ref mh] : List Value).toArray s 0 0 A) 0 0 (wMod z mh xT xD xP xR xC xW xA xH xU xB xI xN xM xY xK xL xE xS m_ra m_ca m_tp m_fa m_at m_wr m_va m_pl m_st gl_1 m_bl m_bc 1 gl_1 pz m_nu m_nl m_lu m_ll m_ln kT kD kP kR gC_1 gW_1 gA_1 gH_1 gU_1 kB kI kN kM gY gK_1 kL kE kS) [(0, .ref mh), (1, .long (iL pz)), (3, .int (iI o9)), (4, .int (iI c9))] [] 160 := by
                          intro fu9
                          induction fu9 with
                          | zero => intro c9 gY hc9 hB h9; exact absurd h9 (Nat.not_lt_zero _)
                          | succ fu9 ih160 =>
                            intro c9 gY hc9 hB hm160
                            refine zz_iload C 3 dX10_triesBounds_160 rfl ?_
                            refine zz_aload_n C 0 dX10_triesBounds_162 rfl rfl ?_
                            refine zz_get C 0 (ci := 10) (k := 1) rfl rfl in_X10 (by decide) qw_927 rfl rfl dX10_triesBounds_163 ?_
                            refine zz_iconst C dX10_triesBounds_166 ?_
                            refine zz_iald C 1 rfl (by omega) (by omega) (by decide) dX10_triesBounds_167 ?_
                            refine zz_icmp_ge (tgt := 191) C dX10_triesBounds_168 (by decide) (by unfold rI; omega) (by unfold rI; omega) (fun c168 => ?_) (fun c168 => ?_)
                            · skip
                              exact zz_vret C hr dX10_triesBounds_191 ⟨gW_1, gA_1, gK_1, gC_1, gU_1, gl_1, gH_1, 1, gl_1, pz, gY, hH2_1, Or.inr ⟨pz, gl_1, yS gU_1, hdc, hnb, by omega, by first | exact Or.inl ⟨by rcases hst with h | h; exact Or.inl h.1; exact Or.inr (lexS_yes h.2 (by omega) (by omega)), rfl, rfl, rfl, fun d h0 h1 => hB (d - 1) (by omega) (by omega)⟩ | exact Or.inr ⟨⟨by omega, lexS_no (hst.resolve_left (fun h => by omega)).2 (by omega) (by omega) (by have := (hfv (by omega)).1; omega) (by omega) (fun _ => by omega)⟩, rfl, rfl, rfl, rfl⟩⟩, rfl, rfl⟩
                            · skip
                              refine zz_aload_n C 0 dX10_triesBounds_171 rfl rfl ?_
                              refine zz_get C 0 (ci := 10) (k := 26) rfl rfl in_X10 (by decide) qw_952 rfl rfl dX10_triesBounds_172 ?_
                              refine zz_iload C 3 dX10_triesBounds_175 rfl ?_
                              refine zz_aload_n C 0 dX10_triesBounds_177 rfl rfl ?_
                              refine zz_get C 0 (ci := 10) (k := 17) rfl rfl in_X10 (by decide) qw_943 rfl rfl dX10_triesBounds_178 ?_
                              refine zz_iload C 3 dX10_triesBounds_181 rfl ?_
                              refine zz_lald C 9 rfl (by omega) (by omega) (by decide) dX10_triesBounds_183 ?_
                              refine zz_last (ws' := wMod z mh xT xD xP xR xC xW xA xH xU xB xI xN xM xY xK xL xE xS m_ra m_ca m_tp m_fa m_at m_wr m_va m_pl m_st gl_1 m_bl m_bc 1 gl_1 pz m_nu m_nl m_lu m_ll m_ln kT kD kP kR gC_1 gW_1 gA_1 gH_1 gU_1 kB kI kN kM (zup gY c9 (gU_1 c9)) gK_1 kL kE kS) C 14 rfl (by omega) (by omega) (by decide) rfl dX10_triesBounds_184 ?_
                              refine zz_iinc (ls' := [(4, .int (iI (c9 + 1))), (0, .ref mh), (1, .long (iL pz)), (3, .int (iI o9))]) C 3 dX10_triesBounds_185 rfl (by decide) rfl ?_
                              refine zz_goto (tgt := 160) C dX10_triesBounds_188 (by decide) ?_
                              refine zz_loc (ls' := [(0, .ref mh), (1, .long (iL pz)), (3, .int (iI o9)), (4, .int (iI (c9 + 1)))]) [1, 2, 3, 0] rfl ?_
                              exact ih160 (c9 + 1) (zup gY c9 (gU_1 c9)) (by omega) (zup_all hB rfl) (by omega)
                        refine zz_loc (ls' := [(0, .ref mh), (1, .long (iL pz)), (3, .int (iI o9)), (4, .int (iI 0))]) [1, 2, 3, 0] rfl ?_
                        exact Lp160 _ 0 kY (by omega) (fun c h0 h1 => by omega) (Nat.lt_succ_self _)
                    · skip
                      have hf8 := hfv (by omega)
                      have hv1 := hnb.2.2 (b9 + 1) (by omega) (by omega)
                      have hv2 := hf8.2.2.2 (b9 + 1) (by omega) (by omega)
                      have hf7 := hf8.1
                      unfold yS at hv1 hv2
                      rw [show b9 + 1 - 1 = b9 by omega] at hv1 hv2
                      refine zz_aload_n C 0 dX10_triesBounds_103 rfl rfl ?_
                      refine zz_get C 0 (ci := 10) (k := 17) rfl rfl in_X10 (by decide) qw_943 rfl rfl dX10_triesBounds_104 ?_
                      refine zz_iload C 3 dX10_triesBounds_107 rfl ?_
                      refine zz_lald C 9 rfl (by omega) (by omega) (by decide) dX10_triesBounds_109 ?_
                      refine zz_aload_n C 0 dX10_triesBounds_110 rfl rfl ?_
                      refine zz_get C 0 (ci := 10) (k := 18) rfl rfl in_X10 (by decide) qw_944 rfl rfl dX10_triesBounds_111 ?_
                      refine zz_aload_n C 0 dX10_triesBounds_114 rfl rfl ?_
                      refine zz_get C 0 (ci := 10) (k := 26) rfl rfl in_X10 (by decide) qw_952 rfl rfl dX10_triesBounds_115 ?_
                      refine zz_iload C 3 dX10_triesBounds_118 rfl ?_
                      refine zz_lald C 14 rfl (by omega) (by omega) (by decide) dX10_triesBounds_120 ?_
                      refine zz_aload_n C 0 dX10_triesBounds_121 rfl rfl ?_
                      refine zz_get C 0 (ci := 10) (k := 27) rfl rfl in_X10 (by decide) qw_953 rfl rfl dX10_triesBounds_122 ?_
                      refine zz_callS (wr := wMod z mh xT xD xP xR xC xW xA xH xU xB xI xN xM xY xK xL xE xS m_ra m_ca m_tp m_fa m_at m_wr m_va m_pl m_st gl_1 m_bl m_bc m_fo m_yl m_yw m_nu m_nl m_lu m_ll m_ln kT kD kP kR gC_1 gW_1 gA_1 gH_1 gU_1 kB kI kN kM kY gK_1 kL kE kS) (st := []) C (cc_X10_compares l z (gU_1 b9) gl_1 (kY b9) m_yl (by omega) (by omega) (by omega) (by omega)) yk_X10_compares qw_1226 ⟨by decide, by decide⟩ [] [0, 1, 2, 3, 4, 5, 6, 7, 8, 9, 10, 11, 12, 13, 14, 15, 16, 17, 18] rfl rfl rfl rfl (by decide) rfl rfl (Nat.le_of_ble_eq_true rfl) dX10_triesBounds_125 ⟨by decide, by decide⟩ ?_
                      rintro _ _ ⟨q_125, hq_125, rfl, rfl⟩
                      refine zz_st (st' := [.int (iI q_125)]) rfl (zz_ws (ws' := wMod z mh xT xD xP xR xC xW xA xH xU xB xI xN xM xY xK xL xE xS m_ra m_ca m_tp m_fa m_at m_wr m_va m_pl m_st gl_1 m_bl m_bc m_fo m_yl m_yw m_nu m_nl m_lu m_ll m_ln kT kD kP kR gC_1 gW_1 gA_1 gH_1 gU_1 kB kI kN kM kY gK_1 kL kE kS) rfl ?_)
                      refine zz_istore_n (ls' := [(3, .int (iI q_125)), (0, .ref mh), (1, .long (iL pz)), (4, .int (iI b9))]) C dX10_triesBounds_128 rfl (by decide) rfl ?_
                      refine zz_iinc (ls' := [(4, .int (iI (b9 + 1))), (3, .int (iI q_125)), (0, .ref mh), (1, .long (iL pz))]) C 3 dX10_triesBounds_129 rfl (by decide) rfl ?_
                      refine zz_goto (tgt := 88) C dX10_triesBounds_132 (by decide) ?_
                      refine zz_loc (ls' := [(0, .ref mh), (1, .long (iL pz)), (3, .int (iI q_125)), (4, .int (iI (b9 + 1)))]) [2, 3, 1, 0] rfl ?_
                      exact ih88 (b9 + 1) q_125 (by omega) (Or.inr ⟨by omega, lexS_cs (hst.resolve_left (fun h => by omega)).2 (by omega) (by omega) (by rw [kd_s _ _ (by omega), kd_s _ _ (by omega)]; unfold yS; rw [show b9 + 1 - 1 = b9 by omega]; exact hq_125)⟩) (by omega)
              refine zz_loc (ls' := [(0, .ref mh), (1, .long (iL pz)), (3, .int (iI (-1))), (4, .int (iI 0))]) [2, 3, 1, 0] rfl ?_
              exact Lp88 _ 0 (-1) (by omega) (by first | exact Or.inr ⟨by omega, hs9⟩ | exact Or.inl ⟨by omega, rfl⟩) (Nat.lt_succ_self _)
            · skip
              have hf9 := hfv (by omega)
              have hm9 := hf9.2.2.1
              have hm8 := hf9.1
              refine zz_lload_n C 1 dX10_triesBounds_63 rfl rfl ?_
              refine zz_aload_n C 0 dX10_triesBounds_64 rfl rfl ?_
              refine zz_get C 0 (ci := 10) (k := 18) rfl rfl in_X10 (by decide) qw_944 rfl rfl dX10_triesBounds_65 ?_
              refine zz_aload_n C 0 dX10_triesBounds_68 rfl rfl ?_
              refine zz_get C 0 (ci := 10) (k := 28) rfl rfl in_X10 (by decide) qw_954 rfl rfl dX10_triesBounds_69 ?_
              refine zz_aload_n C 0 dX10_triesBounds_72 rfl rfl ?_
              refine zz_get C 0 (ci := 10) (k := 27) rfl rfl in_X10 (by decide) qw_953 rfl rfl dX10_triesBounds_73 ?_
              refine zz_callS (wr := wMod z mh xT xD xP xR xC xW xA xH xU xB xI xN xM xY xK xL xE xS m_ra m_ca m_tp m_fa m_at m_wr m_va m_pl m_st gl_1 m_bl m_bc m_fo m_yl m_yw m_nu m_nl m_lu m_ll m_ln kT kD kP kR gC_1 gW_1 gA_1 gH_1 gU_1 kB kI kN kM kY gK_1 kL kE kS) (st := []) C (cc_X10_compares l z pz gl_1 m_yw m_yl (by omega) (by omega) (by omega) (by omega)) yk_X10_compares qw_1226 ⟨by decide, by decide⟩ [] [0, 1, 2, 3, 4, 5, 6, 7, 8, 9, 10, 11, 12, 13, 14, 15, 16, 17, 18] rfl rfl rfl rfl (by decide) rfl rfl (Nat.le_of_ble_eq_true rfl) dX10_triesBounds_76 ⟨by decide, by decide⟩ ?_
              rintro _ _ ⟨q_76, hq_76, rfl, rfl⟩
              refine zz_st (st' := [.int (iI q_76)]) rfl (zz_ws (ws' := wMod z mh xT xD xP xR xC xW xA xH xU xB xI xN xM xY xK xL xE xS m_ra m_ca m_tp m_fa m_at m_wr m_va m_pl m_st gl_1 m_bl m_bc m_fo m_yl m_yw m_nu m_nl m_lu m_ll m_ln kT kD kP kR gC_1 gW_1 gA_1 gH_1 gU_1 kB kI kN kM kY gK_1 kL kE kS) rfl ?_)
              have hs9 : lexS 1 gl_1 (kd pz (yS gU_1)) m_yl (kd m_yw (yS kY)) (-q_76) := lexS_cn (kd_0 _ _) (kd_0 _ _) hq_76
              have hq76 : -1 ≤ q_76 ∧ q_76 ≤ 1 := by rcases hq_76 with h | h | h <;> omega
              refine zz_ineg C dX10_triesBounds_79 ?_
              refine zz_goto (tgt := 84) C dX10_triesBounds_80 (by decide) ?_
              refine zz_istore_n (ls' := [(3, .int (iI (-q_76))), (0, .ref mh), (1, .long (iL pz))]) C dX10_triesBounds_84 rfl (by decide) rfl ?_
              refine zz_iconst C dX10_triesBounds_85 ?_
              refine zz_istore (ls' := [(4, .int (iI 0)), (3, .int (iI (-q_76))), (0, .ref mh), (1, .long (iL pz))]) C dX10_triesBounds_86 (by decide) rfl ?_
              have Lp88 : ∀ (fu9 : Nat) (b9 : Int) (o9 : Int), (0 ≤ b9 ∧ b9 ≤ kT 0) → ((m_fo = 0 ∧ o9 = -1) ∨ (m_fo = 1 ∧ lexS (b9 + 1) gl_1 (kd pz (yS gU_1)) m_yl (kd m_yw (yS kY)) o9)) → (kT 0 - b9).toNat < fu9 → zzW p l e rm_X10_triesBounds s m ([.ref mh] : List Value).toArray below meth c z A 5 (MQ below (zQ z A (po_X10_triesBounds z mh xT xD xP xR xC xW xA xH xU xB xI xN xM xY xK xL xE xS m_ra m_ca m_tp m_fa m_at m_wr m_va m_pl m_st m_lo m_bl m_bc m_fo m_yl m_yw m_nu m_nl m_lu m_ll m_ln kT kD kP kR kC kW kA kH kU kB kI kN kM kY kK kL kE kS)) ([.ref mh] : List Value).toArray s 0 0 A) 0 0 (wMod z mh xT xD xP xR xC xW xA xH xU xB xI xN xM xY xK xL xE xS m_ra m_ca m_tp m_fa m_at m_wr m_va m_pl m_st gl_1 m_bl m_bc m_fo m_yl m_yw m_nu m_nl m_lu m_ll m_ln kT kD kP kR gC_1 gW_1 gA_1 gH_1 gU_1 kB kI kN kM kY gK_1 kL kE kS) [(0, .ref mh), (1, .long (iL pz)), (3, .int (iI o9)), (4, .int (iI b9))] [] 88 := by
                intro fu9
                induction fu9 with
                | zero => intro b9 o9 hb9 hst h9; exact absurd h9 (Nat.not_lt_zero _)
                | succ fu9 ih88 =>
                  intro b9 o9 hb9 hst hm88
                  have ho9 : -1 ≤ o9 ∧ o9 ≤ 1 := by rcases hst with h | h; omega; exact lexS_o h.2
                  refine zz_iload C 3 dX10_triesBounds_88 rfl ?_
                  refine zz_aload_n C 0 dX10_triesBounds_90 rfl rfl ?_
                  refine zz_get C 0 (ci := 10) (k := 1) rfl rfl in_X10 (by decide) qw_927 rfl rfl dX10_triesBounds_91 ?_
                  refine zz_iconst C dX10_triesBounds_94 ?_
                  refine zz_iald C 1 rfl (by omega) (by omega) (by decide) dX10_triesBounds_95 ?_
                  refine zz_icmp_ge (tgt := 135) C dX10_triesBounds_96 (by decide) (by unfold rI; omega) (by unfold rI; omega) (fun c96 => ?_) (fun c96 => ?_)
                  · skip
                    refine zz_iload_n C 2 dX10_triesBounds_135 rfl rfl ?_
                    refine zz_if_ge (tgt := 191) C dX10_triesBounds_136 (by decide) (by unfold rI; omega) (fun c136 => ?_) (fun c136 => ?_)
                    · skip
                      exact zz_vret C hr dX10_triesBounds_191 ⟨gW_1, gA_1, gK_1, gC_1, gU_1, gl_1, gH_1, m_fo, m_yl, m_yw, kY, hH2_1, Or.inr ⟨pz, gl_1, yS gU_1, hdc, hnb, by omega, by first | exact Or.inl ⟨by rcases hst with h | h; exact Or.inl h.1; exact Or.inr (lexS_yes h.2 (by omega) (by omega)), rfl, rfl, rfl, fun d h0 h1 => hB (d - 1) (by omega) (by omega)⟩ | exact Or.inr ⟨⟨by omega, lexS_no (hst.resolve_left (fun h => by omega)).2 (by omega) (by omega) (by have := (hfv (by omega)).1; omega) (by omega) (fun _ => by omega)⟩, rfl, rfl, rfl, rfl⟩⟩, rfl, rfl⟩
                    · skip
                      refine zz_aload_n C 0 dX10_triesBounds_139 rfl rfl ?_
                      refine zz_iconst C dX10_triesBounds_140 ?_
                      refine zz_put (ty := .boolean) (ws' := wMod z mh xT xD xP xR xC xW xA xH xU xB xI xN xM xY xK xL xE xS m_ra m_ca m_tp m_fa m_at m_wr m_va m_pl m_st gl_1 m_bl m_bc 1 m_yl m_yw m_nu m_nl m_lu m_ll m_ln kT kD kP kR gC_1 gW_1 gA_1 gH_1 gU_1 kB kI kN kM kY gK_1 kL kE kS) C 0 (ci := 10) (k := 22) rfl rfl in_X10 tyX10 tyX10_ok nmX10 (by decide) qw_948 rfl rfl (by decide +kernel) (by decide +kernel) (by decide +kernel) (Nat.le_of_ble_eq_true rfl) rfl dX10_triesBounds_141 ?_
                      refine zz_aload_n C 0 dX10_triesBounds_144 rfl rfl ?_
                      refine zz_lload_n C 1 dX10_triesBounds_145 rfl rfl ?_
                      refine zz_put (ty := .long) (ws' := wMod z mh xT xD xP xR xC xW xA xH xU xB xI xN xM xY xK xL xE xS m_ra m_ca m_tp m_fa m_at m_wr m_va m_pl m_st gl_1 m_bl m_bc 1 m_yl pz m_nu m_nl m_lu m_ll m_ln kT kD kP kR gC_1 gW_1 gA_1 gH_1 gU_1 kB kI kN kM kY gK_1 kL kE kS) C 0 (ci := 10) (k := 28) rfl rfl in_X10 tyX10 tyX10_ok nmX10 (by decide) qw_954 rfl rfl (by decide +kernel) rfl rfl (Nat.le_of_ble_eq_true rfl) rfl dX10_triesBounds_146 ?_
                      refine zz_aload_n C 0 dX10_triesBounds_149 rfl rfl ?_
                      refine zz_aload_n C 0 dX10_triesBounds_150 rfl rfl ?_
                      refine zz_get C 0 (ci := 10) (k := 18) rfl rfl in_X10 (by decide) qw_944 rfl rfl dX10_triesBounds_151 ?_
                      refine zz_put (ty := .long) (ws' := wMod z mh xT xD xP xR xC xW xA xH xU xB xI xN xM xY xK xL xE xS m_ra m_ca m_tp m_fa m_at m_wr m_va m_pl m_st gl_1 m_bl m_bc 1 gl_1 pz m_nu m_nl m_lu m_ll m_ln kT kD kP kR gC_1 gW_1 gA_1 gH_1 gU_1 kB kI kN kM kY gK_1 kL kE kS) C 0 (ci := 10) (k := 27) rfl rfl in_X10 tyX10 tyX10_ok nmX10 (by decide) qw_953 rfl rfl (by decide +kernel) rfl rfl (Nat.le_of_ble_eq_true rfl) rfl dX10_triesBounds_154 ?_
                      refine zz_iconst C dX10_triesBounds_157 ?_
                      refine zz_istore (ls' := [(4, .int (iI 0)), (0, .ref mh), (1, .long (iL pz)), (3, .int (iI o9))]) C dX10_triesBounds_158 (by decide) rfl ?_
                      have Lp160 : ∀ (fu9 : Nat) (c9 : Int) (gY : Int → Int), (0 ≤ c9 ∧ c9 ≤ kT 0) → (∀ c : Int, 0 ≤ c → c < c9 → gY c = gU_1 c) → (kT 0 - c9).toNat < fu9 → zzW p l e rm_X10_triesBounds s m ([.ref mh] : List Value).toArray below meth c z A 5 (MQ below (zQ z A (po_X10_triesBounds z mh xT xD xP xR xC xW xA xH xU xB xI xN xM xY xK xL xE xS m_ra m_ca m_tp m_fa m_at m_wr m_va m_pl m_st m_lo m_bl m_bc m_fo m_yl m_yw m_nu m_nl m_lu m_ll m_ln kT kD kP kR kC kW kA kH kU kB kI kN kM kY kK kL kE kS)) ([.ref mh] : List Value).toArray s 0 0 A) 0 0 (wMod z mh xT xD xP xR xC xW xA xH xU xB xI xN xM xY xK xL xE xS m_ra m_ca m_tp m_fa m_at m_wr m_va m_pl m_st gl_1 m_bl m_bc 1 gl_1 pz m_nu m_nl m_lu m_ll m_ln kT kD kP kR gC_1 gW_1 gA_1 gH_1 gU_1 kB kI kN kM gY gK_1 kL kE kS) [(0, .ref mh), (1, .long (iL pz)), (3, .int (iI o9)), (4, .int (iI c9))] [] 160 := by
                        intro fu9
                        induction fu9 with
                        | zero => intro c9 gY hc9 hB h9; exact absurd h9 (Nat.not_lt_zero _)
                        | succ fu9 ih160 =>
                          intro c9 gY hc9 hB hm160
                          refine zz_iload C 3 dX10_triesBounds_160 rfl ?_
                          refine zz_aload_n C 0 dX10_triesBounds_162 rfl rfl ?_
                          refine zz_get C 0 (ci := 10) (k := 1) rfl rfl in_X10 (by decide) qw_927 rfl rfl dX10_triesBounds_163 ?_
                          refine zz_iconst C dX10_triesBounds_166 ?_
                          refine zz_iald C 1 rfl (by omega) (by omega) (by decide) dX10_triesBounds_167 ?_
                          refine zz_icmp_ge (tgt := 191) C dX10_triesBounds_168 (by decide) (by unfold rI; omega) (by unfold rI; omega) (fun c168 => ?_) (fun c168 => ?_)
                          · skip
                            exact zz_vret C hr dX10_triesBounds_191 ⟨gW_1, gA_1, gK_1, gC_1, gU_1, gl_1, gH_1, 1, gl_1, pz, gY, hH2_1, Or.inr ⟨pz, gl_1, yS gU_1, hdc, hnb, by omega, by first | exact Or.inl ⟨by rcases hst with h | h; exact Or.inl h.1; exact Or.inr (lexS_yes h.2 (by omega) (by omega)), rfl, rfl, rfl, fun d h0 h1 => hB (d - 1) (by omega) (by omega)⟩ | exact Or.inr ⟨⟨by omega, lexS_no (hst.resolve_left (fun h => by omega)).2 (by omega) (by omega) (by have := (hfv (by omega)).1; omega) (by omega) (fun _ => by omega)⟩, rfl, rfl, rfl, rfl⟩⟩, rfl, rfl⟩
                          · skip
                            refine zz_aload_n C 0 dX10_triesBounds_171 rfl rfl ?_
                            refine zz_get C 0 (ci := 10) (k := 26) rfl rfl in_X10 (by decide) qw_952 rfl rfl dX10_triesBounds_172 ?_
                            refine zz_iload C 3 dX10_triesBounds_175 rfl ?_
                            refine zz_aload_n C 0 dX10_triesBounds_177 rfl rfl ?_
                            refine zz_get C 0 (ci := 10) (k := 17) rfl rfl in_X10 (by decide) qw_943 rfl rfl dX10_triesBounds_178 ?_
                            refine zz_iload C 3 dX10_triesBounds_181 rfl ?_
                            refine zz_lald C 9 rfl (by omega) (by omega) (by decide) dX10_triesBounds_183 ?_
                            refine zz_last (ws' := wMod z mh xT xD xP xR xC xW xA xH xU xB xI xN xM xY xK xL xE xS m_ra m_ca m_tp m_fa m_at m_wr m_va m_pl m_st gl_1 m_bl m_bc 1 gl_1 pz m_nu m_nl m_lu m_ll m_ln kT kD kP kR gC_1 gW_1 gA_1 gH_1 gU_1 kB kI kN kM (zup gY c9 (gU_1 c9)) gK_1 kL kE kS) C 14 rfl (by omega) (by omega) (by decide) rfl dX10_triesBounds_184 ?_
                            refine zz_iinc (ls' := [(4, .int (iI (c9 + 1))), (0, .ref mh), (1, .long (iL pz)), (3, .int (iI o9))]) C 3 dX10_triesBounds_185 rfl (by decide) rfl ?_
                            refine zz_goto (tgt := 160) C dX10_triesBounds_188 (by decide) ?_
                            refine zz_loc (ls' := [(0, .ref mh), (1, .long (iL pz)), (3, .int (iI o9)), (4, .int (iI (c9 + 1)))]) [1, 2, 3, 0] rfl ?_
                            exact ih160 (c9 + 1) (zup gY c9 (gU_1 c9)) (by omega) (zup_all hB rfl) (by omega)
                      refine zz_loc (ls' := [(0, .ref mh), (1, .long (iL pz)), (3, .int (iI o9)), (4, .int (iI 0))]) [1, 2, 3, 0] rfl ?_
                      exact Lp160 _ 0 kY (by omega) (fun c h0 h1 => by omega) (Nat.lt_succ_self _)
                  · skip
                    refine zz_iload_n C 2 dX10_triesBounds_99 rfl rfl ?_
                    refine zz_if_ne (tgt := 135) C dX10_triesBounds_100 (by decide) (by unfold rI; omega) (fun c100 => ?_) (fun c100 => ?_)
                    · skip
                      refine zz_iload_n C 2 dX10_triesBounds_135 rfl rfl ?_
                      refine zz_if_ge (tgt := 191) C dX10_triesBounds_136 (by decide) (by unfold rI; omega) (fun c136 => ?_) (fun c136 => ?_)
                      · skip
                        exact zz_vret C hr dX10_triesBounds_191 ⟨gW_1, gA_1, gK_1, gC_1, gU_1, gl_1, gH_1, m_fo, m_yl, m_yw, kY, hH2_1, Or.inr ⟨pz, gl_1, yS gU_1, hdc, hnb, by omega, by first | exact Or.inl ⟨by rcases hst with h | h; exact Or.inl h.1; exact Or.inr (lexS_yes h.2 (by omega) (by omega)), rfl, rfl, rfl, fun d h0 h1 => hB (d - 1) (by omega) (by omega)⟩ | exact Or.inr ⟨⟨by omega, lexS_no (hst.resolve_left (fun h => by omega)).2 (by omega) (by omega) (by have := (hfv (by omega)).1; omega) (by omega) (fun _ => by omega)⟩, rfl, rfl, rfl, rfl⟩⟩, rfl, rfl⟩
                      · skip
                        refine zz_aload_n C 0 dX10_triesBounds_139 rfl rfl ?_
                        refine zz_iconst C dX10_triesBounds_140 ?_
                        refine zz_put (ty := .boolean) (ws' := wMod z mh xT xD xP xR xC xW xA xH xU xB xI xN xM xY xK xL xE xS m_ra m_ca m_tp m_fa m_at m_wr m_va m_pl m_st gl_1 m_bl m_bc 1 m_yl m_yw m_nu m_nl m_lu m_ll m_ln kT kD kP kR gC_1 gW_1 gA_1 gH_1 gU_1 kB kI kN kM kY gK_1 kL kE kS) C 0 (ci := 10) (k := 22) rfl rfl in_X10 tyX10 tyX10_ok nmX10 (by decide) qw_948 rfl rfl (by decide +kernel) (by decide +kernel) (by decide +kernel) (Nat.le_of_ble_eq_true rfl) rfl dX10_triesBounds_141 ?_
                        refine zz_aload_n C 0 dX10_triesBounds_144 rfl rfl ?_
                        refine zz_lload_n C 1 dX10_triesBounds_145 rfl rfl ?_
                        refine zz_put (ty := .long) (ws' := wMod z mh xT xD xP xR xC xW xA xH xU xB xI xN xM xY xK xL xE xS m_ra m_ca m_tp m_fa m_at m_wr m_va m_pl m_st gl_1 m_bl m_bc 1 m_yl pz m_nu m_nl m_lu m_ll m_ln kT kD kP kR gC_1 gW_1 gA_1 gH_1 gU_1 kB kI kN kM kY gK_1 kL kE kS) C 0 (ci := 10) (k := 28) rfl rfl in_X10 tyX10 tyX10_ok nmX10 (by decide) qw_954 rfl rfl (by decide +kernel) rfl rfl (Nat.le_of_ble_eq_true rfl) rfl dX10_triesBounds_146 ?_
                        refine zz_aload_n C 0 dX10_triesBounds_149 rfl rfl ?_
                        refine zz_aload_n C 0 dX10_triesBounds_150 rfl rfl ?_
                        refine zz_get C 0 (ci := 10) (k := 18) rfl rfl in_X10 (by decide) qw_944 rfl rfl dX10_triesBounds_151 ?_
                        refine zz_put (ty := .long) (ws' := wMod z mh xT xD xP xR xC xW xA xH xU xB xI xN xM xY xK xL xE xS m_ra m_ca m_tp m_fa m_at m_wr m_va m_pl m_st gl_1 m_bl m_bc 1 gl_1 pz m_nu m_nl m_lu m_ll m_ln kT kD kP kR gC_1 gW_1 gA_1 gH_1 gU_1 kB kI kN kM kY gK_1 kL kE kS) C 0 (ci := 10) (k := 27) rfl rfl in_X10 tyX10 tyX10_ok nmX10 (by decide) qw_953 rfl rfl (by decide +kernel) rfl rfl (Nat.le_of_ble_eq_true rfl) rfl dX10_triesBounds_154 ?_
                        refine zz_iconst C dX10_triesBounds_157 ?_
                        refine zz_istore (ls' := [(4, .int (iI 0)), (0, .ref mh), (1, .long (iL pz)), (3, .int (iI o9))]) C dX10_triesBounds_158 (by decide) rfl ?_
                        have Lp160 : ∀ (fu9 : Nat) (c9 : Int) (gY : Int → Int), (0 ≤ c9 ∧ c9 ≤ kT 0) → (∀ c : Int, 0 ≤ c → c < c9 → gY c = gU_1 c) → (kT 0 - c9).toNat < fu9 → zzW p l e rm_X10_triesBounds s m ([.ref mh] : List Value).toArray below meth c z A 5 (MQ below (zQ z A (po_X10_triesBounds z mh xT xD xP xR xC xW xA xH xU xB xI xN xM xY xK xL xE xS m_ra m_ca m_tp m_fa m_at m_wr m_va m_pl m_st m_lo m_bl m_bc m_fo m_yl m_yw m_nu m_nl m_lu m_ll m_ln kT kD kP kR kC kW kA kH kU kB kI kN kM kY kK kL kE kS)) ([.ref mh] : List Value).toArray s 0 0 A) 0 0 (wMod z mh xT xD xP xR xC xW xA xH xU xB xI xN xM xY xK xL xE xS m_ra m_ca m_tp m_fa m_at m_wr m_va m_pl m_st gl_1 m_bl m_bc 1 gl_1 pz m_nu m_nl m_lu m_ll m_ln kT kD kP kR gC_1 gW_1 gA_1 gH_1 gU_1 kB kI kN kM gY gK_1 kL kE kS) [(0, .ref mh), (1, .long (iL pz)), (3, .int (iI o9)), (4, .int (iI c9))] [] 160 := by
                          intro fu9
                          induction fu9 with
                          | zero => intro c9 gY hc9 hB h9; exact absurd h9 (Nat.not_lt_zero _)
                          | succ fu9 ih160 =>
                            intro c9 gY hc9 hB hm160
                            refine zz_iload C 3 dX10_triesBounds_160 rfl ?_
                            refine zz_aload_n C 0 dX10_triesBounds_162 rfl rfl ?_
                            refine zz_get C 0 (ci := 10) (k := 1) rfl rfl in_X10 (by decide) qw_927 rfl rfl dX10_triesBounds_163 ?_
                            refine zz_iconst C dX10_triesBounds_166 ?_
                            refine zz_iald C 1 rfl (by omega) (by omega) (by decide) dX10_triesBounds_167 ?_
                            refine zz_icmp_ge (tgt := 191) C dX10_triesBounds_168 (by decide) (by unfold rI; omega) (by unfold rI; omega) (fun c168 => ?_) (fun c168 => ?_)
                            · skip
                              exact zz_vret C hr dX10_triesBounds_191 ⟨gW_1, gA_1, gK_1, gC_1, gU_1, gl_1, gH_1, 1, gl_1, pz, gY, hH2_1, Or.inr ⟨pz, gl_1, yS gU_1, hdc, hnb, by omega, by first | exact Or.inl ⟨by rcases hst with h | h; exact Or.inl h.1; exact Or.inr (lexS_yes h.2 (by omega) (by omega)), rfl, rfl, rfl, fun d h0 h1 => hB (d - 1) (by omega) (by omega)⟩ | exact Or.inr ⟨⟨by omega, lexS_no (hst.resolve_left (fun h => by omega)).2 (by omega) (by omega) (by have := (hfv (by omega)).1; omega) (by omega) (fun _ => by omega)⟩, rfl, rfl, rfl, rfl⟩⟩, rfl, rfl⟩
                            · skip
                              refine zz_aload_n C 0 dX10_triesBounds_171 rfl rfl ?_
                              refine zz_get C 0 (ci := 10) (k := 26) rfl rfl in_X10 (by decide) qw_952 rfl rfl dX10_triesBounds_172 ?_
                              refine zz_iload C 3 dX10_triesBounds_175 rfl ?_
                              refine zz_aload_n C 0 dX10_triesBounds_177 rfl rfl ?_
                              refine zz_get C 0 (ci := 10) (k := 17) rfl rfl in_X10 (by decide) qw_943 rfl rfl dX10_triesBounds_178 ?_
                              refine zz_iload C 3 dX10_triesBounds_181 rfl ?_
                              refine zz_lald C 9 rfl (by omega) (by omega) (by decide) dX10_triesBounds_183 ?_
                              refine zz_last (ws' := wMod z mh xT xD xP xR xC xW xA xH xU xB xI xN xM xY xK xL xE xS m_ra m_ca m_tp m_fa m_at m_wr m_va m_pl m_st gl_1 m_bl m_bc 1 gl_1 pz m_nu m_nl m_lu m_ll m_ln kT kD kP kR gC_1 gW_1 gA_1 gH_1 gU_1 kB kI kN kM (zup gY c9 (gU_1 c9)) gK_1 kL kE kS) C 14 rfl (by omega) (by omega) (by decide) rfl dX10_triesBounds_184 ?_
                              refine zz_iinc (ls' := [(4, .int (iI (c9 + 1))), (0, .ref mh), (1, .long (iL pz)), (3, .int (iI o9))]) C 3 dX10_triesBounds_185 rfl (by decide) rfl ?_
                              refine zz_goto (tgt := 160) C dX10_triesBounds_188 (by decide) ?_
                              refine zz_loc (ls' := [(0, .ref mh), (1, .long (iL pz)), (3, .int (iI o9)), (4, .int (iI (c9 + 1)))]) [1, 2, 3, 0] rfl ?_
                              exact ih160 (c9 + 1) (zup gY c9 (gU_1 c9)) (by omega) (zup_all hB rfl) (by omega)
                        refine zz_loc (ls' := [(0, .ref mh), (1, .long (iL pz)), (3, .int (iI o9)), (4, .int (iI 0))]) [1, 2, 3, 0] rfl ?_
                        exact Lp160 _ 0 kY (by omega) (fun c h0 h1 => by omega) (Nat.lt_succ_self _)
                    · skip
                      have hf8 := hfv (by omega)
                      have hv1 := hnb.2.2 (b9 + 1) (by omega) (by omega)
                      have hv2 := hf8.2.2.2 (b9 + 1) (by omega) (by omega)
                      have hf7 := hf8.1
                      unfold yS at hv1 hv2
                      rw [show b9 + 1 - 1 = b9 by omega] at hv1 hv2
                      refine zz_aload_n C 0 dX10_triesBounds_103 rfl rfl ?_
                      refine zz_get C 0 (ci := 10) (k := 17) rfl rfl in_X10 (by decide) qw_943 rfl rfl dX10_triesBounds_104 ?_
                      refine zz_iload C 3 dX10_triesBounds_107 rfl ?_
                      refine zz_lald C 9 rfl (by omega) (by omega) (by decide) dX10_triesBounds_109 ?_
                      refine zz_aload_n C 0 dX10_triesBounds_110 rfl rfl ?_
                      refine zz_get C 0 (ci := 10) (k := 18) rfl rfl in_X10 (by decide) qw_944 rfl rfl dX10_triesBounds_111 ?_
                      refine zz_aload_n C 0 dX10_triesBounds_114 rfl rfl ?_
                      refine zz_get C 0 (ci := 10) (k := 26) rfl rfl in_X10 (by decide) qw_952 rfl rfl dX10_triesBounds_115 ?_
                      refine zz_iload C 3 dX10_triesBounds_118 rfl ?_
                      refine zz_lald C 14 rfl (by omega) (by omega) (by decide) dX10_triesBounds_120 ?_
                      refine zz_aload_n C 0 dX10_triesBounds_121 rfl rfl ?_
                      refine zz_get C 0 (ci := 10) (k := 27) rfl rfl in_X10 (by decide) qw_953 rfl rfl dX10_triesBounds_122 ?_
                      refine zz_callS (wr := wMod z mh xT xD xP xR xC xW xA xH xU xB xI xN xM xY xK xL xE xS m_ra m_ca m_tp m_fa m_at m_wr m_va m_pl m_st gl_1 m_bl m_bc m_fo m_yl m_yw m_nu m_nl m_lu m_ll m_ln kT kD kP kR gC_1 gW_1 gA_1 gH_1 gU_1 kB kI kN kM kY gK_1 kL kE kS) (st := []) C (cc_X10_compares l z (gU_1 b9) gl_1 (kY b9) m_yl (by omega) (by omega) (by omega) (by omega)) yk_X10_compares qw_1226 ⟨by decide, by decide⟩ [] [0, 1, 2, 3, 4, 5, 6, 7, 8, 9, 10, 11, 12, 13, 14, 15, 16, 17, 18] rfl rfl rfl rfl (by decide) rfl rfl (Nat.le_of_ble_eq_true rfl) dX10_triesBounds_125 ⟨by decide, by decide⟩ ?_
                      rintro _ _ ⟨q_125, hq_125, rfl, rfl⟩
                      refine zz_st (st' := [.int (iI q_125)]) rfl (zz_ws (ws' := wMod z mh xT xD xP xR xC xW xA xH xU xB xI xN xM xY xK xL xE xS m_ra m_ca m_tp m_fa m_at m_wr m_va m_pl m_st gl_1 m_bl m_bc m_fo m_yl m_yw m_nu m_nl m_lu m_ll m_ln kT kD kP kR gC_1 gW_1 gA_1 gH_1 gU_1 kB kI kN kM kY gK_1 kL kE kS) rfl ?_)
                      refine zz_istore_n (ls' := [(3, .int (iI q_125)), (0, .ref mh), (1, .long (iL pz)), (4, .int (iI b9))]) C dX10_triesBounds_128 rfl (by decide) rfl ?_
                      refine zz_iinc (ls' := [(4, .int (iI (b9 + 1))), (3, .int (iI q_125)), (0, .ref mh), (1, .long (iL pz))]) C 3 dX10_triesBounds_129 rfl (by decide) rfl ?_
                      refine zz_goto (tgt := 88) C dX10_triesBounds_132 (by decide) ?_
                      refine zz_loc (ls' := [(0, .ref mh), (1, .long (iL pz)), (3, .int (iI q_125)), (4, .int (iI (b9 + 1)))]) [2, 3, 1, 0] rfl ?_
                      exact ih88 (b9 + 1) q_125 (by omega) (Or.inr ⟨by omega, lexS_cs (hst.resolve_left (fun h => by omega)).2 (by omega) (by omega) (by rw [kd_s _ _ (by omega), kd_s _ _ (by omega)]; unfold yS; rw [show b9 + 1 - 1 = b9 by omega]; exact hq_125)⟩) (by omega)
              refine zz_loc (ls' := [(0, .ref mh), (1, .long (iL pz)), (3, .int (iI (-q_76))), (4, .int (iI 0))]) [2, 3, 1, 0] rfl ?_
              exact Lp88 _ 0 (-q_76) (by omega) (by first | exact Or.inr ⟨by omega, hs9⟩ | exact Or.inl ⟨by omega, rfl⟩) (Nat.lt_succ_self _)
          · skip
            refine zz_lload_n C 1 dX10_triesBounds_29 rfl rfl ?_
            refine zz_aload_n C 0 dX10_triesBounds_30 rfl rfl ?_
            refine zz_get C 0 (ci := 10) (k := 17) rfl rfl in_X10 (by decide) qw_943 rfl rfl dX10_triesBounds_31 ?_
            refine zz_iload_n C 2 dX10_triesBounds_34 rfl rfl ?_
            refine zz_iconst C dX10_triesBounds_35 ?_
            refine zz_isub C dX10_triesBounds_36 ?_
            refine zz_lald C 9 rfl (by omega) (by omega) (by decide) dX10_triesBounds_37 ?_
            refine zz_aload_n C 0 dX10_triesBounds_38 rfl rfl ?_
            refine zz_get C 0 (ci := 10) (k := 1) rfl rfl in_X10 (by decide) qw_927 rfl rfl dX10_triesBounds_39 ?_
            have hr42 := hkT.2.2 (2 + k) (by omega) (by omega)
            refine zz_iconst C dX10_triesBounds_42 ?_
            refine zz_iload_n C 2 dX10_triesBounds_43 rfl rfl ?_
            refine zz_iadd C dX10_triesBounds_44 ?_
            refine zz_iald C 1 rfl (by omega) (by omega) (by decide) dX10_triesBounds_45 ?_
            refine zz_i2l C dX10_triesBounds_46 (by unfold rI; omega) ?_
            refine zz_lmul C dX10_triesBounds_47 ?_
            refine zz_ladd C dX10_triesBounds_48 ?_
            refine zz_lstore_n (ls' := [(1, .long (iL (pz + ((gU_1 (k - 1)) * (kT (2 + k)))))), (0, .ref mh), (3, .int (iI k))]) C dX10_triesBounds_49 rfl (by decide) rfl ?_
            refine zz_iinc (ls' := [(3, .int (iI (k + 1))), (1, .long (iL (pz + ((gU_1 (k - 1)) * (kT (2 + k)))))), (0, .ref mh)]) C 2 dX10_triesBounds_50 rfl (by decide) rfl ?_
            refine zz_goto (tgt := 19) C dX10_triesBounds_53 (by decide) ?_
            refine zz_loc (ls' := [(0, .ref mh), (1, .long (iL (pz + ((gU_1 (k - 1)) * (kT (2 + k)))))), (3, .int (iI (k + 1)))]) [2, 1, 0] rfl ?_
            exact ih19 (k + 1) (pz + ((gU_1 (k - 1)) * (kT (2 + k)))) (by omega) (tb_w (O := fun d => kT (2 + d)) hpz hk.1) (by omega)
      refine zz_loc (ls' := [(0, .ref mh), (1, .long (iL 0)), (3, .int (iI 1))]) [2, 1, 0] rfl ?_
      exact Lp19 _ 1 0 (by omega) rfl (Nat.lt_succ_self _)
    · skip
      have hno : ∀ D V, ¬ dcand (kT 0) (kT 1 + kT 0 + 1) (wE kN) kM kH D V := by obtain ⟨c, h0, h1, h2⟩ := (hq_8.resolve_left (fun h => by omega)).2; exact dcand_sno hk0.1 hk0.2 hsl hin h0 h1 h2
      exact zz_vret C hr dX10_triesBounds_14 ⟨gW_1, gA_1, gK_1, gC_1, gU_1, gl_1, gH_1, m_fo, m_yl, m_yw, kY, hH2_1, Or.inl ⟨hno, rfl, rfl, rfl, rfl⟩, rfl, rfl⟩
abbrev po_X10_multiplies (z : zC) (mh : Nat) (xT : Nat) (xD : Nat) (xP : Nat) (xR : Nat) (xC : Nat) (xW : Nat) (xA : Nat) (xH : Nat) (xU : Nat) (xB : Nat) (xI : Nat) (xN : Nat) (xM : Nat) (xY : Nat) (xK : Nat) (xL : Nat) (xE : Nat) (xS : Nat) (m_ra : Int) (m_ca : Int) (m_tp : Int) (m_fa : Int) (m_at : Int) (m_wr : Int) (m_va : Int) (m_pl : Int) (m_st : Int) (m_lo : Int) (m_bl : Int) (m_bc : Int) (m_fo : Int) (m_yl : Int) (m_yw : Int) (m_nu : Int) (m_nl : Int) (m_lu : Int) (m_ll : Int) (m_ln : Int) (kT : Int → Int) (kD : Int → Int) (kP : Int → Int) (kR : Int → Int) (kC : Int → Int) (kW : Int → Int) (kA : Int → Int) (kH : Int → Int) (kU : Int → Int) (kB : Int → Int) (kI : Int → Int) (kN : Int → Int) (kM : Int → Int) (kY : Int → Int) (kK : Int → Int) (kL : Int → Int) (kE : Int → Int) (kS : Int → Int) : Option Value → va_W → Prop := fun v w => ∃ (gN : Int → Int), ∃ (gM : Int → Int), ∃ (gW : Int → Int), ∃ (gA : Int → Int), ∃ (gK : Int → Int), ∃ (gC : Int → Int), ∃ (gU : Int → Int), ∃ (gl : Int), ∃ (gH : Int → Int), ∃ (go : Int), ∃ (gb : Int), ∃ (gc : Int), ∃ (gY : Int → Int), (nBest (kT 0) (kT 1 + kT 0 + 1) (mBF (kT 0) (kT 1) kT) (fun d => kT (2 + d)) (mBG (kT 0) (kT 1) kT) gb gc (yS gY)) ∧ v = none ∧ w = wMod z mh xT xD xP xR xC xW xA xH xU xB xI xN xM xY xK xL xE xS m_ra m_ca m_tp m_fa m_at m_wr m_va m_pl m_st gl m_bl m_bc go gb gc m_nu m_nl m_lu m_ll m_ln kT kD kP kR gC gW gA gH gU kB kI gN gM gY gK kL kE kS
abbrev rm_X10_multiplies : Room := { frames := 6, cells := 0, slots := 0, locals := 153 }
set_option maxHeartbeats 4000000 in
set_option maxRecDepth 100000 in
theorem cc_X10_multiplies (l : Launch) (z : zC) (mh : Nat) (xT : Nat) (xD : Nat) (xP : Nat) (xR : Nat) (xC : Nat) (xW : Nat) (xA : Nat) (xH : Nat) (xU : Nat) (xB : Nat) (xI : Nat) (xN : Nat) (xM : Nat) (xY : Nat) (xK : Nat) (xL : Nat) (xE : Nat) (xS : Nat) (m_ra : Int) (m_ca : Int) (m_tp : Int) (m_fa : Int) (m_at : Int) (m_wr : Int) (m_va : Int) (m_pl : Int) (m_st : Int) (m_lo : Int) (m_bl : Int) (m_bc : Int) (m_fo : Int) (m_yl : Int) (m_yw : Int) (m_nu : Int) (m_nl : Int) (m_lu : Int) (m_ll : Int) (m_ln : Int) (kT : Int → Int) (kD : Int → Int) (kP : Int → Int) (kR : Int → Int) (kC : Int → Int) (kW : Int → Int) (kA : Int → Int) (kH : Int → Int) (kU : Int → Int) (kB : Int → Int) (kI : Int → Int) (kN : Int → Int) (kM : Int → Int) (kY : Int → Int) (kK : Int → Int) (kL : Int → Int) (kE : Int → Int) (kS : Int → Int) (hkT : mOk kT) (hk2 : mOk2 kT) (hk3 : ∀ b : Int, 0 ≤ b → b < kT 1 → kT (12 + b) ≤ 20 ∧ kT (17 + b) ≤ 40) : zzMet l yX10_multiplies cX10_multiplies 2 none rm_X10_multiplies z [.ref mh] (wMod z mh xT xD xP xR xC xW xA xH xU xB xI xN xM xY xK xL xE xS m_ra m_ca m_tp m_fa m_at m_wr m_va m_pl m_st m_lo m_bl m_bc m_fo m_yl m_yw m_nu m_nl m_lu m_ll m_ln kT kD kP kR kC kW kA kH kU kB kI kN kM kY kK kL kE kS) (po_X10_multiplies z mh xT xD xP xR xC xW xA xH xU xB xI xN xM xY xK xL xE xS m_ra m_ca m_tp m_fa m_at m_wr m_va m_pl m_st m_lo m_bl m_bc m_fo m_yl m_yw m_nu m_nl m_lu m_ll m_ln kT kD kP kR kC kW kA kH kU kB kI kN kM kY kK kL kE kS) := by
  refine zzMet.of (own := RX10) (ls0 := [(0, .ref mh)]) (by decide) rfl (Nat.le_of_ble_eq_true rfl) rfl ?_
  intro p e s m below meth c A C hr hnm
  have hk0 := hkT.1
  have hk1 := hkT.2.1
  refine zz_aload_n C 0 dX10_multiplies_0 rfl rfl ?_
  refine zz_callV (wr := ([] : va_W)) (st := []) C (cc_X10_laysBounds l z mh xT xD xP xR xC xW xA xH xU xB xI xN xM xY xK xL xE xS m_ra m_ca m_tp m_fa m_at m_wr m_va m_pl m_st m_lo m_bl m_bc m_fo m_yl m_yw m_nu m_nl m_lu m_ll m_ln kT kD kP kR kC kW kA kH kU kB kI kN kM kY kK kL kE kS (by omega) (by omega)) yk_X10_laysBounds qw_1259 ⟨by decide, by decide⟩ [0, 1, 2, 3, 4, 5, 6, 7, 8, 9, 10, 11, 12, 13, 14, 15, 16, 17, 18] [] rfl rfl rfl rfl (by decide) 0 10 rfl rfl rfl rfl (Nat.le_of_ble_eq_true rfl) dX10_multiplies_1 ⟨by decide, by decide⟩ ?_
  rintro _ _ ⟨gN_1, gM_1, hgN_1, hgM_1, rfl, rfl⟩
  refine zz_st (st' := []) rfl (zz_ws (ws' := wMod z mh xT xD xP xR xC xW xA xH xU xB xI xN xM xY xK xL xE xS m_ra m_ca m_tp m_fa m_at m_wr m_va m_pl m_st m_lo m_bl m_bc m_fo m_yl m_yw m_nu m_nl m_lu m_ll m_ln kT kD kP kR kC kW kA kH kU kB kI gN_1 gM_1 kY kK kL kE kS) rfl ?_)
  have hwe : ∀ c d : Int, 0 ≤ c → c < 10 → 1 ≤ d → d ≤ 4 → wE gN_1 c d = mBF (kT 0) (kT 1) kT c d := fun c d h0 h1 h2 h3 => by have := hgN_1 c (d - 1) h0 h1 (by omega) (by omega); rw [show 4 * c + (d - 1) = 4 * c + d - 1 by omega, show d - 1 + 1 = d by omega] at this; exact this
  have hN6 : ∀ k r : Int, 0 ≤ k → k < 10 → 0 ≤ r → r < 4 → -60 ≤ gN_1 (4 * k + r) ∧ gN_1 (4 * k + r) ≤ 60 := fun k r h0 h1 h2 h3 => by rw [hgN_1 k r h0 h1 h2 h3]; exact mBF_rng hkT hk2 hk3 h0 (by omega) (by omega)
  have hM6 : ∀ k : Int, 0 ≤ k → k < 10 → 0 ≤ gM_1 k ∧ gM_1 k ≤ 200 := fun k h0 h1 => by rw [hgM_1 k h0 h1]; exact mBG_rng hkT h0
  have hde : ∀ Y (c : Int), 0 ≤ c → c < 10 → dsum (kT 0) (wE gN_1) Y c = dsum (kT 0) (mBF (kT 0) (kT 1) kT) Y c := fun Y c h0 h1 => zsum_congr (fun j j0 j1 => by show Y (j + 1) * wE gN_1 c (j + 1) = Y (j + 1) * mBF (kT 0) (kT 1) kT c (j + 1); rw [hwe c (j + 1) h0 h1 (by omega) (by omega)])
  have hyp6 : ∀ D Y, (∀ c : Int, 0 ≤ c → c < kT 1 + kT 0 + 1 → dsum (kT 0) (wE gN_1) Y c ≤ D * gM_1 c) → ∀ d : Int, 1 ≤ d → d ≤ kT 0 → 0 ≤ Y d := fun D Y h => mB_pos (kT := kT) (B := kT 1) hk0.1 hk1.1 (fun d a b => (hk2 d a (by omega)).1) (fun c h0 h1 => by have := h c h0 h1; rw [hde Y c h0 (by omega), hgM_1 c h0 (by omega)] at this; exact this)
  refine zz_aload_n C 0 dX10_multiplies_4 rfl rfl ?_
  refine zz_iconst C dX10_multiplies_5 ?_
  refine zz_put (ty := .boolean) (ws' := wMod z mh xT xD xP xR xC xW xA xH xU xB xI xN xM xY xK xL xE xS m_ra m_ca m_tp m_fa m_at m_wr m_va m_pl m_st m_lo m_bl m_bc 0 m_yl m_yw m_nu m_nl m_lu m_ll m_ln kT kD kP kR kC kW kA kH kU kB kI gN_1 gM_1 kY kK kL kE kS) C 0 (ci := 10) (k := 22) rfl rfl in_X10 tyX10 tyX10_ok nmX10 (by decide) qw_948 rfl rfl (by decide +kernel) (by decide +kernel) (by decide +kernel) (Nat.le_of_ble_eq_true rfl) rfl dX10_multiplies_6 ?_
  refine zz_iconst C dX10_multiplies_9 ?_
  refine zz_istore_n (ls' := [(1, .int (iI 0)), (0, .ref mh)]) C dX10_multiplies_10 rfl (by decide) rfl ?_
  have Lp11 : ∀ (fu9 : Nat) (k : Int) (gH : Int → Int), (0 ≤ k ∧ k ≤ kT 0) → (∀ i : Int, 0 ≤ i → i < k → gH i = i) → (kT 0 - k).toNat < fu9 → zzW p l e rm_X10_multiplies s m ([.ref mh] : List Value).toArray below meth c z A 2 (MQ below (zQ z A (po_X10_multiplies z mh xT xD xP xR xC xW xA xH xU xB xI xN xM xY xK xL xE xS m_ra m_ca m_tp m_fa m_at m_wr m_va m_pl m_st m_lo m_bl m_bc m_fo m_yl m_yw m_nu m_nl m_lu m_ll m_ln kT kD kP kR kC kW kA kH kU kB kI kN kM kY kK kL kE kS)) ([.ref mh] : List Value).toArray s 0 0 A) 0 0 (wMod z mh xT xD xP xR xC xW xA xH xU xB xI xN xM xY xK xL xE xS m_ra m_ca m_tp m_fa m_at m_wr m_va m_pl m_st m_lo m_bl m_bc 0 m_yl m_yw m_nu m_nl m_lu m_ll m_ln kT kD kP kR kC kW kA gH kU kB kI gN_1 gM_1 kY kK kL kE kS) [(0, .ref mh), (1, .int (iI k))] [] 11 := by
    intro fu9
    induction fu9 with
    | zero => intro k gH hk hH h9; exact absurd h9 (Nat.not_lt_zero _)
    | succ fu9 ih11 =>
      intro k gH hk hH hm11
      refine zz_iload_n C 1 dX10_multiplies_11 rfl rfl ?_
      refine zz_aload_n C 0 dX10_multiplies_12 rfl rfl ?_
      refine zz_get C 0 (ci := 10) (k := 1) rfl rfl in_X10 (by decide) qw_927 rfl rfl dX10_multiplies_13 ?_
      refine zz_iconst C dX10_multiplies_16 ?_
      refine zz_iald C 1 rfl (by omega) (by omega) (by decide) dX10_multiplies_17 ?_
      refine zz_icmp_ge (tgt := 34) C dX10_multiplies_18 (by decide) (by unfold rI; omega) (by unfold rI; omega) (fun c18 => ?_) (fun c18 => ?_)
      · skip
        refine zz_iconst C dX10_multiplies_34 ?_
        refine zz_istore_n (ls' := [(1, .int (iI 1)), (0, .ref mh)]) C dX10_multiplies_35 rfl (by decide) rfl ?_
        have Lp36 : ∀ (fu9 : Nat) (mo : Int) (gW : Int → Int) (gA : Int → Int) (gK : Int → Int) (gH : Int → Int) (gC : Int → Int) (gU : Int → Int) (gl : Int) (go : Int) (gb : Int) (gc : Int) (gY : Int → Int), (mo = 0 ∨ mo = 1) → (mo = 1 → srt4 (kT 0) (kT 1 + kT 0 + 1) gH ∧ (0 ≤ wt (kT 0) gH ∧ wt (kT 0) gH ≤ 14640) ∧ nSt (kT 0) (kT 1 + kT 0 + 1) (wE gN_1) (fun d => kT (2 + d)) gM_1 (qLx (kT 0) (kT 1 + kT 0 + 1) gH) go gb gc (yS gY)) → (mo = 0 → nSt (kT 0) (kT 1 + kT 0 + 1) (wE gN_1) (fun d => kT (2 + d)) gM_1 (srt4 (kT 0) (kT 1 + kT 0 + 1)) go gb gc (yS gY)) → (if mo = 0 then 0 else 14642 - wt (kT 0) gH).toNat < fu9 → zzW p l e rm_X10_multiplies s m ([.ref mh] : List Value).toArray below meth c z A 2 (MQ below (zQ z A (po_X10_multiplies z mh xT xD xP xR xC xW xA xH xU xB xI xN xM xY xK xL xE xS m_ra m_ca m_tp m_fa m_at m_wr m_va m_pl m_st m_lo m_bl m_bc m_fo m_yl m_yw m_nu m_nl m_lu m_ll m_ln kT kD kP kR kC kW kA kH kU kB kI kN kM kY kK kL kE kS)) ([.ref mh] : List Value).toArray s 0 0 A) 0 0 (wMod z mh xT xD xP xR xC xW xA xH xU xB xI xN xM xY xK xL xE xS m_ra m_ca m_tp m_fa m_at m_wr m_va m_pl m_st gl m_bl m_bc go gb gc m_nu m_nl m_lu m_ll m_ln kT kD kP kR gC gW gA gH gU kB kI gN_1 gM_1 gY gK kL kE kS) [(0, .ref mh), (1, .int (iI mo))] [] 36 := by
          intro fu9
          induction fu9 with
          | zero => intro mo gW gA gK gH gC gU gl go gb gc gY hmo hs1 hs0 h9; exact absurd h9 (Nat.not_lt_zero _)
          | succ fu9 ih36 =>
            intro mo gW gA gK gH gC gU gl go gb gc gY hmo hs1 hs0 hm36
            refine zz_iload_n C 1 dX10_multiplies_36 rfl rfl ?_
            refine zz_if_eq (tgt := 67) C dX10_multiplies_37 (by decide) (by unfold rI; omega) (fun c37 => ?_) (fun c37 => ?_)
            · skip
              have hfin := hs0 (by omega)
              have hex9 := dcand_E (E' := wE gN_1) (P' := gM_1) (fun c d h0 h1 h2 h3 => (hwe c d h0 (by omega) h2 (by omega)).symm) (fun c h0 h1 => (hgM_1 c h0 (by omega)).symm) (mB_ex hkT hk2)
              exact zz_vret C hr dX10_multiplies_67 ⟨_, _, _, _, _, _, _, _, _, _, _, _, _, nBest_E (fun c d h0 h1 h2 h3 => hwe c d h0 (by omega) h2 (by omega)) (fun c h0 h1 => hgM_1 c h0 (by omega)) (nSt_end hk0.1 hk0.2 ⟨_, _, _, hex9⟩ hfin), rfl, rfl⟩
            · skip
              obtain ⟨hsr, hwt, hst⟩ := hs1 (by omega)
              have hin9 := (srt_of4 hk0.2 hsr).1
              refine zz_aload_n C 0 dX10_multiplies_40 rfl rfl ?_
              refine zz_callV (wr := ([] : va_W)) (st := []) C (cc_X10_triesBounds l z mh xT xD xP xR xC xW xA xH xU xB xI xN xM xY xK xL xE xS m_ra m_ca m_tp m_fa m_at m_wr m_va m_pl m_st gl m_bl m_bc go gb gc m_nu m_nl m_lu m_ll m_ln kT kD kP kR gC gW gA gH gU kB kI gN_1 gM_1 gY gK kL kE kS (by omega) hN6 hM6 hin9 hyp6 hst.2) yk_X10_triesBounds qw_1263 ⟨by decide, by decide⟩ [0, 1, 2, 3, 4, 5, 6, 7, 8, 9, 10, 11, 12, 13, 14, 15, 16, 17, 18] [] rfl rfl rfl rfl (by decide) 0 10 rfl rfl rfl rfl (Nat.le_of_ble_eq_true rfl) dX10_multiplies_41 ⟨by decide, by decide⟩ ?_
              rintro _ _ ⟨gW_41, gA_41, gK_41, gC_41, gU_41, gl_41, gH_41, go_41, gb_41, gc_41, gY_41, hH2_41, ht_41, rfl, rfl⟩
              refine zz_st (st' := []) rfl (zz_ws (ws' := wMod z mh xT xD xP xR xC xW xA xH xU xB xI xN xM xY xK xL xE xS m_ra m_ca m_tp m_fa m_at m_wr m_va m_pl m_st gl_41 m_bl m_bc go_41 gb_41 gc_41 m_nu m_nl m_lu m_ll m_ln kT kD kP kR gC_41 gW_41 gA_41 gH_41 gU_41 kB kI gN_1 gM_1 gY_41 gK_41 kL kE kS) rfl ?_)
              have hnx : ∀ Q9 : (Int → Int) → Prop, (∀ g, Q9 g → srt4 (kT 0) (kT 1 + kT 0 + 1) g ∧ (lx (kT 0) g gH ∨ eqT (kT 0) g gH)) → nSt (kT 0) (kT 1 + kT 0 + 1) (wE gN_1) (fun d => kT (2 + d)) gM_1 (Q9) go_41 gb_41 gc_41 (yS gY_41) := fun Q9 hq => nSt_try hk0.1 hk0.2 hst hq ht_41
              have hsr2 := srt4_congr hk0.1 hk0.2 hH2_41 hsr
              refine zz_aload_n C 0 dX10_multiplies_44 rfl rfl ?_
              refine zz_aload_n C 0 dX10_multiplies_45 rfl rfl ?_
              refine zz_get C 0 (ci := 10) (k := 1) rfl rfl in_X10 (by decide) qw_927 rfl rfl dX10_multiplies_46 ?_
              refine zz_iconst C dX10_multiplies_49 ?_
              refine zz_iald C 1 rfl (by omega) (by omega) (by decide) dX10_multiplies_50 ?_
              refine zz_aload_n C 0 dX10_multiplies_51 rfl rfl ?_
              refine zz_get C 0 (ci := 10) (k := 1) rfl rfl in_X10 (by decide) qw_927 rfl rfl dX10_multiplies_52 ?_
              refine zz_iconst C dX10_multiplies_55 ?_
              refine zz_iald C 1 rfl (by omega) (by omega) (by decide) dX10_multiplies_56 ?_
              refine zz_iadd C dX10_multiplies_57 ?_
              refine zz_iconst C dX10_multiplies_58 ?_
              refine zz_iadd C dX10_multiplies_59 ?_
              refine zz_callV (wr := ([] : va_W)) (st := []) C (cc_X10_choosesOn l z mh xT xD xP xR xC xW xA xH xU xB xI xN xM xY xK xL xE xS m_ra m_ca m_tp m_fa m_at m_wr m_va m_pl m_st gl_41 m_bl m_bc go_41 gb_41 gc_41 m_nu m_nl m_lu m_ll m_ln kT kD kP kR gC_41 gW_41 gA_41 gH_41 gU_41 kB kI gN_1 gM_1 gY_41 gK_41 kL kE kS (((kT 1) + (kT 0)) + 1) (by omega) (by omega) hsr2) yk_X10_choosesOn qw_1229 ⟨by decide, by decide⟩ [0, 1, 2, 3, 4, 5, 6, 7, 8, 9, 10, 11, 12, 13, 14, 15, 16, 17, 18] [] rfl rfl rfl rfl (by decide) 0 10 rfl rfl rfl rfl (Nat.le_of_ble_eq_true rfl) dX10_multiplies_60 ⟨by decide, by decide⟩ ?_
              rintro _ _ ⟨q_60, gH_60, hq_60, rfl, rfl⟩
              refine zz_st (st' := [.int (iI q_60)]) rfl (zz_ws (ws' := wMod z mh xT xD xP xR xC xW xA xH xU xB xI xN xM xY xK xL xE xS m_ra m_ca m_tp m_fa m_at m_wr m_va m_pl m_st gl_41 m_bl m_bc go_41 gb_41 gc_41 m_nu m_nl m_lu m_ll m_ln kT kD kP kR gC_41 gW_41 gA_41 gH_60 gU_41 kB kI gN_1 gM_1 gY_41 gK_41 kL kE kS) rfl ?_)
              have hlq : ∀ g, lx (kT 0) g gH_41 ∨ eqT (kT 0) g gH_41 → lx (kT 0) g gH ∨ eqT (kT 0) g gH := fun g h => lx_congr hk0.1 hk0.2 hH2_41 h
              have hwe2 := wt_congr hk0.1 hk0.2 hH2_41
              have hmo9 : q_60 = 0 ∨ q_60 = 1 := by rcases hq_60 with h | h; exact Or.inr h.1; exact Or.inl h.1
              have hs19 : q_60 = 1 → srt4 (kT 0) (kT 1 + kT 0 + 1) gH_60 ∧ (0 ≤ wt (kT 0) gH_60 ∧ wt (kT 0) gH_60 ≤ 14640) ∧ nSt (kT 0) (kT 1 + kT 0 + 1) (wE gN_1) (fun d => kT (2 + d)) gM_1 (qLx (kT 0) (kT 1 + kT 0 + 1) gH_60) go_41 gb_41 gc_41 (yS gY_41) := fun h => by obtain ⟨-, a, b, c, d⟩ := hq_60.resolve_right (fun h2 => by omega); exact ⟨a, by omega, hnx _ (fun g q => ⟨q.1, hlq g (d g q.1 q.2)⟩)⟩
              have hs09 : q_60 = 0 → nSt (kT 0) (kT 1 + kT 0 + 1) (wE gN_1) (fun d => kT (2 + d)) gM_1 (srt4 (kT 0) (kT 1 + kT 0 + 1)) go_41 gb_41 gc_41 (yS gY_41) := fun h => by obtain ⟨-, a, d⟩ := hq_60.resolve_left (fun h2 => by omega); exact hnx _ (fun g q => ⟨q, hlq g (d g q)⟩)
              have hme9 := wt_me (fu := 0) (q := q_60) (b := wt (kT 0) gH_60) hm36 (by omega) hwt (fun e => by rcases hq_60 with h | h; exact ⟨by omega, h.2.2.2.1⟩; omega) rfl
              refine zz_istore_n (ls' := [(1, .int (iI q_60)), (0, .ref mh)]) C dX10_multiplies_63 rfl (by decide) rfl ?_
              refine zz_goto (tgt := 36) C dX10_multiplies_64 (by decide) ?_
              refine zz_loc (ls' := [(0, .ref mh), (1, .int (iI q_60))]) [1, 0] rfl ?_
              exact ih36 q_60 gW_41 gA_41 gK_41 gH_60 gC_41 gU_41 gl_41 go_41 gb_41 gc_41 gY_41 hmo9 hs19 hs09 hme9
        refine zz_loc (ls' := [(0, .ref mh), (1, .int (iI 1))]) [1, 0] rfl ?_
        exact Lp36 _ 1 kW kA kK gH kC kU m_lo 0 m_yl m_yw kY (by omega) (fun _ => ⟨(nx_first hk0.1 hk0.2 (by omega) (fun i h0 h1 => hH i h0 (by omega))).1, wt_0 hk0.1 hk0.2 (fun i h0 h1 => hH i h0 (by omega)), nSt_0 (nx_first hk0.1 hk0.2 (by omega) (fun i h0 h1 => hH i h0 (by omega))).2⟩) (fun h => by omega) (Nat.lt_succ_self _)
      · skip
        refine zz_aload_n C 0 dX10_multiplies_21 rfl rfl ?_
        refine zz_get C 0 (ci := 10) (k := 16) rfl rfl in_X10 (by decide) qw_942 rfl rfl dX10_multiplies_22 ?_
        refine zz_iload_n C 1 dX10_multiplies_25 rfl rfl ?_
        refine zz_iload_n C 1 dX10_multiplies_26 rfl rfl ?_
        refine zz_iast (ws' := wMod z mh xT xD xP xR xC xW xA xH xU xB xI xN xM xY xK xL xE xS m_ra m_ca m_tp m_fa m_at m_wr m_va m_pl m_st m_lo m_bl m_bc 0 m_yl m_yw m_nu m_nl m_lu m_ll m_ln kT kD kP kR kC kW kA (zup gH k k) kU kB kI gN_1 gM_1 kY kK kL kE kS) C 8 rfl (by omega) (by omega) (by decide) rfl dX10_multiplies_27 ?_
        refine zz_iinc (ls' := [(1, .int (iI (k + 1))), (0, .ref mh)]) C 1 dX10_multiplies_28 rfl (by decide) rfl ?_
        refine zz_goto (tgt := 11) C dX10_multiplies_31 (by decide) ?_
        refine zz_loc (ls' := [(0, .ref mh), (1, .int (iI (k + 1)))]) [1, 0] rfl ?_
        exact ih11 (k + 1) (zup gH k k) (by omega) (zup_all (f := fun i => i) hH rfl) (by omega)
  refine zz_loc (ls' := [(0, .ref mh), (1, .int (iI 0))]) [1, 0] rfl ?_
  exact Lp11 _ 0 kH (by omega) (fun i h0 h1 => by omega) (Nat.lt_succ_self _)
abbrev po_X10_multiplier (z : zC) (mh : Nat) (xT : Nat) (xD : Nat) (xP : Nat) (xR : Nat) (xC : Nat) (xW : Nat) (xA : Nat) (xH : Nat) (xU : Nat) (xB : Nat) (xI : Nat) (xN : Nat) (xM : Nat) (xY : Nat) (xK : Nat) (xL : Nat) (xE : Nat) (xS : Nat) (m_ra : Int) (m_ca : Int) (m_tp : Int) (m_fa : Int) (m_at : Int) (m_wr : Int) (m_va : Int) (m_pl : Int) (m_st : Int) (m_lo : Int) (m_bl : Int) (m_bc : Int) (m_fo : Int) (m_yl : Int) (m_yw : Int) (m_nu : Int) (m_nl : Int) (m_lu : Int) (m_ll : Int) (m_ln : Int) (kT : Int → Int) (kD : Int → Int) (kP : Int → Int) (kR : Int → Int) (kC : Int → Int) (kW : Int → Int) (kA : Int → Int) (kH : Int → Int) (kU : Int → Int) (kB : Int → Int) (kI : Int → Int) (kN : Int → Int) (kM : Int → Int) (kY : Int → Int) (kK : Int → Int) (kL : Int → Int) (kE : Int → Int) (kS : Int → Int) (t9 : Int) (un : Int) : Option Value → va_W → Prop := fun v w => ∃ (q : Int), ∃ (gN : Int → Int), ∃ (gM : Int → Int), ∃ (gW : Int → Int), ∃ (gA : Int → Int), ∃ (gK : Int → Int), ∃ (gC : Int → Int), ∃ (gU : Int → Int), ∃ (gl : Int), ∃ (gH : Int → Int), ∃ (go : Int), ∃ (gb : Int), ∃ (gc : Int), ∃ (gY : Int → Int), (((1 ≤ t9 ∧ t9 ≤ kT 0) ∧ (∃ D p Y, nBest (kT 0) (kT 1 + kT 0 + 1) (mBF (kT 0) (kT 1) kT) (fun d => kT (2 + d)) (mBG (kT 0) (kT 1) kT) D p Y ∧ q = ltm (Y t9) D un)) ∨ (¬ (1 ≤ t9 ∧ t9 ≤ kT 0) ∧ q = -1)) ∧ v = some (Value.long (iL q)) ∧ w = wMod z mh xT xD xP xR xC xW xA xH xU xB xI xN xM xY xK xL xE xS 0 m_ca m_tp m_fa m_at m_wr m_va m_pl m_st gl m_bl m_bc go gb gc m_nu m_nl m_lu m_ll m_ln kT kD kP kR gC gW gA gH gU kB kI gN gM gY gK kL kE kS
abbrev rm_X10_multiplier : Room := { frames := 7, cells := 0, slots := 0, locals := 174 }
set_option maxHeartbeats 4000000 in
set_option maxRecDepth 100000 in
theorem cc_X10_multiplier (l : Launch) (z : zC) (mh : Nat) (xT : Nat) (xD : Nat) (xP : Nat) (xR : Nat) (xC : Nat) (xW : Nat) (xA : Nat) (xH : Nat) (xU : Nat) (xB : Nat) (xI : Nat) (xN : Nat) (xM : Nat) (xY : Nat) (xK : Nat) (xL : Nat) (xE : Nat) (xS : Nat) (m_ra : Int) (m_ca : Int) (m_tp : Int) (m_fa : Int) (m_at : Int) (m_wr : Int) (m_va : Int) (m_pl : Int) (m_st : Int) (m_lo : Int) (m_bl : Int) (m_bc : Int) (m_fo : Int) (m_yl : Int) (m_yw : Int) (m_nu : Int) (m_nl : Int) (m_lu : Int) (m_ll : Int) (m_ln : Int) (kT : Int → Int) (kD : Int → Int) (kP : Int → Int) (kR : Int → Int) (kC : Int → Int) (kW : Int → Int) (kA : Int → Int) (kH : Int → Int) (kU : Int → Int) (kB : Int → Int) (kI : Int → Int) (kN : Int → Int) (kM : Int → Int) (kY : Int → Int) (kK : Int → Int) (kL : Int → Int) (kE : Int → Int) (kS : Int → Int) (t9 : Int) (un : Int) (hkT : mOk kT) (hk2 : mOk2 kT) (hk3 : ∀ b : Int, 0 ≤ b → b < kT 1 → kT (12 + b) ≤ 20 ∧ kT (17 + b) ≤ 40) (ht9 : -2147483648 ≤ t9 ∧ t9 < 2147483648) (hun : un = 0 ∨ un = 1) : zzMet l yX10_multiplier cX10_multiplier 3 (Option.some .long) rm_X10_multiplier z [.ref mh, .int (iI t9), .int (iI un)] (wMod z mh xT xD xP xR xC xW xA xH xU xB xI xN xM xY xK xL xE xS m_ra m_ca m_tp m_fa m_at m_wr m_va m_pl m_st m_lo m_bl m_bc m_fo m_yl m_yw m_nu m_nl m_lu m_ll m_ln kT kD kP kR kC kW kA kH kU kB kI kN kM kY kK kL kE kS) (po_X10_multiplier z mh xT xD xP xR xC xW xA xH xU xB xI xN xM xY xK xL xE xS m_ra m_ca m_tp m_fa m_at m_wr m_va m_pl m_st m_lo m_bl m_bc m_fo m_yl m_yw m_nu m_nl m_lu m_ll m_ln kT kD kP kR kC kW kA kH kU kB kI kN kM kY kK kL kE kS t9 un) := by
  refine zzMet.of (own := RX10) (ls0 := [(0, .ref mh), (1, .int (iI t9)), (2, .int (iI un))]) (by decide) rfl (Nat.le_of_ble_eq_true rfl) rfl ?_
  intro p e s m below meth c A C hr hnm
  have hk0 := hkT.1
  have hk1 := hkT.2.1
  refine zz_aload_n C 0 dX10_multiplier_0 rfl rfl ?_
  refine zz_iconst C dX10_multiplier_1 ?_
  refine zz_put (ty := .int) (ws' := wMod z mh xT xD xP xR xC xW xA xH xU xB xI xN xM xY xK xL xE xS 0 m_ca m_tp m_fa m_at m_wr m_va m_pl m_st m_lo m_bl m_bc m_fo m_yl m_yw m_nu m_nl m_lu m_ll m_ln kT kD kP kR kC kW kA kH kU kB kI kN kM kY kK kL kE kS) C 0 (ci := 10) (k := 0) rfl rfl in_X10 tyX10 tyX10_ok nmX10 (by decide) qw_926 rfl rfl (by decide +kernel) rfl rfl (Nat.le_of_ble_eq_true rfl) rfl dX10_multiplier_2 ?_
  refine zz_iload_n C 1 dX10_multiplier_5 rfl rfl ?_
  refine zz_iconst C dX10_multiplier_6 ?_
  refine zz_aload_n C 0 dX10_multiplier_7 rfl rfl ?_
  refine zz_get C 0 (ci := 10) (k := 1) rfl rfl in_X10 (by decide) qw_927 rfl rfl dX10_multiplier_8 ?_
  refine zz_iconst C dX10_multiplier_11 ?_
  refine zz_iald C 1 rfl (by omega) (by omega) (by decide) dX10_multiplier_12 ?_
  refine zz_callS (wr := wMod z mh xT xD xP xR xC xW xA xH xU xB xI xN xM xY xK xL xE xS 0 m_ca m_tp m_fa m_at m_wr m_va m_pl m_st m_lo m_bl m_bc m_fo m_yl m_yw m_nu m_nl m_lu m_ll m_ln kT kD kP kR kC kW kA kH kU kB kI kN kM kY kK kL kE kS) (st := []) C (cc_X10_in l z t9 1 (kT 0) (by omega) (by omega) (by omega)) yk_X10_in qw_1049 ⟨by decide, by decide⟩ [] [0, 1, 2, 3, 4, 5, 6, 7, 8, 9, 10, 11, 12, 13, 14, 15, 16, 17, 18] rfl rfl rfl rfl (by decide) rfl rfl (Nat.le_of_ble_eq_true rfl) dX10_multiplier_13 ⟨by decide, by decide⟩ ?_
  rintro _ _ ⟨q_13, hq_13, rfl, rfl⟩
  refine zz_st (st' := [.int (iI q_13)]) rfl (zz_ws (ws' := wMod z mh xT xD xP xR xC xW xA xH xU xB xI xN xM xY xK xL xE xS 0 m_ca m_tp m_fa m_at m_wr m_va m_pl m_st m_lo m_bl m_bc m_fo m_yl m_yw m_nu m_nl m_lu m_ll m_ln kT kD kP kR kC kW kA kH kU kB kI kN kM kY kK kL kE kS) rfl ?_)
  refine zz_if_ne (tgt := 23) C dX10_multiplier_16 (by decide) (by unfold rI; omega) (fun c16 => ?_) (fun c16 => ?_)
  · skip
    refine zz_aload_n C 0 dX10_multiplier_23 rfl rfl ?_
    refine zz_callV (wr := ([] : va_W)) (st := []) C (cc_X10_multiplies l z mh xT xD xP xR xC xW xA xH xU xB xI xN xM xY xK xL xE xS 0 m_ca m_tp m_fa m_at m_wr m_va m_pl m_st m_lo m_bl m_bc m_fo m_yl m_yw m_nu m_nl m_lu m_ll m_ln kT kD kP kR kC kW kA kH kU kB kI kN kM kY kK kL kE kS (by omega) (by omega) (by omega)) yk_X10_multiplies qw_1255 ⟨by decide, by decide⟩ [0, 1, 2, 3, 4, 5, 6, 7, 8, 9, 10, 11, 12, 13, 14, 15, 16, 17, 18] [] rfl rfl rfl rfl (by decide) 0 10 rfl rfl rfl rfl (Nat.le_of_ble_eq_true rfl) dX10_multiplier_24 ⟨by decide, by decide⟩ ?_
    rintro _ _ ⟨gN_24, gM_24, gW_24, gA_24, gK_24, gC_24, gU_24, gl_24, gH_24, go_24, gb_24, gc_24, gY_24, hb_24, rfl, rfl⟩
    refine zz_st (st' := []) rfl (zz_ws (ws' := wMod z mh xT xD xP xR xC xW xA xH xU xB xI xN xM xY xK xL xE xS 0 m_ca m_tp m_fa m_at m_wr m_va m_pl m_st gl_24 m_bl m_bc go_24 gb_24 gc_24 m_nu m_nl m_lu m_ll m_ln kT kD kP kR gC_24 gW_24 gA_24 gH_24 gU_24 kB kI gN_24 gM_24 gY_24 gK_24 kL kE kS) rfl ?_)
    have hb8 := hb_24.2.1
    have hb7 : 0 ≤ gY_24 (t9 - 1) ∧ gY_24 (t9 - 1) ≤ 6144000000000000 := hb_24.2.2.2.2 t9 (by omega) (by omega)
    refine zz_aload_n C 0 dX10_multiplier_27 rfl rfl ?_
    refine zz_get C 0 (ci := 10) (k := 26) rfl rfl in_X10 (by decide) qw_952 rfl rfl dX10_multiplier_28 ?_
    refine zz_iload_n C 1 dX10_multiplier_31 rfl rfl ?_
    refine zz_iconst C dX10_multiplier_32 ?_
    refine zz_isub C dX10_multiplier_33 ?_
    refine zz_lald C 14 rfl (by omega) (by omega) (by decide) dX10_multiplier_34 ?_
    refine zz_aload_n C 0 dX10_multiplier_35 rfl rfl ?_
    refine zz_get C 0 (ci := 10) (k := 27) rfl rfl in_X10 (by decide) qw_953 rfl rfl dX10_multiplier_36 ?_
    refine zz_iload_n C 2 dX10_multiplier_39 rfl rfl ?_
    refine zz_callS (wr := wMod z mh xT xD xP xR xC xW xA xH xU xB xI xN xM xY xK xL xE xS 0 m_ca m_tp m_fa m_at m_wr m_va m_pl m_st gl_24 m_bl m_bc go_24 gb_24 gc_24 m_nu m_nl m_lu m_ll m_ln kT kD kP kR gC_24 gW_24 gA_24 gH_24 gU_24 kB kI gN_24 gM_24 gY_24 gK_24 kL kE kS) (st := []) C (cc_X10_tells l z (gY_24 (t9 - 1)) gb_24 un (by omega) (by omega) (by omega)) yk_X10_tells qw_1233 ⟨by decide, by decide⟩ [] [0, 1, 2, 3, 4, 5, 6, 7, 8, 9, 10, 11, 12, 13, 14, 15, 16, 17, 18] rfl rfl rfl rfl (by decide) rfl rfl (Nat.le_of_ble_eq_true rfl) dX10_multiplier_40 ⟨by decide, by decide⟩ ?_
    rintro _ _ ⟨rfl, rfl⟩
    refine zz_st (st' := [.long (iL (ltm (gY_24 (t9 - 1)) gb_24 un))]) rfl (zz_ws (ws' := wMod z mh xT xD xP xR xC xW xA xH xU xB xI xN xM xY xK xL xE xS 0 m_ca m_tp m_fa m_at m_wr m_va m_pl m_st gl_24 m_bl m_bc go_24 gb_24 gc_24 m_nu m_nl m_lu m_ll m_ln kT kD kP kR gC_24 gW_24 gA_24 gH_24 gU_24 kB kI gN_24 gM_24 gY_24 gK_24 kL kE kS) rfl ?_)
    exact zz_lret C hr dX10_multiplier_43 ⟨_, gN_24, gM_24, gW_24, gA_24, gK_24, gC_24, gU_24, gl_24, gH_24, go_24, gb_24, gc_24, gY_24, Or.inl ⟨by omega, ⟨_, _, _, hb_24, rfl⟩⟩, rfl, rfl⟩
  · skip
    refine zz_ldc2 (a := (-1)) C qw_1150 (by decide +kernel) dX10_multiplier_19 ?_
    exact zz_lret C hr dX10_multiplier_22 ⟨_, kN, kM, kW, kA, kK, kC, kU, m_lo, kH, m_fo, m_yl, m_yw, kY, Or.inr ⟨by omega, rfl⟩, rfl, rfl⟩
abbrev po_X10_dear (z : zC) (mh : Nat) (xT : Nat) (xD : Nat) (xP : Nat) (xR : Nat) (xC : Nat) (xW : Nat) (xA : Nat) (xH : Nat) (xU : Nat) (xB : Nat) (xI : Nat) (xN : Nat) (xM : Nat) (xY : Nat) (xK : Nat) (xL : Nat) (xE : Nat) (xS : Nat) (m_ra : Int) (m_ca : Int) (m_tp : Int) (m_fa : Int) (m_at : Int) (m_wr : Int) (m_va : Int) (m_pl : Int) (m_st : Int) (m_lo : Int) (m_bl : Int) (m_bc : Int) (m_fo : Int) (m_yl : Int) (m_yw : Int) (m_nu : Int) (m_nl : Int) (m_lu : Int) (m_ll : Int) (m_ln : Int) (kT : Int → Int) (kD : Int → Int) (kP : Int → Int) (kR : Int → Int) (kC : Int → Int) (kW : Int → Int) (kA : Int → Int) (kH : Int → Int) (kU : Int → Int) (kB : Int → Int) (kI : Int → Int) (kN : Int → Int) (kM : Int → Int) (kY : Int → Int) (kK : Int → Int) (kL : Int → Int) (kE : Int → Int) (kS : Int → Int) (b9 : Int) (un : Int) : Option Value → va_W → Prop := fun v w => ∃ (q : Int), ∃ (gN : Int → Int), ∃ (gM : Int → Int), ∃ (gW : Int → Int), ∃ (gA : Int → Int), ∃ (gK : Int → Int), ∃ (gC : Int → Int), ∃ (gU : Int → Int), ∃ (gl : Int), ∃ (gH : Int → Int), ∃ (go : Int), ∃ (gb : Int), ∃ (gc : Int), ∃ (gY : Int → Int), (((0 ≤ b9 ∧ b9 < kT 1) ∧ (∃ D p Y, nBest (kT 0) (kT 1 + kT 0 + 1) (mBF (kT 0) (kT 1) kT) (fun d => kT (2 + d)) (mBG (kT 0) (kT 1) kT) D p Y ∧ q = ltm (kT (27 + b9) * D - zsum (fun j => Y (j + 1) * mYield kT b9 (j + 1)) (kT 0)) D un)) ∨ (¬ (0 ≤ b9 ∧ b9 < kT 1) ∧ q = -1)) ∧ v = some (Value.long (iL q)) ∧ w = wMod z mh xT xD xP xR xC xW xA xH xU xB xI xN xM xY xK xL xE xS 0 m_ca m_tp m_fa m_at m_wr m_va m_pl m_st gl m_bl m_bc go gb gc m_nu m_nl m_lu m_ll m_ln kT kD kP kR gC gW gA gH gU kB kI gN gM gY gK kL kE kS
abbrev rm_X10_dear : Room := { frames := 7, cells := 0, slots := 0, locals := 174 }
set_option maxHeartbeats 4000000 in
set_option maxRecDepth 100000 in
theorem cc_X10_dear (l : Launch) (z : zC) (mh : Nat) (xT : Nat) (xD : Nat) (xP : Nat) (xR : Nat) (xC : Nat) (xW : Nat) (xA : Nat) (xH : Nat) (xU : Nat) (xB : Nat) (xI : Nat) (xN : Nat) (xM : Nat) (xY : Nat) (xK : Nat) (xL : Nat) (xE : Nat) (xS : Nat) (m_ra : Int) (m_ca : Int) (m_tp : Int) (m_fa : Int) (m_at : Int) (m_wr : Int) (m_va : Int) (m_pl : Int) (m_st : Int) (m_lo : Int) (m_bl : Int) (m_bc : Int) (m_fo : Int) (m_yl : Int) (m_yw : Int) (m_nu : Int) (m_nl : Int) (m_lu : Int) (m_ll : Int) (m_ln : Int) (kT : Int → Int) (kD : Int → Int) (kP : Int → Int) (kR : Int → Int) (kC : Int → Int) (kW : Int → Int) (kA : Int → Int) (kH : Int → Int) (kU : Int → Int) (kB : Int → Int) (kI : Int → Int) (kN : Int → Int) (kM : Int → Int) (kY : Int → Int) (kK : Int → Int) (kL : Int → Int) (kE : Int → Int) (kS : Int → Int) (b9 : Int) (un : Int) (hkT : mOk kT) (hk2 : mOk2 kT) (hk3 : ∀ b : Int, 0 ≤ b → b < kT 1 → kT (12 + b) ≤ 20 ∧ kT (17 + b) ≤ 40) (hb9 : -2147483648 ≤ b9 ∧ b9 < 2147483648) (hun : un = 0 ∨ un = 1) : zzMet l yX10_dear cX10_dear 6 (Option.some .long) rm_X10_dear z [.ref mh, .int (iI b9), .int (iI un)] (wMod z mh xT xD xP xR xC xW xA xH xU xB xI xN xM xY xK xL xE xS m_ra m_ca m_tp m_fa m_at m_wr m_va m_pl m_st m_lo m_bl m_bc m_fo m_yl m_yw m_nu m_nl m_lu m_ll m_ln kT kD kP kR kC kW kA kH kU kB kI kN kM kY kK kL kE kS) (po_X10_dear z mh xT xD xP xR xC xW xA xH xU xB xI xN xM xY xK xL xE xS m_ra m_ca m_tp m_fa m_at m_wr m_va m_pl m_st m_lo m_bl m_bc m_fo m_yl m_yw m_nu m_nl m_lu m_ll m_ln kT kD kP kR kC kW kA kH kU kB kI kN kM kY kK kL kE kS b9 un) := by
  refine zzMet.of (own := RX10) (ls0 := [(0, .ref mh), (1, .int (iI b9)), (2, .int (iI un))]) (by decide) rfl (Nat.le_of_ble_eq_true rfl) rfl ?_
  intro p e s m below meth c A C hr hnm
  have hk0 := hkT.1
  have hk1 := hkT.2.1
  refine zz_aload_n C 0 dX10_dear_0 rfl rfl ?_
  refine zz_iconst C dX10_dear_1 ?_
  refine zz_put (ty := .int) (ws' := wMod z mh xT xD xP xR xC xW xA xH xU xB xI xN xM xY xK xL xE xS 0 m_ca m_tp m_fa m_at m_wr m_va m_pl m_st m_lo m_bl m_bc m_fo m_yl m_yw m_nu m_nl m_lu m_ll m_ln kT kD kP kR kC kW kA kH kU kB kI kN kM kY kK kL kE kS) C 0 (ci := 10) (k := 0) rfl rfl in_X10 tyX10 tyX10_ok nmX10 (by decide) qw_926 rfl rfl (by decide +kernel) rfl rfl (Nat.le_of_ble_eq_true rfl) rfl dX10_dear_2 ?_
  refine zz_iload_n C 1 dX10_dear_5 rfl rfl ?_
  refine zz_iconst C dX10_dear_6 ?_
  refine zz_aload_n C 0 dX10_dear_7 rfl rfl ?_
  refine zz_get C 0 (ci := 10) (k := 1) rfl rfl in_X10 (by decide) qw_927 rfl rfl dX10_dear_8 ?_
  refine zz_iconst C dX10_dear_11 ?_
  refine zz_iald C 1 rfl (by omega) (by omega) (by decide) dX10_dear_12 ?_
  refine zz_iconst C dX10_dear_13 ?_
  refine zz_isub C dX10_dear_14 ?_
  refine zz_callS (wr := wMod z mh xT xD xP xR xC xW xA xH xU xB xI xN xM xY xK xL xE xS 0 m_ca m_tp m_fa m_at m_wr m_va m_pl m_st m_lo m_bl m_bc m_fo m_yl m_yw m_nu m_nl m_lu m_ll m_ln kT kD kP kR kC kW kA kH kU kB kI kN kM kY kK kL kE kS) (st := []) C (cc_X10_in l z b9 0 ((kT 1) - 1) (by omega) (by omega) (by omega)) yk_X10_in qw_1049 ⟨by decide, by decide⟩ [] [0, 1, 2, 3, 4, 5, 6, 7, 8, 9, 10, 11, 12, 13, 14, 15, 16, 17, 18] rfl rfl rfl rfl (by decide) rfl rfl (Nat.le_of_ble_eq_true rfl) dX10_dear_15 ⟨by decide, by decide⟩ ?_
  rintro _ _ ⟨q_15, hq_15, rfl, rfl⟩
  refine zz_st (st' := [.int (iI q_15)]) rfl (zz_ws (ws' := wMod z mh xT xD xP xR xC xW xA xH xU xB xI xN xM xY xK xL xE xS 0 m_ca m_tp m_fa m_at m_wr m_va m_pl m_st m_lo m_bl m_bc m_fo m_yl m_yw m_nu m_nl m_lu m_ll m_ln kT kD kP kR kC kW kA kH kU kB kI kN kM kY kK kL kE kS) rfl ?_)
  refine zz_if_ne (tgt := 25) C dX10_dear_18 (by decide) (by unfold rI; omega) (fun c18 => ?_) (fun c18 => ?_)
  · skip
    refine zz_aload_n C 0 dX10_dear_25 rfl rfl ?_
    refine zz_callV (wr := ([] : va_W)) (st := []) C (cc_X10_multiplies l z mh xT xD xP xR xC xW xA xH xU xB xI xN xM xY xK xL xE xS 0 m_ca m_tp m_fa m_at m_wr m_va m_pl m_st m_lo m_bl m_bc m_fo m_yl m_yw m_nu m_nl m_lu m_ll m_ln kT kD kP kR kC kW kA kH kU kB kI kN kM kY kK kL kE kS (by omega) (by omega) (by omega)) yk_X10_multiplies qw_1255 ⟨by decide, by decide⟩ [0, 1, 2, 3, 4, 5, 6, 7, 8, 9, 10, 11, 12, 13, 14, 15, 16, 17, 18] [] rfl rfl rfl rfl (by decide) 0 10 rfl rfl rfl rfl (Nat.le_of_ble_eq_true rfl) dX10_dear_26 ⟨by decide, by decide⟩ ?_
    rintro _ _ ⟨gN_26, gM_26, gW_26, gA_26, gK_26, gC_26, gU_26, gl_26, gH_26, go_26, gb_26, gc_26, gY_26, hb_26, rfl, rfl⟩
    refine zz_st (st' := []) rfl (zz_ws (ws' := wMod z mh xT xD xP xR xC xW xA xH xU xB xI xN xM xY xK xL xE xS 0 m_ca m_tp m_fa m_at m_wr m_va m_pl m_st gl_26 m_bl m_bc go_26 gb_26 gc_26 m_nu m_nl m_lu m_ll m_ln kT kD kP kR gC_26 gW_26 gA_26 gH_26 gU_26 kB kI gN_26 gM_26 gY_26 gK_26 kL kE kS) rfl ?_)
    have hb8 := hb_26.2.1
    have hr26 := hkT.2.2 (27 + b9) (by omega) (by omega)
    refine zz_aload_n C 0 dX10_dear_29 rfl rfl ?_
    refine zz_get C 0 (ci := 10) (k := 1) rfl rfl in_X10 (by decide) qw_927 rfl rfl dX10_dear_30 ?_
    refine zz_bipush C dX10_dear_33 (by decide +kernel) ?_
    refine zz_iload_n C 1 dX10_dear_35 rfl rfl ?_
    refine zz_iadd C dX10_dear_36 ?_
    refine zz_iald C 1 rfl (by omega) (by omega) (by decide) dX10_dear_37 ?_
    refine zz_i2l C dX10_dear_38 (by unfold rI; omega) ?_
    refine zz_aload_n C 0 dX10_dear_39 rfl rfl ?_
    refine zz_get C 0 (ci := 10) (k := 27) rfl rfl in_X10 (by decide) qw_953 rfl rfl dX10_dear_40 ?_
    refine zz_lmul C dX10_dear_43 ?_
    refine zz_lstore_n (ls' := [(3, .long (iL ((kT (27 + b9)) * gb_26))), (0, .ref mh), (1, .int (iI b9)), (2, .int (iI un))]) C dX10_dear_44 rfl (by decide) rfl ?_
    refine zz_iconst C dX10_dear_45 ?_
    refine zz_istore (ls' := [(5, .int (iI 1)), (3, .long (iL ((kT (27 + b9)) * gb_26))), (0, .ref mh), (1, .int (iI b9)), (2, .int (iI un))]) C dX10_dear_46 (by decide) rfl ?_
    have Lp48 : ∀ (fu9 : Nat) (d9 : Int) (vv : Int), (1 ≤ d9 ∧ d9 ≤ kT 0 + 1) → (vv = kT (27 + b9) * gb_26 - zsum (fun j => yS gY_26 (j + 1) * mYield kT b9 (j + 1)) (d9 - 1)) → (kT 0 + 1 - d9).toNat < fu9 → zzW p l e rm_X10_dear s m ([.ref mh, .int (iI b9), .int (iI un)] : List Value).toArray below meth c z A 6 (MQ below (zQ z A (po_X10_dear z mh xT xD xP xR xC xW xA xH xU xB xI xN xM xY xK xL xE xS m_ra m_ca m_tp m_fa m_at m_wr m_va m_pl m_st m_lo m_bl m_bc m_fo m_yl m_yw m_nu m_nl m_lu m_ll m_ln kT kD kP kR kC kW kA kH kU kB kI kN kM kY kK kL kE kS b9 un)) ([.ref mh, .int (iI b9), .int (iI un)] : List Value).toArray s 0 0 A) 0 0 (wMod z mh xT xD xP xR xC xW xA xH xU xB xI xN xM xY xK xL xE xS 0 m_ca m_tp m_fa m_at m_wr m_va m_pl m_st gl_26 m_bl m_bc go_26 gb_26 gc_26 m_nu m_nl m_lu m_ll m_ln kT kD kP kR gC_26 gW_26 gA_26 gH_26 gU_26 kB kI gN_26 gM_26 gY_26 gK_26 kL kE kS) [(0, .ref mh), (1, .int (iI b9)), (2, .int (iI un)), (3, .long (iL vv)), (5, .int (iI d9))] [] 48 := by
      intro fu9
      induction fu9 with
      | zero => intro d9 vv hd9 hvv h9; exact absurd h9 (Nat.not_lt_zero _)
      | succ fu9 ih48 =>
        intro d9 vv hd9 hvv hm48
        refine zz_iload C 4 dX10_dear_48 rfl ?_
        refine zz_aload_n C 0 dX10_dear_50 rfl rfl ?_
        refine zz_get C 0 (ci := 10) (k := 1) rfl rfl in_X10 (by decide) qw_927 rfl rfl dX10_dear_51 ?_
        refine zz_iconst C dX10_dear_54 ?_
        refine zz_iald C 1 rfl (by omega) (by omega) (by decide) dX10_dear_55 ?_
        refine zz_icmp_gt (tgt := 86) C dX10_dear_56 (by decide) (by unfold rI; omega) (by unfold rI; omega) (fun c56 => ?_) (fun c56 => ?_)
        · skip
          rw [show d9 - 1 = kT 0 by omega] at hvv
          have hge := dear_pos hkT hb_26 (b := b9) (by omega)
          rw [← hvv] at hge
          refine zz_lload_n C 3 dX10_dear_86 rfl rfl ?_
          refine zz_aload_n C 0 dX10_dear_87 rfl rfl ?_
          refine zz_get C 0 (ci := 10) (k := 27) rfl rfl in_X10 (by decide) qw_953 rfl rfl dX10_dear_88 ?_
          refine zz_iload_n C 2 dX10_dear_91 rfl rfl ?_
          refine zz_callS (wr := wMod z mh xT xD xP xR xC xW xA xH xU xB xI xN xM xY xK xL xE xS 0 m_ca m_tp m_fa m_at m_wr m_va m_pl m_st gl_26 m_bl m_bc go_26 gb_26 gc_26 m_nu m_nl m_lu m_ll m_ln kT kD kP kR gC_26 gW_26 gA_26 gH_26 gU_26 kB kI gN_26 gM_26 gY_26 gK_26 kL kE kS) (st := []) C (cc_X10_tells l z vv gb_26 un (by omega) (by omega) (by omega)) yk_X10_tells qw_1233 ⟨by decide, by decide⟩ [] [0, 1, 2, 3, 4, 5, 6, 7, 8, 9, 10, 11, 12, 13, 14, 15, 16, 17, 18] rfl rfl rfl rfl (by decide) rfl rfl (Nat.le_of_ble_eq_true rfl) dX10_dear_92 ⟨by decide, by decide⟩ ?_
          rintro _ _ ⟨rfl, rfl⟩
          refine zz_st (st' := [.long (iL (ltm vv gb_26 un))]) rfl (zz_ws (ws' := wMod z mh xT xD xP xR xC xW xA xH xU xB xI xN xM xY xK xL xE xS 0 m_ca m_tp m_fa m_at m_wr m_va m_pl m_st gl_26 m_bl m_bc go_26 gb_26 gc_26 m_nu m_nl m_lu m_ll m_ln kT kD kP kR gC_26 gW_26 gA_26 gH_26 gU_26 kB kI gN_26 gM_26 gY_26 gK_26 kL kE kS) rfl ?_)
          exact zz_lret C hr dX10_dear_95 ⟨_, gN_26, gM_26, gW_26, gA_26, gK_26, gC_26, gU_26, gl_26, gH_26, go_26, gb_26, gc_26, gY_26, Or.inl ⟨by omega, ⟨_, _, _, hb_26, by rw [hvv]⟩⟩, rfl, rfl⟩
        · skip
          refine zz_lload_n C 3 dX10_dear_59 rfl rfl ?_
          refine zz_aload_n C 0 dX10_dear_60 rfl rfl ?_
          refine zz_get C 0 (ci := 10) (k := 26) rfl rfl in_X10 (by decide) qw_952 rfl rfl dX10_dear_61 ?_
          refine zz_iload C 4 dX10_dear_64 rfl ?_
          refine zz_iconst C dX10_dear_66 ?_
          refine zz_isub C dX10_dear_67 ?_
          refine zz_lald C 14 rfl (by omega) (by omega) (by decide) dX10_dear_68 ?_
          refine zz_aload_n C 0 dX10_dear_69 rfl rfl ?_
          refine zz_iload_n C 1 dX10_dear_70 rfl rfl ?_
          refine zz_iload C 4 dX10_dear_71 rfl ?_
          refine zz_callV (wr := ([] : va_W)) (st := [.long (iL (gY_26 (d9 - 1))), .long (iL vv)]) C (cc_X10_yields l z mh xT xD xP xR xC xW xA xH xU xB xI xN xM xY xK xL xE xS 0 m_ca m_tp m_fa m_at m_wr m_va m_pl m_st gl_26 m_bl m_bc go_26 gb_26 gc_26 m_nu m_nl m_lu m_ll m_ln kT kD kP kR gC_26 gW_26 gA_26 gH_26 gU_26 kB kI gN_26 gM_26 gY_26 gK_26 kL kE kS b9 d9 (by omega) (by omega) (by omega)) yk_X10_yields qw_1180 ⟨by decide, by decide⟩ [0, 1, 2, 3, 4, 5, 6, 7, 8, 9, 10, 11, 12, 13, 14, 15, 16, 17, 18] [] rfl rfl rfl rfl (by decide) 0 10 rfl rfl rfl rfl (Nat.le_of_ble_eq_true rfl) dX10_dear_73 ⟨by decide, by decide⟩ ?_
          rintro _ _ ⟨rfl, rfl⟩
          refine zz_st (st' := [.int (iI (mYield kT b9 d9)), .long (iL (gY_26 (d9 - 1))), .long (iL vv)]) rfl (zz_ws (ws' := wMod z mh xT xD xP xR xC xW xA xH xU xB xI xN xM xY xK xL xE xS 0 m_ca m_tp m_fa m_at m_wr m_va m_pl m_st gl_26 m_bl m_bc go_26 gb_26 gc_26 m_nu m_nl m_lu m_ll m_ln kT kD kP kR gC_26 gW_26 gA_26 gH_26 gU_26 kB kI gN_26 gM_26 gY_26 gK_26 kL kE kS) rfl ?_)
          have hy73 := mYield_rng hkT (b := b9) (by omega) d9
          refine zz_i2l C dX10_dear_76 (by unfold rI; omega) ?_
          refine zz_lmul C dX10_dear_77 ?_
          refine zz_lsub C dX10_dear_78 ?_
          refine zz_lstore_n (ls' := [(3, .long (iL (vv - ((gY_26 (d9 - 1)) * (mYield kT b9 d9))))), (0, .ref mh), (1, .int (iI b9)), (2, .int (iI un)), (5, .int (iI d9))]) C dX10_dear_79 rfl (by decide) rfl ?_
          refine zz_iinc (ls' := [(5, .int (iI (d9 + 1))), (3, .long (iL (vv - ((gY_26 (d9 - 1)) * (mYield kT b9 d9))))), (0, .ref mh), (1, .int (iI b9)), (2, .int (iI un))]) C 4 dX10_dear_80 rfl (by decide) rfl ?_
          refine zz_goto (tgt := 48) C dX10_dear_83 (by decide) ?_
          refine zz_loc (ls' := [(0, .ref mh), (1, .int (iI b9)), (2, .int (iI un)), (3, .long (iL (vv - ((gY_26 (d9 - 1)) * (mYield kT b9 d9))))), (5, .int (iI (d9 + 1)))]) [2, 3, 4, 1, 0] rfl ?_
          exact ih48 (d9 + 1) (vv - ((gY_26 (d9 - 1)) * (mYield kT b9 d9))) (by omega) (dear_step hvv hd9.1) (by omega)
    refine zz_loc (ls' := [(0, .ref mh), (1, .int (iI b9)), (2, .int (iI un)), (3, .long (iL ((kT (27 + b9)) * gb_26))), (5, .int (iI 1))]) [2, 3, 4, 1, 0] rfl ?_
    exact Lp48 _ 1 ((kT (27 + b9)) * gb_26) (by omega) (by rw [show (1 : Int) - 1 = 0 by rfl, zsum_0]; omega) (Nat.lt_succ_self _)
  · skip
    refine zz_ldc2 (a := (-1)) C qw_1150 (by decide +kernel) dX10_dear_21 ?_
    exact zz_lret C hr dX10_dear_24 ⟨_, kN, kM, kW, kA, kK, kC, kU, m_lo, kH, m_fo, m_yl, m_yw, kY, Or.inr ⟨by omega, rfl⟩, rfl, rfl⟩
