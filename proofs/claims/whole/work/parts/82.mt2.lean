theorem opM_cong {k v0 v1 v2 v3 : Int} {D D' : Int → Int} (h : eqR D D' 47) : eqR (opM k v0 v1 v2 v3 D) (opM k v0 v1 v2 v3 D') 47 := by
  intro i i0 i1
  unfold opM
  have z : ∀ a b : Int, zup D a b i = zup D' a b i := fun a b => eqR_zup h i i0 i1
  by_cases q0 : k = 0
  · rw [if_pos q0, if_pos q0]
  · rw [if_neg q0, if_neg q0]
    by_cases q1 : k = 1
    · rw [if_pos q1, if_pos q1, z]
    · rw [if_neg q1, if_neg q1]
      by_cases q2 : k = 2
      · rw [if_pos q2, if_pos q2, z]
      · rw [if_neg q2, if_neg q2]
        by_cases q3 : k = 3
        · rw [if_pos q3, if_pos q3]; exact mLaid_congr h (h 1 (by omega) (by omega)) i i0 i1
        · rw [if_neg q3, if_neg q3, z]
theorem opM_at {k' k v0 v1 v2 v3 : Int} {D : Int → Int} (h : k' = k) : opM k' v0 v1 v2 v3 D = opM k v0 v1 v2 v3 D := by rw [h]
theorem nok1 {P : Int → Prop} (h0 : P 0) : ∀ i : Int, 0 ≤ i → i < 1 → P i := fun i a b => by rw [show i = 0 by omega]; exact h0
theorem nok2 {P : Int → Prop} (h0 : P 0) (h1 : P 1) : ∀ i : Int, 0 ≤ i → i < 2 → P i := fun i a b => by rcases (show i = 0 ∨ i = 1 by omega) with e | e <;> subst e <;> assumption
theorem nok3 {P : Int → Prop} (h0 : P 0) (h1 : P 1) (h2 : P 2) : ∀ i : Int, 0 ≤ i → i < 3 → P i := fun i a b => by rcases (show i = 0 ∨ i = 1 ∨ i = 2 by omega) with e | e | e <;> subst e <;> assumption
theorem nok4 {P : Int → Prop} (h0 : P 0) (h1 : P 1) (h2 : P 2) (h3 : P 3) : ∀ i : Int, 0 ≤ i → i < 4 → P i := fun i a b => by rcases (show i = 0 ∨ i = 1 ∨ i = 2 ∨ i = 3 by omega) with e | e | e | e <;> subst e <;> assumption
theorem nok0 {P : Int → Prop} : ∀ j : Int, 0 ≤ j → j < 0 → P j := fun j a b => by omega
def okM (f : Int → Int) (n : Int) (D : Int → Int) (i : Nat) : Prop := sk f n (moN f n D i).1 < n ∧ stOk f n ((moN f n D i).2 0) ((moN f n D i).2 1) (moN f n D i).1
def tellM (f : Int → Int) (n : Int) (D : Int → Int) (q w : Int) (sc : Int) (D' : Int → Int) : Prop := ∃ j : Nat, (∀ i : Nat, i < j → okM f n D i) ∧ ((¬ sk f n (moN f n D j).1 < n ∧ q = 1 ∧ sc = (j : Int) ∧ w = 0 ∧ eqR D' (moN f n D j).2 47) ∨ (sk f n (moN f n D j).1 < n ∧ sWr f n ((moN f n D j).2 0) ((moN f n D j).2 1) (moN f n D j).1 w ∧ q = 0))
theorem moN_suc (f : Int → Int) (n : Int) (D : Int → Int) {k : Int} (h : 0 ≤ k) : moN f n D (k + 1).toNat = (sR f n (moN f n D k.toNat).1 + 1, opM (sK f n (moN f n D k.toNat).1) (sA f n (moN f n D k.toNat).1 0) (sA f n (moN f n D k.toNat).1 1) (sA f n (moN f n D k.toNat).1 2) (sA f n (moN f n D k.toNat).1 3) (moN f n D k.toNat).2) := by
  rw [show (k + 1).toNat = k.toNat + 1 by omega]
  rfl
theorem opM_rng {k v0 v1 v2 v3 : Int} {D : Int → Int} (hd : 1 ≤ D 0 ∧ D 0 ≤ 4) (hb : 0 ≤ D 1 ∧ D 1 ≤ 5) (h0 : k = 0 → 1 ≤ v0 ∧ v0 ≤ 4) (h1 : k = 1 ∨ k = 2 → 1 ≤ v0) (h3 : k = 3 → D 1 ≠ 5) (h4 : k = 4 → 0 ≤ v0) (hk : k = 0 ∨ k = 1 ∨ k = 2 ∨ k = 3 ∨ k = 4) : (1 ≤ opM k v0 v1 v2 v3 D 0 ∧ opM k v0 v1 v2 v3 D 0 ≤ 4) ∧ (0 ≤ opM k v0 v1 v2 v3 D 1 ∧ opM k v0 v1 v2 v3 D 1 ≤ 5) := by
  rcases hk with e | e | e | e | e <;> subst e
  · have h := h0 rfl
    show (1 ≤ mDates v0 0 ∧ mDates v0 0 ≤ 4) ∧ (0 ≤ mDates v0 1 ∧ mDates v0 1 ≤ 5)
    have e0 : mDates v0 0 = v0 := if_pos rfl
    have e1 : mDates v0 1 = 0 := if_neg (by omega)
    rw [e0, e1]; omega
  · have h := h1 (Or.inl rfl)
    show (1 ≤ zup D (2 + v0) v1 0 ∧ zup D (2 + v0) v1 0 ≤ 4) ∧ (0 ≤ zup D (2 + v0) v1 1 ∧ zup D (2 + v0) v1 1 ≤ 5)
    rw [zup_ne (by omega), zup_ne (by omega)]; exact ⟨hd, hb⟩
  · have h := h1 (Or.inr rfl)
    show (1 ≤ zup D (7 + v0) v1 0 ∧ zup D (7 + v0) v1 0 ≤ 4) ∧ (0 ≤ zup D (7 + v0) v1 1 ∧ zup D (7 + v0) v1 1 ≤ 5)
    rw [zup_ne (by omega), zup_ne (by omega)]; exact ⟨hd, hb⟩
  · have h := h3 rfl
    show (1 ≤ mLaid D v0 v1 v2 v3 0 ∧ mLaid D v0 v1 v2 v3 0 ≤ 4) ∧ (0 ≤ mLaid D v0 v1 v2 v3 1 ∧ mLaid D v0 v1 v2 v3 1 ≤ 5)
    have e0 : mLaid D v0 v1 v2 v3 0 = D 0 := by
      unfold mLaid
      repeat rw [zup_ne (by omega)]
    have e1 : mLaid D v0 v1 v2 v3 1 = D 1 + 1 := by unfold mLaid; rw [zup_eq]
    rw [e0, e1]; omega
  · have h := h4 rfl
    show (1 ≤ zup D (32 + v0) v1 0 ∧ zup D (32 + v0) v1 0 ≤ 4) ∧ (0 ≤ zup D (32 + v0) v1 1 ∧ zup D (32 + v0) v1 1 ≤ 5)
    rw [zup_ne (by omega), zup_ne (by omega)]; exact ⟨hd, hb⟩
theorem sR_pos {f : Int → Int} {n T B a : Int} (h0 : 0 ≤ a) (h : a ≤ n) (hp : stPre f n T B a) : 0 ≤ ps f n (sE f n a) (sC f n a) ∧ ps f n (sE f n a) (sC f n a) ≤ n := by
  have s1 := rn_spec blk f h
  have s2 := rn_spec ltr f s1.2.1
  have hr : -1 ≤ sK f n a ∧ sK f n a ≤ 4 := wkd_rng _ _ _
  have hc := zNUM_rng (k := sK f n a) (by have := hp.1; omega)
  have s3 := ps_rng (f := f) (n := n) (a := sE f n a) s2.2.1 (i := sC f n a) (by unfold sC; omega)
  have e : sE f n a = rn ltr f n (rn blk f n a) := rfl
  rw [← e] at s2
  omega
abbrev po_X10_readStatement (z : zC) (mh : Nat) (xT : Nat) (xD : Nat) (xP : Nat) (xR : Nat) (xC : Nat) (xW : Nat) (xA : Nat) (xH : Nat) (xU : Nat) (xB : Nat) (xI : Nat) (xN : Nat) (xM : Nat) (xY : Nat) (xK : Nat) (xL : Nat) (xE : Nat) (xS : Nat) (m_ra : Int) (m_ca : Int) (m_tp : Int) (m_fa : Int) (m_at : Int) (m_wr : Int) (m_va : Int) (m_pl : Int) (m_st : Int) (m_lo : Int) (m_bl : Int) (m_bc : Int) (m_fo : Int) (m_yl : Int) (m_yw : Int) (m_nu : Int) (m_nl : Int) (m_lu : Int) (m_ll : Int) (m_ln : Int) (kT : Int → Int) (kD : Int → Int) (kP : Int → Int) (kR : Int → Int) (kC : Int → Int) (kW : Int → Int) (kA : Int → Int) (kH : Int → Int) (kU : Int → Int) (kB : Int → Int) (kI : Int → Int) (kN : Int → Int) (kM : Int → Int) (kY : Int → Int) (kK : Int → Int) (kL : Int → Int) (kE : Int → Int) (kS : Int → Int) (a9 : Int) : Option Value → va_W → Prop := fun v w => ∃ (q : Int), ∃ (gA : Int), ∃ (gV : Int), ∃ (gW : Int), ∃ (gR : Int → Int), ∃ (gD : Int → Int), ∃ (gp : Int), ((q = 1 ∧ stPre kP m_tp (kD 0) (kD 1) a9 ∧ gA = ps kP m_tp (sE kP m_tp a9) (sC kP m_tp a9) ∧ gW = m_wr ∧ eqR gD (opM (sK kP m_tp a9) (sA kP m_tp a9 0) (sA kP m_tp a9 1) (sA kP m_tp a9 2) (sA kP m_tp a9 3) kD) 47) ∨ (q = 0 ∧ sWr kP m_tp (kD 0) (kD 1) a9 gW)) ∧ v = some (Value.int (iI q)) ∧ w = wMod z mh xT xD xP xR xC xW xA xH xU xB xI xN xM xY xK xL xE xS m_ra m_ca m_tp m_fa gA gW gV gp m_st m_lo m_bl m_bc m_fo m_yl m_yw m_nu m_nl m_lu m_ll m_ln kT gD kP gR kC kW kA kH kU kB kI kN kM kY kK kL kE kS
abbrev rm_X10_readStatement : Room := { frames := 4, cells := 0, slots := 0, locals := 109 }
set_option maxHeartbeats 4000000 in
set_option maxRecDepth 100000 in
theorem cc_X10_readStatement (l : Launch) (z : zC) (mh : Nat) (xT : Nat) (xD : Nat) (xP : Nat) (xR : Nat) (xC : Nat) (xW : Nat) (xA : Nat) (xH : Nat) (xU : Nat) (xB : Nat) (xI : Nat) (xN : Nat) (xM : Nat) (xY : Nat) (xK : Nat) (xL : Nat) (xE : Nat) (xS : Nat) (m_ra : Int) (m_ca : Int) (m_tp : Int) (m_fa : Int) (m_at : Int) (m_wr : Int) (m_va : Int) (m_pl : Int) (m_st : Int) (m_lo : Int) (m_bl : Int) (m_bc : Int) (m_fo : Int) (m_yl : Int) (m_yw : Int) (m_nu : Int) (m_nl : Int) (m_lu : Int) (m_ll : Int) (m_ln : Int) (kT : Int → Int) (kD : Int → Int) (kP : Int → Int) (kR : Int → Int) (kC : Int → Int) (kW : Int → Int) (kA : Int → Int) (kH : Int → Int) (kU : Int → Int) (kB : Int → Int) (kI : Int → Int) (kN : Int → Int) (kM : Int → Int) (kY : Int → Int) (kK : Int → Int) (kL : Int → Int) (kE : Int → Int) (kS : Int → Int) (a9 : Int) (htp : 0 ≤ m_tp ∧ m_tp ≤ 300) (hbm : ∀ i : Int, 0 ≤ kP i ∧ kP i < 256) (hkd : 1 ≤ kD 0 ∧ kD 0 ≤ 4) (hkb : 0 ≤ kD 1 ∧ kD 1 ≤ 5) (ha9 : 0 ≤ a9 ∧ a9 ≤ m_tp) (hma : m_at = sk kP m_tp a9) (hlt : sk kP m_tp a9 < m_tp) : zzMet l yX10_readStatement cX10_readStatement 3 (Option.some .boolean) rm_X10_readStatement z [.ref mh] (wMod z mh xT xD xP xR xC xW xA xH xU xB xI xN xM xY xK xL xE xS m_ra m_ca m_tp m_fa m_at m_wr m_va m_pl m_st m_lo m_bl m_bc m_fo m_yl m_yw m_nu m_nl m_lu m_ll m_ln kT kD kP kR kC kW kA kH kU kB kI kN kM kY kK kL kE kS) (po_X10_readStatement z mh xT xD xP xR xC xW xA xH xU xB xI xN xM xY xK xL xE xS m_ra m_ca m_tp m_fa m_at m_wr m_va m_pl m_st m_lo m_bl m_bc m_fo m_yl m_yw m_nu m_nl m_lu m_ll m_ln kT kD kP kR kC kW kA kH kU kB kI kN kM kY kK kL kE kS a9) := by
  refine zzMet.of (own := RX10) (ls0 := [(0, .ref mh)]) (by decide) rfl (Nat.le_of_ble_eq_true rfl) rfl ?_
  intro p e s m below meth c A C hr hnm
  have hsg : a9 ≤ sk kP m_tp a9 := (rn_spec blk kP ha9.2).1
  refine zz_aload_n C 0 dX10_readStatement_0 rfl rfl ?_
  refine zz_callV (wr := ([] : va_W)) (st := []) C (cc_X10_here l z mh xT xD xP xR xC xW xA xH xU xB xI xN xM xY xK xL xE xS m_ra m_ca m_tp m_fa m_at m_wr m_va m_pl m_st m_lo m_bl m_bc m_fo m_yl m_yw m_nu m_nl m_lu m_ll m_ln kT kD kP kR kC kW kA kH kU kB kI kN kM kY kK kL kE kS (by omega) (by omega) (by omega)) yk_X10_here qw_1132 ⟨by decide, by decide⟩ [0, 1, 2, 3, 4, 5, 6, 7, 8, 9, 10, 11, 12, 13, 14, 15, 16, 17, 18] [] rfl rfl rfl rfl (by decide) 0 10 rfl rfl rfl rfl (Nat.le_of_ble_eq_true rfl) dX10_readStatement_1 ⟨by decide, by decide⟩ ?_
  rintro _ _ ⟨gA_1, hA_1, hgA_1, rfl, rfl⟩
  refine zz_st (st' := [.int (iI (bAt kP m_tp gA_1))]) rfl (zz_ws (ws' := wMod z mh xT xD xP xR xC xW xA xH xU xB xI xN xM xY xK xL xE xS m_ra m_ca m_tp m_fa gA_1 m_wr m_va m_pl m_st m_lo m_bl m_bc m_fo m_yl m_yw m_nu m_nl m_lu m_ll m_ln kT kD kP kR kC kW kA kH kU kB kI kN kM kY kK kL kE kS) rfl ?_)
  have hg1 : gA_1 = m_at := by rw [hA_1, hma, sk_idem ha9.2]
  have hbr := bAt_rng hbm m_tp gA_1
  have hpl0 : gA_1 = sP kP m_tp a9 := by rw [hg1, hma]; rfl
  refine zz_bipush C dX10_readStatement_4 (by decide +kernel) ?_
  refine zz_bipush C dX10_readStatement_6 (by decide +kernel) ?_
  refine zz_callS (wr := wMod z mh xT xD xP xR xC xW xA xH xU xB xI xN xM xY xK xL xE xS m_ra m_ca m_tp m_fa gA_1 m_wr m_va m_pl m_st m_lo m_bl m_bc m_fo m_yl m_yw m_nu m_nl m_lu m_ll m_ln kT kD kP kR kC kW kA kH kU kB kI kN kM kY kK kL kE kS) (st := []) C (cc_X10_in l z (bAt kP m_tp gA_1) 97 122 (by omega) (by omega) (by omega)) yk_X10_in qw_1049 ⟨by decide, by decide⟩ [] [0, 1, 2, 3, 4, 5, 6, 7, 8, 9, 10, 11, 12, 13, 14, 15, 16, 17, 18] rfl rfl rfl rfl (by decide) rfl rfl (Nat.le_of_ble_eq_true rfl) dX10_readStatement_8 ⟨by decide, by decide⟩ ?_
  rintro _ _ ⟨q_8, hq_8, rfl, rfl⟩
  refine zz_st (st' := [.int (iI q_8)]) rfl (zz_ws (ws' := wMod z mh xT xD xP xR xC xW xA xH xU xB xI xN xM xY xK xL xE xS m_ra m_ca m_tp m_fa gA_1 m_wr m_va m_pl m_st m_lo m_bl m_bc m_fo m_yl m_yw m_nu m_nl m_lu m_ll m_ln kT kD kP kR kC kW kA kH kU kB kI kN kM kY kK kL kE kS) rfl ?_)
  refine zz_if_ne (tgt := 24) C dX10_readStatement_11 (by decide) (by unfold rI; omega) (fun c11 => ?_) (fun c11 => ?_)
  · skip
    refine zz_aload_n C 0 dX10_readStatement_24 rfl rfl ?_
    refine zz_callV (wr := ([] : va_W)) (st := []) C (cc_X10_readWord l z mh xT xD xP xR xC xW xA xH xU xB xI xN xM xY xK xL xE xS m_ra m_ca m_tp m_fa gA_1 m_wr m_va m_pl m_st m_lo m_bl m_bc m_fo m_yl m_yw m_nu m_nl m_lu m_ll m_ln kT kD kP kR kC kW kA kH kU kB kI kN kM kY kK kL kE kS (by omega) (by omega) (by omega)) yk_X10_readWord qw_1144 ⟨by decide, by decide⟩ [0, 1, 2, 3, 4, 5, 6, 7, 8, 9, 10, 11, 12, 13, 14, 15, 16, 17, 18] [] rfl rfl rfl rfl (by decide) 0 10 rfl rfl rfl rfl (Nat.le_of_ble_eq_true rfl) dX10_readStatement_25 ⟨by decide, by decide⟩ ?_
    rintro _ _ ⟨gA_25, hA_25, rfl, rfl⟩
    refine zz_st (st' := [.long (iL (hsh kP gA_1 gA_25))]) rfl (zz_ws (ws' := wMod z mh xT xD xP xR xC xW xA xH xU xB xI xN xM xY xK xL xE xS m_ra m_ca m_tp m_fa gA_25 m_wr m_va gA_1 m_st m_lo m_bl m_bc m_fo m_yl m_yw m_nu m_nl m_lu m_ll m_ln kT kD kP kR kC kW kA kH kU kB kI kN kM kY kK kL kE kS) rfl ?_)
    have hse : gA_25 = sE kP m_tp a9 := by rw [hA_25, hg1, hma]; rfl
    have hpl : gA_1 = sP kP m_tp a9 := by rw [hg1, hma]; rfl
    have hls := rn_spec ltr kP (n := m_tp) (a := gA_1) hgA_1.2
    rw [← hA_25] at hls
    have hhr := hsh_rng hls.1 hls.2.2.1
    have hwk := wkd_h hls.1 hls.2.2.1
    have hsk : wkd kP gA_1 gA_25 = sK kP m_tp a9 := by rw [hse, hpl]; rfl
    rw [hsk] at hwk
    have hp0 : gA_25 = ps kP m_tp (sE kP m_tp a9) 0 := by rw [ps_0]; exact hse
    have hat2 : 0 ≤ gA_25 ∧ gA_25 ≤ m_tp := by omega
    refine zz_lstore_n (ls' := [(1, .long (iL (hsh kP gA_1 gA_25))), (0, .ref mh)]) C dX10_readStatement_28 rfl (by decide) rfl ?_
    refine zz_lload_n C 0 dX10_readStatement_29 rfl rfl ?_
    refine zz_ldc2 (a := 2160181) C qw_1151 (by decide +kernel) dX10_readStatement_30 ?_
    refine zz_lcmp_ne (tgt := 58) C dX10_readStatement_33 dX10_readStatement_34 (by decide) (by unfold rL; omega) (by unfold rL; omega) (fun c33 => ?_) (fun c33 => ?_)
    · skip
      refine zz_lload_n C 0 dX10_readStatement_58 rfl rfl ?_
      refine zz_ldc2 (a := 11716) C qw_1156 (by decide +kernel) dX10_readStatement_59 ?_
      refine zz_lcmp_ne (tgt := 121) C dX10_readStatement_62 dX10_readStatement_63 (by decide) (by unfold rL; omega) (by unfold rL; omega) (fun c62 => ?_) (fun c62 => ?_)
      · skip
        refine zz_lload_n C 0 dX10_readStatement_121 rfl rfl ?_
        refine zz_ldc2 (a := 355568) C qw_1161 (by decide +kernel) dX10_readStatement_122 ?_
        refine zz_lcmp_ne (tgt := 184) C dX10_readStatement_125 dX10_readStatement_126 (by decide) (by unfold rL; omega) (by unfold rL; omega) (fun c125 => ?_) (fun c125 => ?_)
        · skip
          refine zz_lload_n C 0 dX10_readStatement_184 rfl rfl ?_
          refine zz_ldc2 (a := 267347) C qw_1162 (by decide +kernel) dX10_readStatement_185 ?_
          refine zz_lcmp_ne (tgt := 249) C dX10_readStatement_188 dX10_readStatement_189 (by decide) (by unfold rL; omega) (by unfold rL; omega) (fun c188 => ?_) (fun c188 => ?_)
          · skip
            refine zz_lload_n C 0 dX10_readStatement_249 rfl rfl ?_
            refine zz_ldc2 (a := 50683) C qw_1163 (by decide +kernel) dX10_readStatement_250 ?_
            refine zz_lcmp_eq (tgt := 267) C dX10_readStatement_253 dX10_readStatement_254 (by decide) (by unfold rL; omega) (by unfold rL; omega) (fun c253 => ?_) (fun c253 => ?_)
            · skip
              have hk9 : sK kP m_tp a9 = 3 := hwk.2.2.2.1 c253
              refine zz_aload_n C 1 dX10_readStatement_267 rfl rfl ?_
              refine zz_get C 0 (ci := 10) (k := 2) rfl rfl in_X10 (by decide) qw_928 rfl rfl dX10_readStatement_268 ?_
              refine zz_iconst C dX10_readStatement_271 ?_
              refine zz_iald C 2 rfl (by omega) (by omega) (by decide) dX10_readStatement_272 ?_
              refine zz_iconst C dX10_readStatement_273 ?_
              refine zz_icmp_ne (tgt := 287) C dX10_readStatement_274 (by decide) (by unfold rI; omega) (by unfold rI; omega) (fun c274 => ?_) (fun c274 => ?_)
              · skip
                refine zz_aload_n C 1 dX10_readStatement_287 rfl rfl ?_
                refine zz_iconst C dX10_readStatement_288 ?_
                refine zz_iconst C dX10_readStatement_289 ?_
                refine zz_bipush C dX10_readStatement_290 (by decide +kernel) ?_
                refine zz_callV (wr := ([] : va_W)) (st := []) C (cc_X10_reads l z mh xT xD xP xR xC xW xA xH xU xB xI xN xM xY xK xL xE xS m_ra m_ca m_tp m_fa gA_25 m_wr m_va gA_1 m_st m_lo m_bl m_bc m_fo m_yl m_yw m_nu m_nl m_lu m_ll m_ln kT kD kP kR kC kW kA kH kU kB kI kN kM kY kK kL kE kS 0 0 20 (by omega) (by omega) (by omega) (by omega) (by omega) (by omega)) yk_X10_reads qw_1157 ⟨by decide, by decide⟩ [0, 1, 2, 3, 4, 5, 6, 7, 8, 9, 10, 11, 12, 13, 14, 15, 16, 17, 18] [] rfl rfl rfl rfl (by decide) 0 10 rfl rfl rfl rfl (Nat.le_of_ble_eq_true rfl) dX10_readStatement_292 ⟨by decide, by decide⟩ ?_
                rintro _ _ ⟨q_292, gA_292, gV_292, gW_292, hq_292, hgA_292, rfl, rfl⟩
                refine zz_st (st' := [.int (iI q_292)]) rfl (zz_ws (ws' := wMod z mh xT xD xP xR xC xW xA xH xU xB xI xN xM xY xK xL xE xS m_ra m_ca m_tp m_fa gA_292 gW_292 gV_292 gA_1 m_st m_lo m_bl m_bc m_fo m_yl m_yw m_nu m_nl m_lu m_ll m_ln kT kD kP (zup kR 0 gV_292) kC kW kA kH kU kB kI kN kM kY kK kL kE kS) rfl ?_)
                have hrd292 := hq_292
                rw [hp0] at hrd292
                refine zz_if_eq (tgt := 336) C dX10_readStatement_295 (by decide) (by rcases hq_292 with h9 | h9 <;> (unfold rI; omega)) (fun c295 => ?_) (fun c295 => ?_)
                · skip
                  have hr292 := rd_no (T := kD 0) (B := kD 1) (k := 3) (i := 0) (by omega) hrd292 c295 (fun v => plFits_5 (kD 0) (kD 1) v)
                  have hbad := bad_of (f := kP) (n := m_tp) (T := kD 0) (B := kD 1) (a := a9) (i := 0) hk9 (by omega) (fun x => c274 x.2) (by decide) nok0 hr292
                  refine zz_iconst C dX10_readStatement_336 ?_
                  exact zz_zret C hr (by decide +kernel) dX10_readStatement_337 ⟨0, gA_292, gV_292, gW_292, (zup kR 0 gV_292), kD, gA_1, Or.inr ⟨rfl, hbad⟩, rfl, rfl⟩
                · skip
                  have hr292 := rd_ok (T := kD 0) (B := kD 1) (k := 3) (i := 0) (by omega) hrd292 c295 (fun v => plFits_5 (kD 0) (kD 1) v)
                  refine zz_aload_n C 1 dX10_readStatement_298 rfl rfl ?_
                  refine zz_iconst C dX10_readStatement_299 ?_
                  refine zz_iconst C dX10_readStatement_300 ?_
                  refine zz_bipush C dX10_readStatement_301 (by decide +kernel) ?_
                  refine zz_callV (wr := ([] : va_W)) (st := []) C (cc_X10_reads l z mh xT xD xP xR xC xW xA xH xU xB xI xN xM xY xK xL xE xS m_ra m_ca m_tp m_fa gA_292 gW_292 gV_292 gA_1 m_st m_lo m_bl m_bc m_fo m_yl m_yw m_nu m_nl m_lu m_ll m_ln kT kD kP (zup kR 0 gV_292) kC kW kA kH kU kB kI kN kM kY kK kL kE kS 1 1 40 (by omega) (by omega) (by omega) (by omega) (by omega) (by omega)) yk_X10_reads qw_1157 ⟨by decide, by decide⟩ [0, 1, 2, 3, 4, 5, 6, 7, 8, 9, 10, 11, 12, 13, 14, 15, 16, 17, 18] [] rfl rfl rfl rfl (by decide) 0 10 rfl rfl rfl rfl (Nat.le_of_ble_eq_true rfl) dX10_readStatement_303 ⟨by decide, by decide⟩ ?_
                  rintro _ _ ⟨q_303, gA_303, gV_303, gW_303, hq_303, hgA_303, rfl, rfl⟩
                  refine zz_st (st' := [.int (iI q_303)]) rfl (zz_ws (ws' := wMod z mh xT xD xP xR xC xW xA xH xU xB xI xN xM xY xK xL xE xS m_ra m_ca m_tp m_fa gA_303 gW_303 gV_303 gA_1 m_st m_lo m_bl m_bc m_fo m_yl m_yw m_nu m_nl m_lu m_ll m_ln kT kD kP (zup (zup kR 0 gV_292) 1 gV_303) kC kW kA kH kU kB kI kN kM kY kK kL kE kS) rfl ?_)
                  have hrd303 := hq_303
                  rw [hr292.2.2.1] at hrd303
                  refine zz_if_eq (tgt := 336) C dX10_readStatement_306 (by decide) (by rcases hq_303 with h9 | h9 <;> (unfold rI; omega)) (fun c306 => ?_) (fun c306 => ?_)
                  · skip
                    have hr303 := rd_no (T := kD 0) (B := kD 1) (k := 3) (i := 1) (by omega) hrd303 c306 (fun v => plFits_6 (kD 0) (kD 1) v)
                    have hbad := bad_of (f := kP) (n := m_tp) (T := kD 0) (B := kD 1) (a := a9) (i := 1) hk9 (by omega) (fun x => c274 x.2) (by decide) (nok1 hr292.1) hr303
                    refine zz_iconst C dX10_readStatement_336 ?_
                    exact zz_zret C hr (by decide +kernel) dX10_readStatement_337 ⟨0, gA_303, gV_303, gW_303, (zup (zup kR 0 gV_292) 1 gV_303), kD, gA_1, Or.inr ⟨rfl, hbad⟩, rfl, rfl⟩
                  · skip
                    have hr303 := rd_ok (T := kD 0) (B := kD 1) (k := 3) (i := 1) (by omega) hrd303 c306 (fun v => plFits_6 (kD 0) (kD 1) v)
                    refine zz_aload_n C 1 dX10_readStatement_309 rfl rfl ?_
                    refine zz_iconst C dX10_readStatement_310 ?_
                    refine zz_iconst C dX10_readStatement_311 ?_
                    refine zz_aload_n C 1 dX10_readStatement_312 rfl rfl ?_
                    refine zz_get C 0 (ci := 10) (k := 2) rfl rfl in_X10 (by decide) qw_928 rfl rfl dX10_readStatement_313 ?_
                    refine zz_iconst C dX10_readStatement_316 ?_
                    refine zz_iald C 2 rfl (by omega) (by omega) (by decide) dX10_readStatement_317 ?_
                    refine zz_callV (wr := ([] : va_W)) (st := []) C (cc_X10_reads l z mh xT xD xP xR xC xW xA xH xU xB xI xN xM xY xK xL xE xS m_ra m_ca m_tp m_fa gA_303 gW_303 gV_303 gA_1 m_st m_lo m_bl m_bc m_fo m_yl m_yw m_nu m_nl m_lu m_ll m_ln kT kD kP (zup (zup kR 0 gV_292) 1 gV_303) kC kW kA kH kU kB kI kN kM kY kK kL kE kS 2 1 (kD 0) (by omega) (by omega) (by omega) (by omega) (by omega) (by omega)) yk_X10_reads qw_1157 ⟨by decide, by decide⟩ [0, 1, 2, 3, 4, 5, 6, 7, 8, 9, 10, 11, 12, 13, 14, 15, 16, 17, 18] [] rfl rfl rfl rfl (by decide) 0 10 rfl rfl rfl rfl (Nat.le_of_ble_eq_true rfl) dX10_readStatement_318 ⟨by decide, by decide⟩ ?_
                    rintro _ _ ⟨q_318, gA_318, gV_318, gW_318, hq_318, hgA_318, rfl, rfl⟩
                    refine zz_st (st' := [.int (iI q_318)]) rfl (zz_ws (ws' := wMod z mh xT xD xP xR xC xW xA xH xU xB xI xN xM xY xK xL xE xS m_ra m_ca m_tp m_fa gA_318 gW_318 gV_318 gA_1 m_st m_lo m_bl m_bc m_fo m_yl m_yw m_nu m_nl m_lu m_ll m_ln kT kD kP (zup (zup (zup kR 0 gV_292) 1 gV_303) 2 gV_318) kC kW kA kH kU kB kI kN kM kY kK kL kE kS) rfl ?_)
                    have hrd318 := hq_318
                    rw [hr303.2.2.1] at hrd318
                    refine zz_if_eq (tgt := 336) C dX10_readStatement_321 (by decide) (by rcases hq_318 with h9 | h9 <;> (unfold rI; omega)) (fun c321 => ?_) (fun c321 => ?_)
                    · skip
                      have hr318 := rd_no (T := kD 0) (B := kD 1) (k := 3) (i := 2) (by omega) hrd318 c321 (fun v => plFits_1 (kD 0) (kD 1) v)
                      have hbad := bad_of (f := kP) (n := m_tp) (T := kD 0) (B := kD 1) (a := a9) (i := 2) hk9 (by omega) (fun x => c274 x.2) (by decide) (nok2 hr292.1 hr303.1) hr318
                      refine zz_iconst C dX10_readStatement_336 ?_
                      exact zz_zret C hr (by decide +kernel) dX10_readStatement_337 ⟨0, gA_318, gV_318, gW_318, (zup (zup (zup kR 0 gV_292) 1 gV_303) 2 gV_318), kD, gA_1, Or.inr ⟨rfl, hbad⟩, rfl, rfl⟩
                    · skip
                      have hr318 := rd_ok (T := kD 0) (B := kD 1) (k := 3) (i := 2) (by omega) hrd318 c321 (fun v => plFits_1 (kD 0) (kD 1) v)
                      refine zz_aload_n C 1 dX10_readStatement_324 rfl rfl ?_
                      refine zz_iconst C dX10_readStatement_325 ?_
                      refine zz_iconst C dX10_readStatement_326 ?_
                      refine zz_sipush C dX10_readStatement_327 (by decide +kernel) ?_
                      refine zz_callV (wr := ([] : va_W)) (st := []) C (cc_X10_reads l z mh xT xD xP xR xC xW xA xH xU xB xI xN xM xY xK xL xE xS m_ra m_ca m_tp m_fa gA_318 gW_318 gV_318 gA_1 m_st m_lo m_bl m_bc m_fo m_yl m_yw m_nu m_nl m_lu m_ll m_ln kT kD kP (zup (zup (zup kR 0 gV_292) 1 gV_303) 2 gV_318) kC kW kA kH kU kB kI kN kM kY kK kL kE kS 3 1 200 (by omega) (by omega) (by omega) (by omega) (by omega) (by omega)) yk_X10_reads qw_1157 ⟨by decide, by decide⟩ [0, 1, 2, 3, 4, 5, 6, 7, 8, 9, 10, 11, 12, 13, 14, 15, 16, 17, 18] [] rfl rfl rfl rfl (by decide) 0 10 rfl rfl rfl rfl (Nat.le_of_ble_eq_true rfl) dX10_readStatement_330 ⟨by decide, by decide⟩ ?_
                      rintro _ _ ⟨q_330, gA_330, gV_330, gW_330, hq_330, hgA_330, rfl, rfl⟩
                      refine zz_st (st' := [.int (iI q_330)]) rfl (zz_ws (ws' := wMod z mh xT xD xP xR xC xW xA xH xU xB xI xN xM xY xK xL xE xS m_ra m_ca m_tp m_fa gA_330 gW_330 gV_330 gA_1 m_st m_lo m_bl m_bc m_fo m_yl m_yw m_nu m_nl m_lu m_ll m_ln kT kD kP (zup (zup (zup (zup kR 0 gV_292) 1 gV_303) 2 gV_318) 3 gV_330) kC kW kA kH kU kB kI kN kM kY kK kL kE kS) rfl ?_)
                      have hrd330 := hq_330
                      rw [hr318.2.2.1] at hrd330
                      refine zz_if_ne (tgt := 338) C dX10_readStatement_333 (by decide) (by rcases hq_330 with h9 | h9 <;> (unfold rI; omega)) (fun c333 => ?_) (fun c333 => ?_)
                      · skip
                        have hr330 := rd_ok (T := kD 0) (B := kD 1) (k := 3) (i := 3) (by omega) hrd330 c333 (fun v => plFits_7 (kD 0) (kD 1) v)
                        refine zz_aload_n C 1 dX10_readStatement_338 rfl rfl ?_
                        refine zz_aload_n C 1 dX10_readStatement_339 rfl rfl ?_
                        refine zz_get C 0 (ci := 10) (k := 12) rfl rfl in_X10 (by decide) qw_938 rfl rfl dX10_readStatement_340 ?_
                        refine zz_iconst C dX10_readStatement_343 ?_
                        refine zz_iald C 4 rfl (by omega) (by omega) (by decide) dX10_readStatement_344 ?_
                        refine zz_aload_n C 1 dX10_readStatement_345 rfl rfl ?_
                        refine zz_get C 0 (ci := 10) (k := 12) rfl rfl in_X10 (by decide) qw_938 rfl rfl dX10_readStatement_346 ?_
                        refine zz_iconst C dX10_readStatement_349 ?_
                        refine zz_iald C 4 rfl (by omega) (by omega) (by decide) dX10_readStatement_350 ?_
                        refine zz_aload_n C 1 dX10_readStatement_351 rfl rfl ?_
                        refine zz_get C 0 (ci := 10) (k := 12) rfl rfl in_X10 (by decide) qw_938 rfl rfl dX10_readStatement_352 ?_
                        refine zz_iconst C dX10_readStatement_355 ?_
                        refine zz_iald C 4 rfl (by omega) (by omega) (by decide) dX10_readStatement_356 ?_
                        refine zz_aload_n C 1 dX10_readStatement_357 rfl rfl ?_
                        refine zz_get C 0 (ci := 10) (k := 12) rfl rfl in_X10 (by decide) qw_938 rfl rfl dX10_readStatement_358 ?_
                        refine zz_iconst C dX10_readStatement_361 ?_
                        refine zz_iald C 4 rfl (by omega) (by omega) (by decide) dX10_readStatement_362 ?_
                        have hx0 : (zup (zup (zup (zup kR 0 gV_292) 1 gV_303) 2 gV_318) 3 gV_330) 0 = gV_292 := by rw [zup_ne (by omega), zup_ne (by omega), zup_ne (by omega), zup_eq]
                        have hx1 : (zup (zup (zup (zup kR 0 gV_292) 1 gV_303) 2 gV_318) 3 gV_330) 1 = gV_303 := by rw [zup_ne (by omega), zup_ne (by omega), zup_eq]
                        have hx2 : (zup (zup (zup (zup kR 0 gV_292) 1 gV_303) 2 gV_318) 3 gV_330) 2 = gV_318 := by rw [zup_ne (by omega), zup_eq]
                        have hx3 : (zup (zup (zup (zup kR 0 gV_292) 1 gV_303) 2 gV_318) 3 gV_330) 3 = gV_330 := zup_eq _ _ _
                        refine zz_callV (wr := ([] : va_W)) (st := []) C (cc_X10_laysBond l z mh xT xD xP xR xC xW xA xH xU xB xI xN xM xY xK xL xE xS m_ra m_ca m_tp m_fa gA_330 gW_330 gV_330 gA_1 m_st m_lo m_bl m_bc m_fo m_yl m_yw m_nu m_nl m_lu m_ll m_ln kT kD kP (zup (zup (zup (zup kR 0 gV_292) 1 gV_303) 2 gV_318) 3 gV_330) kC kW kA kH kU kB kI kN kM kY kK kL kE kS ((zup (zup (zup (zup kR 0 gV_292) 1 gV_303) 2 gV_318) 3 gV_330) 0) ((zup (zup (zup (zup kR 0 gV_292) 1 gV_303) 2 gV_318) 3 gV_330) 1) ((zup (zup (zup (zup kR 0 gV_292) 1 gV_303) 2 gV_318) 3 gV_330) 2) ((zup (zup (zup (zup kR 0 gV_292) 1 gV_303) 2 gV_318) 3 gV_330) 3) (by omega)) yk_X10_laysBond qw_1084 ⟨by decide, by decide⟩ [0, 1, 2, 3, 4, 5, 6, 7, 8, 9, 10, 11, 12, 13, 14, 15, 16, 17, 18] [] rfl rfl rfl rfl (by decide) 0 10 rfl rfl rfl rfl (Nat.le_of_ble_eq_true rfl) dX10_readStatement_363 ⟨by decide, by decide⟩ ?_
                        rintro _ _ ⟨gD_363, hgD_363, rfl, rfl⟩
                        refine zz_st (st' := []) rfl (zz_ws (ws' := wMod z mh xT xD xP xR xC xW xA xH xU xB xI xN xM xY xK xL xE xS m_ra m_ca m_tp m_fa gA_330 gW_330 gV_330 gA_1 m_st m_lo m_bl m_bc m_fo m_yl m_yw m_nu m_nl m_lu m_ll m_ln kT gD_363 kP (zup (zup (zup (zup kR 0 gV_292) 1 gV_303) 2 gV_318) 3 gV_330) kC kW kA kH kU kB kI kN kM kY kK kL kE kS) rfl ?_)
                        refine zz_iconst C dX10_readStatement_366 ?_
                        exact zz_zret C hr (by decide +kernel) dX10_readStatement_367 ⟨1, gA_330, gV_330, gW_330, (zup (zup (zup (zup kR 0 gV_292) 1 gV_303) 2 gV_318) 3 gV_330), gD_363, gA_1, Or.inl ⟨rfl, pre_of hk9 (by omega) (fun x => c274 x.2) (nok4 hr292.1 hr303.1 hr318.1 hr330.1), by unfold sC; rw [hk9]; exact hr330.2.2.1, by rw [hr330.2.2.2.1, hr318.2.2.2.1, hr303.2.2.2.1]; exact hr292.2.2.2.1, fun i i0 i1 => by rw [hgD_363, opM_at hk9, hx0, hx1, hx2, hx3, hr292.2.1, hr303.2.1, hr318.2.1, hr330.2.1]; rfl⟩, rfl, rfl⟩
                      · skip
                        have hr330 := rd_no (T := kD 0) (B := kD 1) (k := 3) (i := 3) (by omega) hrd330 c333 (fun v => plFits_7 (kD 0) (kD 1) v)
                        have hbad := bad_of (f := kP) (n := m_tp) (T := kD 0) (B := kD 1) (a := a9) (i := 3) hk9 (by omega) (fun x => c274 x.2) (by decide) (nok3 hr292.1 hr303.1 hr318.1) hr330
                        refine zz_iconst C dX10_readStatement_336 ?_
                        exact zz_zret C hr (by decide +kernel) dX10_readStatement_337 ⟨0, gA_330, gV_330, gW_330, (zup (zup (zup (zup kR 0 gV_292) 1 gV_303) 2 gV_318) 3 gV_330), kD, gA_1, Or.inr ⟨rfl, hbad⟩, rfl, rfl⟩
              · skip
                refine zz_aload_n C 1 dX10_readStatement_277 rfl rfl ?_
                refine zz_iconst C dX10_readStatement_278 ?_
                refine zz_aload_n C 1 dX10_readStatement_279 rfl rfl ?_
                refine zz_get C 0 (ci := 10) (k := 10) rfl rfl in_X10 (by decide) qw_936 rfl rfl dX10_readStatement_280 ?_
                refine zz_callV (wr := ([] : va_W)) (st := []) C (cc_X10_fails l z mh xT xD xP xR xC xW xA xH xU xB xI xN xM xY xK xL xE xS m_ra m_ca m_tp m_fa gA_25 m_wr m_va gA_1 m_st m_lo m_bl m_bc m_fo m_yl m_yw m_nu m_nl m_lu m_ll m_ln kT kD kP kR kC kW kA kH kU kB kI kN kM kY kK kL kE kS 3 gA_1 ) yk_X10_fails qw_1140 ⟨by decide, by decide⟩ [0, 1, 2, 3, 4, 5, 6, 7, 8, 9, 10, 11, 12, 13, 14, 15, 16, 17, 18] [] rfl rfl rfl rfl (by decide) 0 10 rfl rfl rfl rfl (Nat.le_of_ble_eq_true rfl) dX10_readStatement_283 ⟨by decide, by decide⟩ ?_
                rintro _ _ ⟨rfl, rfl⟩
                refine zz_st (st' := [.int (iI 0)]) rfl (zz_ws (ws' := wMod z mh xT xD xP xR xC xW xA xH xU xB xI xN xM xY xK xL xE xS m_ra m_ca m_tp m_fa gA_25 (3 + 8 * gA_1) m_va gA_1 m_st m_lo m_bl m_bc m_fo m_yl m_yw m_nu m_nl m_lu m_ll m_ln kT kD kP kR kC kW kA kH kU kB kI kN kM kY kK kL kE kS) rfl ?_)
                exact zz_zret C hr (by decide +kernel) dX10_readStatement_286 ⟨0, gA_25, m_va, (3 + 8 * gA_1), kR, kD, gA_1, Or.inr ⟨rfl, Or.inr (Or.inl ⟨hk9, c274, by rw [hpl]⟩)⟩, rfl, rfl⟩
            · skip
              have hk9 : sK kP m_tp a9 = -1 := hwk.2.2.2.2.2 c33 c62 c125 c253 c188
              refine zz_aload_n C 1 dX10_readStatement_257 rfl rfl ?_
              refine zz_iconst C dX10_readStatement_258 ?_
              refine zz_aload_n C 1 dX10_readStatement_259 rfl rfl ?_
              refine zz_get C 0 (ci := 10) (k := 10) rfl rfl in_X10 (by decide) qw_936 rfl rfl dX10_readStatement_260 ?_
              refine zz_callV (wr := ([] : va_W)) (st := []) C (cc_X10_fails l z mh xT xD xP xR xC xW xA xH xU xB xI xN xM xY xK xL xE xS m_ra m_ca m_tp m_fa gA_25 m_wr m_va gA_1 m_st m_lo m_bl m_bc m_fo m_yl m_yw m_nu m_nl m_lu m_ll m_ln kT kD kP kR kC kW kA kH kU kB kI kN kM kY kK kL kE kS 1 gA_1 ) yk_X10_fails qw_1140 ⟨by decide, by decide⟩ [0, 1, 2, 3, 4, 5, 6, 7, 8, 9, 10, 11, 12, 13, 14, 15, 16, 17, 18] [] rfl rfl rfl rfl (by decide) 0 10 rfl rfl rfl rfl (Nat.le_of_ble_eq_true rfl) dX10_readStatement_263 ⟨by decide, by decide⟩ ?_
              rintro _ _ ⟨rfl, rfl⟩
              refine zz_st (st' := [.int (iI 0)]) rfl (zz_ws (ws' := wMod z mh xT xD xP xR xC xW xA xH xU xB xI xN xM xY xK xL xE xS m_ra m_ca m_tp m_fa gA_25 (1 + 8 * gA_1) m_va gA_1 m_st m_lo m_bl m_bc m_fo m_yl m_yw m_nu m_nl m_lu m_ll m_ln kT kD kP kR kC kW kA kH kU kB kI kN kM kY kK kL kE kS) rfl ?_)
              exact zz_zret C hr (by decide +kernel) dX10_readStatement_266 ⟨0, gA_25, m_va, (1 + 8 * gA_1), kR, kD, gA_1, Or.inr ⟨rfl, Or.inl ⟨hk9, by rw [hpl]⟩⟩, rfl, rfl⟩
          · skip
            have hk9 : sK kP m_tp a9 = 4 := hwk.2.2.2.2.1 c188
            refine zz_aload_n C 1 dX10_readStatement_192 rfl rfl ?_
            refine zz_iconst C dX10_readStatement_193 ?_
            refine zz_iconst C dX10_readStatement_194 ?_
            refine zz_aload_n C 1 dX10_readStatement_195 rfl rfl ?_
            refine zz_get C 0 (ci := 10) (k := 2) rfl rfl in_X10 (by decide) qw_928 rfl rfl dX10_readStatement_196 ?_
            refine zz_iconst C dX10_readStatement_199 ?_
            refine zz_iald C 2 rfl (by omega) (by omega) (by decide) dX10_readStatement_200 ?_
            refine zz_iconst C dX10_readStatement_201 ?_
            refine zz_isub C dX10_readStatement_202 ?_
            refine zz_callV (wr := ([] : va_W)) (st := []) C (cc_X10_reads l z mh xT xD xP xR xC xW xA xH xU xB xI xN xM xY xK xL xE xS m_ra m_ca m_tp m_fa gA_25 m_wr m_va gA_1 m_st m_lo m_bl m_bc m_fo m_yl m_yw m_nu m_nl m_lu m_ll m_ln kT kD kP kR kC kW kA kH kU kB kI kN kM kY kK kL kE kS 0 0 ((kD 1) - 1) (by omega) (by omega) (by omega) (by omega) (by omega) (by omega)) yk_X10_reads qw_1157 ⟨by decide, by decide⟩ [0, 1, 2, 3, 4, 5, 6, 7, 8, 9, 10, 11, 12, 13, 14, 15, 16, 17, 18] [] rfl rfl rfl rfl (by decide) 0 10 rfl rfl rfl rfl (Nat.le_of_ble_eq_true rfl) dX10_readStatement_203 ⟨by decide, by decide⟩ ?_
            rintro _ _ ⟨q_203, gA_203, gV_203, gW_203, hq_203, hgA_203, rfl, rfl⟩
            refine zz_st (st' := [.int (iI q_203)]) rfl (zz_ws (ws' := wMod z mh xT xD xP xR xC xW xA xH xU xB xI xN xM xY xK xL xE xS m_ra m_ca m_tp m_fa gA_203 gW_203 gV_203 gA_1 m_st m_lo m_bl m_bc m_fo m_yl m_yw m_nu m_nl m_lu m_ll m_ln kT kD kP (zup kR 0 gV_203) kC kW kA kH kU kB kI kN kM kY kK kL kE kS) rfl ?_)
            have hrd203 := hq_203
            rw [hp0] at hrd203
            refine zz_if_eq (tgt := 247) C dX10_readStatement_206 (by decide) (by rcases hq_203 with h9 | h9 <;> (unfold rI; omega)) (fun c206 => ?_) (fun c206 => ?_)
            · skip
              have hr203 := rd_no (T := kD 0) (B := kD 1) (k := 4) (i := 0) (by omega) hrd203 c206 (fun v => plFits_4 (kD 0) (kD 1) v)
              have hbad := bad_of (f := kP) (n := m_tp) (T := kD 0) (B := kD 1) (a := a9) (i := 0) hk9 (by omega) (by omega) (by decide) nok0 hr203
              refine zz_iconst C dX10_readStatement_247 ?_
              exact zz_zret C hr (by decide +kernel) dX10_readStatement_248 ⟨_, gA_203, gV_203, gW_203, (zup kR 0 gV_203), kD, gA_1, by first | (exfalso; omega) | exact Or.inr ⟨rfl, hbad⟩ | exact Or.inl ⟨rfl, pre_of hk9 (by omega) (by omega) (nok2 hr203.1 hr214.1), by unfold sC; rw [hk9]; exact hr214.2.2.1, by rw [hr214.2.2.2.1]; exact hr203.2.2.2.1, fun i i0 i1 => by rw [opM_at hk9, hx0, hx1, hr203.2.1, hr214.2.1]; rfl⟩, rfl, rfl⟩
            · skip
              have hr203 := rd_ok (T := kD 0) (B := kD 1) (k := 4) (i := 0) (by omega) hrd203 c206 (fun v => plFits_4 (kD 0) (kD 1) v)
              refine zz_aload_n C 1 dX10_readStatement_209 rfl rfl ?_
              refine zz_iconst C dX10_readStatement_210 ?_
              refine zz_iconst C dX10_readStatement_211 ?_
              refine zz_bipush C dX10_readStatement_212 (by decide +kernel) ?_
              refine zz_callV (wr := ([] : va_W)) (st := []) C (cc_X10_reads l z mh xT xD xP xR xC xW xA xH xU xB xI xN xM xY xK xL xE xS m_ra m_ca m_tp m_fa gA_203 gW_203 gV_203 gA_1 m_st m_lo m_bl m_bc m_fo m_yl m_yw m_nu m_nl m_lu m_ll m_ln kT kD kP (zup kR 0 gV_203) kC kW kA kH kU kB kI kN kM kY kK kL kE kS 1 0 12 (by omega) (by omega) (by omega) (by omega) (by omega) (by omega)) yk_X10_reads qw_1157 ⟨by decide, by decide⟩ [0, 1, 2, 3, 4, 5, 6, 7, 8, 9, 10, 11, 12, 13, 14, 15, 16, 17, 18] [] rfl rfl rfl rfl (by decide) 0 10 rfl rfl rfl rfl (Nat.le_of_ble_eq_true rfl) dX10_readStatement_214 ⟨by decide, by decide⟩ ?_
              rintro _ _ ⟨q_214, gA_214, gV_214, gW_214, hq_214, hgA_214, rfl, rfl⟩
              refine zz_st (st' := [.int (iI q_214)]) rfl (zz_ws (ws' := wMod z mh xT xD xP xR xC xW xA xH xU xB xI xN xM xY xK xL xE xS m_ra m_ca m_tp m_fa gA_214 gW_214 gV_214 gA_1 m_st m_lo m_bl m_bc m_fo m_yl m_yw m_nu m_nl m_lu m_ll m_ln kT kD kP (zup (zup kR 0 gV_203) 1 gV_214) kC kW kA kH kU kB kI kN kM kY kK kL kE kS) rfl ?_)
              have hrd214 := hq_214
              rw [hr203.2.2.1] at hrd214
              refine zz_if_eq (tgt := 247) C dX10_readStatement_217 (by decide) (by rcases hq_214 with h9 | h9 <;> (unfold rI; omega)) (fun c217 => ?_) (fun c217 => ?_)
              · skip
                have hr214 := rd_no (T := kD 0) (B := kD 1) (k := 4) (i := 1) (by omega) hrd214 c217 (fun v => plFits_8 (kD 0) (kD 1) v)
                have hbad := bad_of (f := kP) (n := m_tp) (T := kD 0) (B := kD 1) (a := a9) (i := 1) hk9 (by omega) (by omega) (by decide) (nok1 hr203.1) hr214
                refine zz_iconst C dX10_readStatement_247 ?_
                exact zz_zret C hr (by decide +kernel) dX10_readStatement_248 ⟨_, gA_214, gV_214, gW_214, (zup (zup kR 0 gV_203) 1 gV_214), kD, gA_1, by first | (exfalso; omega) | exact Or.inr ⟨rfl, hbad⟩ | exact Or.inl ⟨rfl, pre_of hk9 (by omega) (by omega) (nok2 hr203.1 hr214.1), by unfold sC; rw [hk9]; exact hr214.2.2.1, by rw [hr214.2.2.2.1]; exact hr203.2.2.2.1, fun i i0 i1 => by rw [opM_at hk9, hx0, hx1, hr203.2.1, hr214.2.1]; rfl⟩, rfl, rfl⟩
              · skip
                have hr214 := rd_ok (T := kD 0) (B := kD 1) (k := 4) (i := 1) (by omega) hrd214 c217 (fun v => plFits_8 (kD 0) (kD 1) v)
                refine zz_aload_n C 1 dX10_readStatement_220 rfl rfl ?_
                refine zz_bipush C dX10_readStatement_221 (by decide +kernel) ?_
                refine zz_aload_n C 1 dX10_readStatement_223 rfl rfl ?_
                refine zz_get C 0 (ci := 10) (k := 12) rfl rfl in_X10 (by decide) qw_938 rfl rfl dX10_readStatement_224 ?_
                refine zz_iconst C dX10_readStatement_227 ?_
                refine zz_iald C 4 rfl (by omega) (by omega) (by decide) dX10_readStatement_228 ?_
                refine zz_iadd C dX10_readStatement_229 ?_
                refine zz_aload_n C 1 dX10_readStatement_230 rfl rfl ?_
                refine zz_get C 0 (ci := 10) (k := 12) rfl rfl in_X10 (by decide) qw_938 rfl rfl dX10_readStatement_231 ?_
                refine zz_iconst C dX10_readStatement_234 ?_
                refine zz_iald C 4 rfl (by omega) (by omega) (by decide) dX10_readStatement_235 ?_
                refine zz_iconst C dX10_readStatement_236 ?_
                have hx0 : (zup (zup kR 0 gV_203) 1 gV_214) 0 = gV_203 := by rw [zup_ne (by omega), zup_eq]
                have hx1 : (zup (zup kR 0 gV_203) 1 gV_214) 1 = gV_214 := zup_eq _ _ _
                refine zz_callV (wr := ([] : va_W)) (st := []) C (cc_X10_lays_1 l z mh xT xD xP xR xC xW xA xH xU xB xI xN xM xY xK xL xE xS m_ra m_ca m_tp m_fa gA_214 gW_214 gV_214 gA_1 m_st m_lo m_bl m_bc m_fo m_yl m_yw m_nu m_nl m_lu m_ll m_ln kT kD kP (zup (zup kR 0 gV_203) 1 gV_214) kC kW kA kH kU kB kI kN kM kY kK kL kE kS (32 + ((zup (zup kR 0 gV_203) 1 gV_214) 0)) ((zup (zup kR 0 gV_203) 1 gV_214) 1) (by omega)) yk_X10_lays qw_1072 ⟨by decide, by decide⟩ [0, 1, 2, 3, 4, 5, 6, 7, 8, 9, 10, 11, 12, 13, 14, 15, 16, 17, 18] [] rfl rfl rfl rfl (by decide) 0 10 rfl rfl rfl rfl (Nat.le_of_ble_eq_true rfl) dX10_readStatement_237 ⟨by decide, by decide⟩ ?_
                rintro _ _ ⟨rfl, rfl⟩
                refine zz_st (st' := [.int (iI 1)]) rfl (zz_ws (ws' := wMod z mh xT xD xP xR xC xW xA xH xU xB xI xN xM xY xK xL xE xS m_ra m_ca m_tp m_fa gA_214 gW_214 gV_214 gA_1 m_st m_lo m_bl m_bc m_fo m_yl m_yw m_nu m_nl m_lu m_ll m_ln kT (zup kD (32 + ((zup (zup kR 0 gV_203) 1 gV_214) 0)) ((zup (zup kR 0 gV_203) 1 gV_214) 1)) kP (zup (zup kR 0 gV_203) 1 gV_214) kC kW kA kH kU kB kI kN kM kY kK kL kE kS) rfl ?_)
                refine zz_if_eq (tgt := 247) C dX10_readStatement_240 (by decide) (by unfold rI; omega) (fun c240 => ?_) (fun c240 => ?_)
                · skip
                  refine zz_iconst C dX10_readStatement_247 ?_
                  exact zz_zret C hr (by decide +kernel) dX10_readStatement_248 ⟨_, gA_214, gV_214, gW_214, (zup (zup kR 0 gV_203) 1 gV_214), (zup kD (32 + ((zup (zup kR 0 gV_203) 1 gV_214) 0)) ((zup (zup kR 0 gV_203) 1 gV_214) 1)), gA_1, by first | (exfalso; omega) | exact Or.inr ⟨rfl, hbad⟩ | exact Or.inl ⟨rfl, pre_of hk9 (by omega) (by omega) (nok2 hr203.1 hr214.1), by unfold sC; rw [hk9]; exact hr214.2.2.1, by rw [hr214.2.2.2.1]; exact hr203.2.2.2.1, fun i i0 i1 => by rw [opM_at hk9, hx0, hx1, hr203.2.1, hr214.2.1]; rfl⟩, rfl, rfl⟩
                · skip
                  refine zz_iconst C dX10_readStatement_243 ?_
                  refine zz_goto (tgt := 248) C dX10_readStatement_244 (by decide) ?_
                  exact zz_zret C hr (by decide +kernel) dX10_readStatement_248 ⟨_, gA_214, gV_214, gW_214, (zup (zup kR 0 gV_203) 1 gV_214), (zup kD (32 + ((zup (zup kR 0 gV_203) 1 gV_214) 0)) ((zup (zup kR 0 gV_203) 1 gV_214) 1)), gA_1, by first | (exfalso; omega) | exact Or.inr ⟨rfl, hbad⟩ | exact Or.inl ⟨rfl, pre_of hk9 (by omega) (by omega) (nok2 hr203.1 hr214.1), by unfold sC; rw [hk9]; exact hr214.2.2.1, by rw [hr214.2.2.2.1]; exact hr203.2.2.2.1, fun i i0 i1 => by rw [opM_at hk9, hx0, hx1, hr203.2.1, hr214.2.1]; rfl⟩, rfl, rfl⟩
        · skip
          have hk9 : sK kP m_tp a9 = 2 := hwk.2.2.1 c125
          refine zz_aload_n C 1 dX10_readStatement_129 rfl rfl ?_
          refine zz_iconst C dX10_readStatement_130 ?_
          refine zz_iconst C dX10_readStatement_131 ?_
          refine zz_aload_n C 1 dX10_readStatement_132 rfl rfl ?_
          refine zz_get C 0 (ci := 10) (k := 2) rfl rfl in_X10 (by decide) qw_928 rfl rfl dX10_readStatement_133 ?_
          refine zz_iconst C dX10_readStatement_136 ?_
          refine zz_iald C 2 rfl (by omega) (by omega) (by decide) dX10_readStatement_137 ?_
          refine zz_callV (wr := ([] : va_W)) (st := []) C (cc_X10_reads l z mh xT xD xP xR xC xW xA xH xU xB xI xN xM xY xK xL xE xS m_ra m_ca m_tp m_fa gA_25 m_wr m_va gA_1 m_st m_lo m_bl m_bc m_fo m_yl m_yw m_nu m_nl m_lu m_ll m_ln kT kD kP kR kC kW kA kH kU kB kI kN kM kY kK kL kE kS 0 1 (kD 0) (by omega) (by omega) (by omega) (by omega) (by omega) (by omega)) yk_X10_reads qw_1157 ⟨by decide, by decide⟩ [0, 1, 2, 3, 4, 5, 6, 7, 8, 9, 10, 11, 12, 13, 14, 15, 16, 17, 18] [] rfl rfl rfl rfl (by decide) 0 10 rfl rfl rfl rfl (Nat.le_of_ble_eq_true rfl) dX10_readStatement_138 ⟨by decide, by decide⟩ ?_
          rintro _ _ ⟨q_138, gA_138, gV_138, gW_138, hq_138, hgA_138, rfl, rfl⟩
          refine zz_st (st' := [.int (iI q_138)]) rfl (zz_ws (ws' := wMod z mh xT xD xP xR xC xW xA xH xU xB xI xN xM xY xK xL xE xS m_ra m_ca m_tp m_fa gA_138 gW_138 gV_138 gA_1 m_st m_lo m_bl m_bc m_fo m_yl m_yw m_nu m_nl m_lu m_ll m_ln kT kD kP (zup kR 0 gV_138) kC kW kA kH kU kB kI kN kM kY kK kL kE kS) rfl ?_)
          have hrd138 := hq_138
          rw [hp0] at hrd138
          refine zz_if_eq (tgt := 182) C dX10_readStatement_141 (by decide) (by rcases hq_138 with h9 | h9 <;> (unfold rI; omega)) (fun c141 => ?_) (fun c141 => ?_)
          · skip
            have hr138 := rd_no (T := kD 0) (B := kD 1) (k := 2) (i := 0) (by omega) hrd138 c141 (fun v => plFits_1 (kD 0) (kD 1) v)
            have hbad := bad_of (f := kP) (n := m_tp) (T := kD 0) (B := kD 1) (a := a9) (i := 0) hk9 (by omega) (by omega) (by decide) nok0 hr138
            refine zz_iconst C dX10_readStatement_182 ?_
            exact zz_zret C hr (by decide +kernel) dX10_readStatement_183 ⟨_, gA_138, gV_138, gW_138, (zup kR 0 gV_138), kD, gA_1, by first | (exfalso; omega) | exact Or.inr ⟨rfl, hbad⟩ | exact Or.inl ⟨rfl, pre_of hk9 (by omega) (by omega) (nok2 hr138.1 hr149.1), by unfold sC; rw [hk9]; exact hr149.2.2.1, by rw [hr149.2.2.2.1]; exact hr138.2.2.2.1, fun i i0 i1 => by rw [opM_at hk9, hx0, hx1, hr138.2.1, hr149.2.1]; rfl⟩, rfl, rfl⟩
          · skip
            have hr138 := rd_ok (T := kD 0) (B := kD 1) (k := 2) (i := 0) (by omega) hrd138 c141 (fun v => plFits_1 (kD 0) (kD 1) v)
            refine zz_aload_n C 1 dX10_readStatement_144 rfl rfl ?_
            refine zz_iconst C dX10_readStatement_145 ?_
            refine zz_iconst C dX10_readStatement_146 ?_
            refine zz_bipush C dX10_readStatement_147 (by decide +kernel) ?_
            refine zz_callV (wr := ([] : va_W)) (st := []) C (cc_X10_reads l z mh xT xD xP xR xC xW xA xH xU xB xI xN xM xY xK xL xE xS m_ra m_ca m_tp m_fa gA_138 gW_138 gV_138 gA_1 m_st m_lo m_bl m_bc m_fo m_yl m_yw m_nu m_nl m_lu m_ll m_ln kT kD kP (zup kR 0 gV_138) kC kW kA kH kU kB kI kN kM kY kK kL kE kS 1 0 6 (by omega) (by omega) (by omega) (by omega) (by omega) (by omega)) yk_X10_reads qw_1157 ⟨by decide, by decide⟩ [0, 1, 2, 3, 4, 5, 6, 7, 8, 9, 10, 11, 12, 13, 14, 15, 16, 17, 18] [] rfl rfl rfl rfl (by decide) 0 10 rfl rfl rfl rfl (Nat.le_of_ble_eq_true rfl) dX10_readStatement_149 ⟨by decide, by decide⟩ ?_
            rintro _ _ ⟨q_149, gA_149, gV_149, gW_149, hq_149, hgA_149, rfl, rfl⟩
            refine zz_st (st' := [.int (iI q_149)]) rfl (zz_ws (ws' := wMod z mh xT xD xP xR xC xW xA xH xU xB xI xN xM xY xK xL xE xS m_ra m_ca m_tp m_fa gA_149 gW_149 gV_149 gA_1 m_st m_lo m_bl m_bc m_fo m_yl m_yw m_nu m_nl m_lu m_ll m_ln kT kD kP (zup (zup kR 0 gV_138) 1 gV_149) kC kW kA kH kU kB kI kN kM kY kK kL kE kS) rfl ?_)
            have hrd149 := hq_149
            rw [hr138.2.2.1] at hrd149
            refine zz_if_eq (tgt := 182) C dX10_readStatement_152 (by decide) (by rcases hq_149 with h9 | h9 <;> (unfold rI; omega)) (fun c152 => ?_) (fun c152 => ?_)
            · skip
              have hr149 := rd_no (T := kD 0) (B := kD 1) (k := 2) (i := 1) (by omega) hrd149 c152 (fun v => plFits_3 (kD 0) (kD 1) v)
              have hbad := bad_of (f := kP) (n := m_tp) (T := kD 0) (B := kD 1) (a := a9) (i := 1) hk9 (by omega) (by omega) (by decide) (nok1 hr138.1) hr149
              refine zz_iconst C dX10_readStatement_182 ?_
              exact zz_zret C hr (by decide +kernel) dX10_readStatement_183 ⟨_, gA_149, gV_149, gW_149, (zup (zup kR 0 gV_138) 1 gV_149), kD, gA_1, by first | (exfalso; omega) | exact Or.inr ⟨rfl, hbad⟩ | exact Or.inl ⟨rfl, pre_of hk9 (by omega) (by omega) (nok2 hr138.1 hr149.1), by unfold sC; rw [hk9]; exact hr149.2.2.1, by rw [hr149.2.2.2.1]; exact hr138.2.2.2.1, fun i i0 i1 => by rw [opM_at hk9, hx0, hx1, hr138.2.1, hr149.2.1]; rfl⟩, rfl, rfl⟩
            · skip
              have hr149 := rd_ok (T := kD 0) (B := kD 1) (k := 2) (i := 1) (by omega) hrd149 c152 (fun v => plFits_3 (kD 0) (kD 1) v)
              refine zz_aload_n C 1 dX10_readStatement_155 rfl rfl ?_
              refine zz_bipush C dX10_readStatement_156 (by decide +kernel) ?_
              refine zz_aload_n C 1 dX10_readStatement_158 rfl rfl ?_
              refine zz_get C 0 (ci := 10) (k := 12) rfl rfl in_X10 (by decide) qw_938 rfl rfl dX10_readStatement_159 ?_
              refine zz_iconst C dX10_readStatement_162 ?_
              refine zz_iald C 4 rfl (by omega) (by omega) (by decide) dX10_readStatement_163 ?_
              refine zz_iadd C dX10_readStatement_164 ?_
              refine zz_aload_n C 1 dX10_readStatement_165 rfl rfl ?_
              refine zz_get C 0 (ci := 10) (k := 12) rfl rfl in_X10 (by decide) qw_938 rfl rfl dX10_readStatement_166 ?_
              refine zz_iconst C dX10_readStatement_169 ?_
              refine zz_iald C 4 rfl (by omega) (by omega) (by decide) dX10_readStatement_170 ?_
              refine zz_iconst C dX10_readStatement_171 ?_
              have hx0 : (zup (zup kR 0 gV_138) 1 gV_149) 0 = gV_138 := by rw [zup_ne (by omega), zup_eq]
              have hx1 : (zup (zup kR 0 gV_138) 1 gV_149) 1 = gV_149 := zup_eq _ _ _
              refine zz_callV (wr := ([] : va_W)) (st := []) C (cc_X10_lays_1 l z mh xT xD xP xR xC xW xA xH xU xB xI xN xM xY xK xL xE xS m_ra m_ca m_tp m_fa gA_149 gW_149 gV_149 gA_1 m_st m_lo m_bl m_bc m_fo m_yl m_yw m_nu m_nl m_lu m_ll m_ln kT kD kP (zup (zup kR 0 gV_138) 1 gV_149) kC kW kA kH kU kB kI kN kM kY kK kL kE kS (7 + ((zup (zup kR 0 gV_138) 1 gV_149) 0)) ((zup (zup kR 0 gV_138) 1 gV_149) 1) (by omega)) yk_X10_lays qw_1072 ⟨by decide, by decide⟩ [0, 1, 2, 3, 4, 5, 6, 7, 8, 9, 10, 11, 12, 13, 14, 15, 16, 17, 18] [] rfl rfl rfl rfl (by decide) 0 10 rfl rfl rfl rfl (Nat.le_of_ble_eq_true rfl) dX10_readStatement_172 ⟨by decide, by decide⟩ ?_
              rintro _ _ ⟨rfl, rfl⟩
              refine zz_st (st' := [.int (iI 1)]) rfl (zz_ws (ws' := wMod z mh xT xD xP xR xC xW xA xH xU xB xI xN xM xY xK xL xE xS m_ra m_ca m_tp m_fa gA_149 gW_149 gV_149 gA_1 m_st m_lo m_bl m_bc m_fo m_yl m_yw m_nu m_nl m_lu m_ll m_ln kT (zup kD (7 + ((zup (zup kR 0 gV_138) 1 gV_149) 0)) ((zup (zup kR 0 gV_138) 1 gV_149) 1)) kP (zup (zup kR 0 gV_138) 1 gV_149) kC kW kA kH kU kB kI kN kM kY kK kL kE kS) rfl ?_)
              refine zz_if_eq (tgt := 182) C dX10_readStatement_175 (by decide) (by unfold rI; omega) (fun c175 => ?_) (fun c175 => ?_)
              · skip
                refine zz_iconst C dX10_readStatement_182 ?_
                exact zz_zret C hr (by decide +kernel) dX10_readStatement_183 ⟨_, gA_149, gV_149, gW_149, (zup (zup kR 0 gV_138) 1 gV_149), (zup kD (7 + ((zup (zup kR 0 gV_138) 1 gV_149) 0)) ((zup (zup kR 0 gV_138) 1 gV_149) 1)), gA_1, by first | (exfalso; omega) | exact Or.inr ⟨rfl, hbad⟩ | exact Or.inl ⟨rfl, pre_of hk9 (by omega) (by omega) (nok2 hr138.1 hr149.1), by unfold sC; rw [hk9]; exact hr149.2.2.1, by rw [hr149.2.2.2.1]; exact hr138.2.2.2.1, fun i i0 i1 => by rw [opM_at hk9, hx0, hx1, hr138.2.1, hr149.2.1]; rfl⟩, rfl, rfl⟩
              · skip
                refine zz_iconst C dX10_readStatement_178 ?_
                refine zz_goto (tgt := 183) C dX10_readStatement_179 (by decide) ?_
                exact zz_zret C hr (by decide +kernel) dX10_readStatement_183 ⟨_, gA_149, gV_149, gW_149, (zup (zup kR 0 gV_138) 1 gV_149), (zup kD (7 + ((zup (zup kR 0 gV_138) 1 gV_149) 0)) ((zup (zup kR 0 gV_138) 1 gV_149) 1)), gA_1, by first | (exfalso; omega) | exact Or.inr ⟨rfl, hbad⟩ | exact Or.inl ⟨rfl, pre_of hk9 (by omega) (by omega) (nok2 hr138.1 hr149.1), by unfold sC; rw [hk9]; exact hr149.2.2.1, by rw [hr149.2.2.2.1]; exact hr138.2.2.2.1, fun i i0 i1 => by rw [opM_at hk9, hx0, hx1, hr138.2.1, hr149.2.1]; rfl⟩, rfl, rfl⟩
      · skip
        have hk9 : sK kP m_tp a9 = 1 := hwk.2.1 c62
        refine zz_aload_n C 1 dX10_readStatement_66 rfl rfl ?_
        refine zz_iconst C dX10_readStatement_67 ?_
        refine zz_iconst C dX10_readStatement_68 ?_
        refine zz_aload_n C 1 dX10_readStatement_69 rfl rfl ?_
        refine zz_get C 0 (ci := 10) (k := 2) rfl rfl in_X10 (by decide) qw_928 rfl rfl dX10_readStatement_70 ?_
        refine zz_iconst C dX10_readStatement_73 ?_
        refine zz_iald C 2 rfl (by omega) (by omega) (by decide) dX10_readStatement_74 ?_
        refine zz_callV (wr := ([] : va_W)) (st := []) C (cc_X10_reads l z mh xT xD xP xR xC xW xA xH xU xB xI xN xM xY xK xL xE xS m_ra m_ca m_tp m_fa gA_25 m_wr m_va gA_1 m_st m_lo m_bl m_bc m_fo m_yl m_yw m_nu m_nl m_lu m_ll m_ln kT kD kP kR kC kW kA kH kU kB kI kN kM kY kK kL kE kS 0 1 (kD 0) (by omega) (by omega) (by omega) (by omega) (by omega) (by omega)) yk_X10_reads qw_1157 ⟨by decide, by decide⟩ [0, 1, 2, 3, 4, 5, 6, 7, 8, 9, 10, 11, 12, 13, 14, 15, 16, 17, 18] [] rfl rfl rfl rfl (by decide) 0 10 rfl rfl rfl rfl (Nat.le_of_ble_eq_true rfl) dX10_readStatement_75 ⟨by decide, by decide⟩ ?_
        rintro _ _ ⟨q_75, gA_75, gV_75, gW_75, hq_75, hgA_75, rfl, rfl⟩
        refine zz_st (st' := [.int (iI q_75)]) rfl (zz_ws (ws' := wMod z mh xT xD xP xR xC xW xA xH xU xB xI xN xM xY xK xL xE xS m_ra m_ca m_tp m_fa gA_75 gW_75 gV_75 gA_1 m_st m_lo m_bl m_bc m_fo m_yl m_yw m_nu m_nl m_lu m_ll m_ln kT kD kP (zup kR 0 gV_75) kC kW kA kH kU kB kI kN kM kY kK kL kE kS) rfl ?_)
        have hrd75 := hq_75
        rw [hp0] at hrd75
        refine zz_if_eq (tgt := 119) C dX10_readStatement_78 (by decide) (by rcases hq_75 with h9 | h9 <;> (unfold rI; omega)) (fun c78 => ?_) (fun c78 => ?_)
        · skip
          have hr75 := rd_no (T := kD 0) (B := kD 1) (k := 1) (i := 0) (by omega) hrd75 c78 (fun v => plFits_1 (kD 0) (kD 1) v)
          have hbad := bad_of (f := kP) (n := m_tp) (T := kD 0) (B := kD 1) (a := a9) (i := 0) hk9 (by omega) (by omega) (by decide) nok0 hr75
          refine zz_iconst C dX10_readStatement_119 ?_
          exact zz_zret C hr (by decide +kernel) dX10_readStatement_120 ⟨_, gA_75, gV_75, gW_75, (zup kR 0 gV_75), kD, gA_1, by first | (exfalso; omega) | exact Or.inr ⟨rfl, hbad⟩ | exact Or.inl ⟨rfl, pre_of hk9 (by omega) (by omega) (nok2 hr75.1 hr87.1), by unfold sC; rw [hk9]; exact hr87.2.2.1, by rw [hr87.2.2.2.1]; exact hr75.2.2.2.1, fun i i0 i1 => by rw [opM_at hk9, hx0, hx1, hr75.2.1, hr87.2.1]; rfl⟩, rfl, rfl⟩
        · skip
          have hr75 := rd_ok (T := kD 0) (B := kD 1) (k := 1) (i := 0) (by omega) hrd75 c78 (fun v => plFits_1 (kD 0) (kD 1) v)
          refine zz_aload_n C 1 dX10_readStatement_81 rfl rfl ?_
          refine zz_iconst C dX10_readStatement_82 ?_
          refine zz_iconst C dX10_readStatement_83 ?_
          refine zz_sipush C dX10_readStatement_84 (by decide +kernel) ?_
          refine zz_callV (wr := ([] : va_W)) (st := []) C (cc_X10_reads l z mh xT xD xP xR xC xW xA xH xU xB xI xN xM xY xK xL xE xS m_ra m_ca m_tp m_fa gA_75 gW_75 gV_75 gA_1 m_st m_lo m_bl m_bc m_fo m_yl m_yw m_nu m_nl m_lu m_ll m_ln kT kD kP (zup kR 0 gV_75) kC kW kA kH kU kB kI kN kM kY kK kL kE kS 1 0 200 (by omega) (by omega) (by omega) (by omega) (by omega) (by omega)) yk_X10_reads qw_1157 ⟨by decide, by decide⟩ [0, 1, 2, 3, 4, 5, 6, 7, 8, 9, 10, 11, 12, 13, 14, 15, 16, 17, 18] [] rfl rfl rfl rfl (by decide) 0 10 rfl rfl rfl rfl (Nat.le_of_ble_eq_true rfl) dX10_readStatement_87 ⟨by decide, by decide⟩ ?_
          rintro _ _ ⟨q_87, gA_87, gV_87, gW_87, hq_87, hgA_87, rfl, rfl⟩
          refine zz_st (st' := [.int (iI q_87)]) rfl (zz_ws (ws' := wMod z mh xT xD xP xR xC xW xA xH xU xB xI xN xM xY xK xL xE xS m_ra m_ca m_tp m_fa gA_87 gW_87 gV_87 gA_1 m_st m_lo m_bl m_bc m_fo m_yl m_yw m_nu m_nl m_lu m_ll m_ln kT kD kP (zup (zup kR 0 gV_75) 1 gV_87) kC kW kA kH kU kB kI kN kM kY kK kL kE kS) rfl ?_)
          have hrd87 := hq_87
          rw [hr75.2.2.1] at hrd87
          refine zz_if_eq (tgt := 119) C dX10_readStatement_90 (by decide) (by rcases hq_87 with h9 | h9 <;> (unfold rI; omega)) (fun c90 => ?_) (fun c90 => ?_)
          · skip
            have hr87 := rd_no (T := kD 0) (B := kD 1) (k := 1) (i := 1) (by omega) hrd87 c90 (fun v => plFits_2 (kD 0) (kD 1) v)
            have hbad := bad_of (f := kP) (n := m_tp) (T := kD 0) (B := kD 1) (a := a9) (i := 1) hk9 (by omega) (by omega) (by decide) (nok1 hr75.1) hr87
            refine zz_iconst C dX10_readStatement_119 ?_
            exact zz_zret C hr (by decide +kernel) dX10_readStatement_120 ⟨_, gA_87, gV_87, gW_87, (zup (zup kR 0 gV_75) 1 gV_87), kD, gA_1, by first | (exfalso; omega) | exact Or.inr ⟨rfl, hbad⟩ | exact Or.inl ⟨rfl, pre_of hk9 (by omega) (by omega) (nok2 hr75.1 hr87.1), by unfold sC; rw [hk9]; exact hr87.2.2.1, by rw [hr87.2.2.2.1]; exact hr75.2.2.2.1, fun i i0 i1 => by rw [opM_at hk9, hx0, hx1, hr75.2.1, hr87.2.1]; rfl⟩, rfl, rfl⟩
          · skip
            have hr87 := rd_ok (T := kD 0) (B := kD 1) (k := 1) (i := 1) (by omega) hrd87 c90 (fun v => plFits_2 (kD 0) (kD 1) v)
            refine zz_aload_n C 1 dX10_readStatement_93 rfl rfl ?_
            refine zz_iconst C dX10_readStatement_94 ?_
            refine zz_aload_n C 1 dX10_readStatement_95 rfl rfl ?_
            refine zz_get C 0 (ci := 10) (k := 12) rfl rfl in_X10 (by decide) qw_938 rfl rfl dX10_readStatement_96 ?_
            refine zz_iconst C dX10_readStatement_99 ?_
            refine zz_iald C 4 rfl (by omega) (by omega) (by decide) dX10_readStatement_100 ?_
            refine zz_iadd C dX10_readStatement_101 ?_
            refine zz_aload_n C 1 dX10_readStatement_102 rfl rfl ?_
            refine zz_get C 0 (ci := 10) (k := 12) rfl rfl in_X10 (by decide) qw_938 rfl rfl dX10_readStatement_103 ?_
            refine zz_iconst C dX10_readStatement_106 ?_
            refine zz_iald C 4 rfl (by omega) (by omega) (by decide) dX10_readStatement_107 ?_
            refine zz_iconst C dX10_readStatement_108 ?_
            have hx0 : (zup (zup kR 0 gV_75) 1 gV_87) 0 = gV_75 := by rw [zup_ne (by omega), zup_eq]
            have hx1 : (zup (zup kR 0 gV_75) 1 gV_87) 1 = gV_87 := zup_eq _ _ _
            refine zz_callV (wr := ([] : va_W)) (st := []) C (cc_X10_lays_1 l z mh xT xD xP xR xC xW xA xH xU xB xI xN xM xY xK xL xE xS m_ra m_ca m_tp m_fa gA_87 gW_87 gV_87 gA_1 m_st m_lo m_bl m_bc m_fo m_yl m_yw m_nu m_nl m_lu m_ll m_ln kT kD kP (zup (zup kR 0 gV_75) 1 gV_87) kC kW kA kH kU kB kI kN kM kY kK kL kE kS (2 + ((zup (zup kR 0 gV_75) 1 gV_87) 0)) ((zup (zup kR 0 gV_75) 1 gV_87) 1) (by omega)) yk_X10_lays qw_1072 ⟨by decide, by decide⟩ [0, 1, 2, 3, 4, 5, 6, 7, 8, 9, 10, 11, 12, 13, 14, 15, 16, 17, 18] [] rfl rfl rfl rfl (by decide) 0 10 rfl rfl rfl rfl (Nat.le_of_ble_eq_true rfl) dX10_readStatement_109 ⟨by decide, by decide⟩ ?_
            rintro _ _ ⟨rfl, rfl⟩
            refine zz_st (st' := [.int (iI 1)]) rfl (zz_ws (ws' := wMod z mh xT xD xP xR xC xW xA xH xU xB xI xN xM xY xK xL xE xS m_ra m_ca m_tp m_fa gA_87 gW_87 gV_87 gA_1 m_st m_lo m_bl m_bc m_fo m_yl m_yw m_nu m_nl m_lu m_ll m_ln kT (zup kD (2 + ((zup (zup kR 0 gV_75) 1 gV_87) 0)) ((zup (zup kR 0 gV_75) 1 gV_87) 1)) kP (zup (zup kR 0 gV_75) 1 gV_87) kC kW kA kH kU kB kI kN kM kY kK kL kE kS) rfl ?_)
            refine zz_if_eq (tgt := 119) C dX10_readStatement_112 (by decide) (by unfold rI; omega) (fun c112 => ?_) (fun c112 => ?_)
            · skip
              refine zz_iconst C dX10_readStatement_119 ?_
              exact zz_zret C hr (by decide +kernel) dX10_readStatement_120 ⟨_, gA_87, gV_87, gW_87, (zup (zup kR 0 gV_75) 1 gV_87), (zup kD (2 + ((zup (zup kR 0 gV_75) 1 gV_87) 0)) ((zup (zup kR 0 gV_75) 1 gV_87) 1)), gA_1, by first | (exfalso; omega) | exact Or.inr ⟨rfl, hbad⟩ | exact Or.inl ⟨rfl, pre_of hk9 (by omega) (by omega) (nok2 hr75.1 hr87.1), by unfold sC; rw [hk9]; exact hr87.2.2.1, by rw [hr87.2.2.2.1]; exact hr75.2.2.2.1, fun i i0 i1 => by rw [opM_at hk9, hx0, hx1, hr75.2.1, hr87.2.1]; rfl⟩, rfl, rfl⟩
            · skip
              refine zz_iconst C dX10_readStatement_115 ?_
              refine zz_goto (tgt := 120) C dX10_readStatement_116 (by decide) ?_
              exact zz_zret C hr (by decide +kernel) dX10_readStatement_120 ⟨_, gA_87, gV_87, gW_87, (zup (zup kR 0 gV_75) 1 gV_87), (zup kD (2 + ((zup (zup kR 0 gV_75) 1 gV_87) 0)) ((zup (zup kR 0 gV_75) 1 gV_87) 1)), gA_1, by first | (exfalso; omega) | exact Or.inr ⟨rfl, hbad⟩ | exact Or.inl ⟨rfl, pre_of hk9 (by omega) (by omega) (nok2 hr75.1 hr87.1), by unfold sC; rw [hk9]; exact hr87.2.2.1, by rw [hr87.2.2.2.1]; exact hr75.2.2.2.1, fun i i0 i1 => by rw [opM_at hk9, hx0, hx1, hr75.2.1, hr87.2.1]; rfl⟩, rfl, rfl⟩
    · skip
      have hk9 : sK kP m_tp a9 = 0 := hwk.1 c33
      refine zz_aload_n C 1 dX10_readStatement_37 rfl rfl ?_
      refine zz_iconst C dX10_readStatement_38 ?_
      refine zz_iconst C dX10_readStatement_39 ?_
      refine zz_callV (wr := ([] : va_W)) (st := []) C (cc_X10_readNumber l z mh xT xD xP xR xC xW xA xH xU xB xI xN xM xY xK xL xE xS m_ra m_ca m_tp m_fa gA_25 m_wr m_va gA_1 m_st m_lo m_bl m_bc m_fo m_yl m_yw m_nu m_nl m_lu m_ll m_ln kT kD kP kR kC kW kA kH kU kB kI kN kM kY kK kL kE kS 1 4 (by omega) (by omega) (by omega) (by omega) (by omega)) yk_X10_readNumber qw_1152 ⟨by decide, by decide⟩ [0, 1, 2, 3, 4, 5, 6, 7, 8, 9, 10, 11, 12, 13, 14, 15, 16, 17, 18] [] rfl rfl rfl rfl (by decide) 0 10 rfl rfl rfl rfl (Nat.le_of_ble_eq_true rfl) dX10_readStatement_40 ⟨by decide, by decide⟩ ?_
      rintro _ _ ⟨q_40, gA_40, gV_40, gW_40, hq_40, hgA_40, rfl, rfl⟩
      refine zz_st (st' := [.int (iI q_40)]) rfl (zz_ws (ws' := wMod z mh xT xD xP xR xC xW xA xH xU xB xI xN xM xY xK xL xE xS m_ra m_ca m_tp m_fa gA_40 gW_40 gV_40 gA_1 m_st m_lo m_bl m_bc m_fo m_yl m_yw m_nu m_nl m_lu m_ll m_ln kT kD kP kR kC kW kA kH kU kB kI kN kM kY kK kL kE kS) rfl ?_)
      have hrd40 := hq_40
      rw [hp0] at hrd40
      refine zz_if_ne (tgt := 48) C dX10_readStatement_43 (by decide) (by rcases hq_40 with h9 | h9 <;> (unfold rI; omega)) (fun c43 => ?_) (fun c43 => ?_)
      · skip
        have hr40 := rd_ok (T := kD 0) (B := kD 1) (k := 0) (i := 0) (by omega) hrd40 c43 (fun v => plFits_0 (kD 0) (kD 1) v)
        refine zz_aload_n C 1 dX10_readStatement_48 rfl rfl ?_
        refine zz_aload_n C 1 dX10_readStatement_49 rfl rfl ?_
        refine zz_get C 0 (ci := 10) (k := 9) rfl rfl in_X10 (by decide) qw_935 rfl rfl dX10_readStatement_50 ?_
        refine zz_callV (wr := ([] : va_W)) (st := []) C (cc_X10_laysDates l z mh xT xD xP xR xC xW xA xH xU xB xI xN xM xY xK xL xE xS m_ra m_ca m_tp m_fa gA_40 gW_40 gV_40 gA_1 m_st m_lo m_bl m_bc m_fo m_yl m_yw m_nu m_nl m_lu m_ll m_ln kT kD kP kR kC kW kA kH kU kB kI kN kM kY kK kL kE kS gV_40 ) yk_X10_laysDates qw_1052 ⟨by decide, by decide⟩ [0, 1, 2, 3, 4, 5, 6, 7, 8, 9, 10, 11, 12, 13, 14, 15, 16, 17, 18] [] rfl rfl rfl rfl (by decide) 0 10 rfl rfl rfl rfl (Nat.le_of_ble_eq_true rfl) dX10_readStatement_53 ⟨by decide, by decide⟩ ?_
        rintro _ _ ⟨gD_53, hgD_53, rfl, rfl⟩
        refine zz_st (st' := []) rfl (zz_ws (ws' := wMod z mh xT xD xP xR xC xW xA xH xU xB xI xN xM xY xK xL xE xS m_ra m_ca m_tp m_fa gA_40 gW_40 gV_40 gA_1 m_st m_lo m_bl m_bc m_fo m_yl m_yw m_nu m_nl m_lu m_ll m_ln kT gD_53 kP kR kC kW kA kH kU kB kI kN kM kY kK kL kE kS) rfl ?_)
        refine zz_iconst C dX10_readStatement_56 ?_
        exact zz_zret C hr (by decide +kernel) dX10_readStatement_57 ⟨1, gA_40, gV_40, gW_40, kR, gD_53, gA_1, Or.inl ⟨rfl, pre_of hk9 (by omega) (by omega) (nok1 hr40.1), by unfold sC; rw [hk9]; exact hr40.2.2.1, hr40.2.2.2.1, fun i i0 i1 => by rw [hgD_53 i i0 i1, opM_at hk9, hr40.2.1]; rfl⟩, rfl, rfl⟩
      · skip
        have hr40 := rd_no (T := kD 0) (B := kD 1) (k := 0) (i := 0) (by omega) hrd40 c43 (fun v => plFits_0 (kD 0) (kD 1) v)
        refine zz_iconst C dX10_readStatement_46 ?_
        exact zz_zret C hr (by decide +kernel) dX10_readStatement_47 ⟨0, gA_40, gV_40, gW_40, kR, kD, gA_1, Or.inr ⟨rfl, bad_of (i := 0) hk9 (by omega) (by omega) (by decide) nok0 hr40⟩, rfl, rfl⟩
  · skip
    have hnl : ¬ ltr (kP (sk kP m_tp a9)) = true := fun h => by have h2 := ltr_iff.mp h; rw [← hma, ← hg1] at h2; rw [bAt_in (by omega)] at hq_8; omega
    have hk9 : sK kP m_tp a9 = -1 := by show wkd kP (sk kP m_tp a9) (rn ltr kP m_tp (sk kP m_tp a9)) = -1; rw [rn_eq (Int.le_refl _) (Int.le_of_lt hlt) (fun i i0 i1 => by omega) (Or.inr hnl)]; exact wkd_same _ _
    refine zz_aload_n C 0 dX10_readStatement_14 rfl rfl ?_
    refine zz_iconst C dX10_readStatement_15 ?_
    refine zz_aload_n C 0 dX10_readStatement_16 rfl rfl ?_
    refine zz_get C 0 (ci := 10) (k := 7) rfl rfl in_X10 (by decide) qw_933 rfl rfl dX10_readStatement_17 ?_
    refine zz_callV (wr := ([] : va_W)) (st := []) C (cc_X10_fails l z mh xT xD xP xR xC xW xA xH xU xB xI xN xM xY xK xL xE xS m_ra m_ca m_tp m_fa gA_1 m_wr m_va m_pl m_st m_lo m_bl m_bc m_fo m_yl m_yw m_nu m_nl m_lu m_ll m_ln kT kD kP kR kC kW kA kH kU kB kI kN kM kY kK kL kE kS 1 gA_1 ) yk_X10_fails qw_1140 ⟨by decide, by decide⟩ [0, 1, 2, 3, 4, 5, 6, 7, 8, 9, 10, 11, 12, 13, 14, 15, 16, 17, 18] [] rfl rfl rfl rfl (by decide) 0 10 rfl rfl rfl rfl (Nat.le_of_ble_eq_true rfl) dX10_readStatement_20 ⟨by decide, by decide⟩ ?_
    rintro _ _ ⟨rfl, rfl⟩
    refine zz_st (st' := [.int (iI 0)]) rfl (zz_ws (ws' := wMod z mh xT xD xP xR xC xW xA xH xU xB xI xN xM xY xK xL xE xS m_ra m_ca m_tp m_fa gA_1 (1 + 8 * gA_1) m_va m_pl m_st m_lo m_bl m_bc m_fo m_yl m_yw m_nu m_nl m_lu m_ll m_ln kT kD kP kR kC kW kA kH kU kB kI kN kM kY kK kL kE kS) rfl ?_)
    exact zz_zret C hr (by decide +kernel) dX10_readStatement_23 ⟨0, gA_1, m_va, (1 + 8 * gA_1), kR, kD, m_pl, Or.inr ⟨rfl, Or.inl ⟨hk9, by rw [hpl0]⟩⟩, rfl, rfl⟩
abbrev po_X10_readText (z : zC) (mh : Nat) (xT : Nat) (xD : Nat) (xP : Nat) (xR : Nat) (xC : Nat) (xW : Nat) (xA : Nat) (xH : Nat) (xU : Nat) (xB : Nat) (xI : Nat) (xN : Nat) (xM : Nat) (xY : Nat) (xK : Nat) (xL : Nat) (xE : Nat) (xS : Nat) (m_ra : Int) (m_ca : Int) (m_tp : Int) (m_fa : Int) (m_at : Int) (m_wr : Int) (m_va : Int) (m_pl : Int) (m_st : Int) (m_lo : Int) (m_bl : Int) (m_bc : Int) (m_fo : Int) (m_yl : Int) (m_yw : Int) (m_nu : Int) (m_nl : Int) (m_lu : Int) (m_ll : Int) (m_ln : Int) (kT : Int → Int) (kD : Int → Int) (kP : Int → Int) (kR : Int → Int) (kC : Int → Int) (kW : Int → Int) (kA : Int → Int) (kH : Int → Int) (kU : Int → Int) (kB : Int → Int) (kI : Int → Int) (kN : Int → Int) (kM : Int → Int) (kY : Int → Int) (kK : Int → Int) (kL : Int → Int) (kE : Int → Int) (kS : Int → Int) : Option Value → va_W → Prop := fun v w => ∃ (q : Int), ∃ (gs : Int), ∃ (gA : Int), ∃ (gV : Int), ∃ (gW : Int), ∃ (gR : Int → Int), ∃ (gD : Int → Int), ∃ (gp : Int), (tellM kP m_tp kD q gW gs gD) ∧ (0 ≤ gs ∧ gs ≤ 300) ∧ v = some (Value.int (iI q)) ∧ w = wMod z mh xT xD xP xR xC xW xA xH xU xB xI xN xM xY xK xL xE xS m_ra m_ca m_tp m_fa gA gW gV gp gs m_lo m_bl m_bc m_fo m_yl m_yw m_nu m_nl m_lu m_ll m_ln kT gD kP gR kC kW kA kH kU kB kI kN kM kY kK kL kE kS
abbrev rm_X10_readText : Room := { frames := 5, cells := 0, slots := 0, locals := 131 }
set_option maxHeartbeats 4000000 in
set_option maxRecDepth 100000 in
theorem cc_X10_readText (l : Launch) (z : zC) (mh : Nat) (xT : Nat) (xD : Nat) (xP : Nat) (xR : Nat) (xC : Nat) (xW : Nat) (xA : Nat) (xH : Nat) (xU : Nat) (xB : Nat) (xI : Nat) (xN : Nat) (xM : Nat) (xY : Nat) (xK : Nat) (xL : Nat) (xE : Nat) (xS : Nat) (m_ra : Int) (m_ca : Int) (m_tp : Int) (m_fa : Int) (m_at : Int) (m_wr : Int) (m_va : Int) (m_pl : Int) (m_st : Int) (m_lo : Int) (m_bl : Int) (m_bc : Int) (m_fo : Int) (m_yl : Int) (m_yw : Int) (m_nu : Int) (m_nl : Int) (m_lu : Int) (m_ll : Int) (m_ln : Int) (kT : Int → Int) (kD : Int → Int) (kP : Int → Int) (kR : Int → Int) (kC : Int → Int) (kW : Int → Int) (kA : Int → Int) (kH : Int → Int) (kU : Int → Int) (kB : Int → Int) (kI : Int → Int) (kN : Int → Int) (kM : Int → Int) (kY : Int → Int) (kK : Int → Int) (kL : Int → Int) (kE : Int → Int) (kS : Int → Int) (htp : 0 ≤ m_tp ∧ m_tp ≤ 300) (hbm : ∀ i : Int, 0 ≤ kP i ∧ kP i < 256) (hkd : 1 ≤ kD 0 ∧ kD 0 ≤ 4) (hkb : 0 ≤ kD 1 ∧ kD 1 ≤ 5) (hat0 : m_at = 0) (hwr0 : m_wr = 0) : zzMet l yX10_readText cX10_readText 1 (Option.some .boolean) rm_X10_readText z [.ref mh] (wMod z mh xT xD xP xR xC xW xA xH xU xB xI xN xM xY xK xL xE xS m_ra m_ca m_tp m_fa m_at m_wr m_va m_pl m_st m_lo m_bl m_bc m_fo m_yl m_yw m_nu m_nl m_lu m_ll m_ln kT kD kP kR kC kW kA kH kU kB kI kN kM kY kK kL kE kS) (po_X10_readText z mh xT xD xP xR xC xW xA xH xU xB xI xN xM xY xK xL xE xS m_ra m_ca m_tp m_fa m_at m_wr m_va m_pl m_st m_lo m_bl m_bc m_fo m_yl m_yw m_nu m_nl m_lu m_ll m_ln kT kD kP kR kC kW kA kH kU kB kI kN kM kY kK kL kE kS) := by
  refine zzMet.of (own := RX10) (ls0 := [(0, .ref mh)]) (by decide) rfl (Nat.le_of_ble_eq_true rfl) rfl ?_
  intro p e s m below meth c A C hr hnm
  refine zz_aload_n C 0 dX10_readText_0 rfl rfl ?_
  refine zz_iconst C dX10_readText_1 ?_
  refine zz_put (ty := .int) (ws' := wMod z mh xT xD xP xR xC xW xA xH xU xB xI xN xM xY xK xL xE xS m_ra m_ca m_tp m_fa m_at m_wr m_va m_pl 0 m_lo m_bl m_bc m_fo m_yl m_yw m_nu m_nl m_lu m_ll m_ln kT kD kP kR kC kW kA kH kU kB kI kN kM kY kK kL kE kS) C 0 (ci := 10) (k := 11) rfl rfl in_X10 tyX10 tyX10_ok nmX10 (by decide) qw_937 rfl rfl (by decide +kernel) rfl rfl (Nat.le_of_ble_eq_true rfl) rfl dX10_readText_2 ?_
  have Lp5 : ∀ (fu9 : Nat) (sc : Int) (ga : Int) (gv : Int) (gw : Int) (gR : Int → Int) (gX : Int → Int) (gp : Int), (0 ≤ sc) → (ga = (moN kP m_tp kD sc.toNat).1) → (0 ≤ ga ∧ ga ≤ m_tp ∧ sc ≤ ga) → (eqR gX (moN kP m_tp kD sc.toNat).2 47) → (gw = 0) → (∀ i : Nat, i < sc.toNat → okM kP m_tp kD i) → (1 ≤ gX 0 ∧ gX 0 ≤ 4) → (0 ≤ gX 1 ∧ gX 1 ≤ 5) → (301 - sc).toNat < fu9 → zzW p l e rm_X10_readText s m ([.ref mh] : List Value).toArray below meth c z A 1 (MQ below (zQ z A (po_X10_readText z mh xT xD xP xR xC xW xA xH xU xB xI xN xM xY xK xL xE xS m_ra m_ca m_tp m_fa m_at m_wr m_va m_pl m_st m_lo m_bl m_bc m_fo m_yl m_yw m_nu m_nl m_lu m_ll m_ln kT kD kP kR kC kW kA kH kU kB kI kN kM kY kK kL kE kS)) ([.ref mh] : List Value).toArray s 0 0 A) 0 0 (wMod z mh xT xD xP xR xC xW xA xH xU xB xI xN xM xY xK xL xE xS m_ra m_ca m_tp m_fa ga gw gv gp sc m_lo m_bl m_bc m_fo m_yl m_yw m_nu m_nl m_lu m_ll m_ln kT gX kP gR kC kW kA kH kU kB kI kN kM kY kK kL kE kS) [(0, .ref mh)] [] 5 := by
    intro fu9
    induction fu9 with
    | zero => intro sc ga gv gw gR gX gp hsc hga hpo hD hw hok hd hb h9; exact absurd h9 (Nat.not_lt_zero _)
    | succ fu9 ih5 =>
      intro sc ga gv gw gR gX gp hsc hga hpo hD hw hok hd hb hm5
      have hd0 := hD 0 (by omega) (by omega)
      have hd1 := hD 1 (by omega) (by omega)
      refine zz_aload_n C 0 dX10_readText_5 rfl rfl ?_
      refine zz_callV (wr := ([] : va_W)) (st := []) C (cc_X10_here l z mh xT xD xP xR xC xW xA xH xU xB xI xN xM xY xK xL xE xS m_ra m_ca m_tp m_fa ga gw gv gp sc m_lo m_bl m_bc m_fo m_yl m_yw m_nu m_nl m_lu m_ll m_ln kT gX kP gR kC kW kA kH kU kB kI kN kM kY kK kL kE kS (by omega) (by omega) (by omega)) yk_X10_here qw_1132 ⟨by decide, by decide⟩ [0, 1, 2, 3, 4, 5, 6, 7, 8, 9, 10, 11, 12, 13, 14, 15, 16, 17, 18] [] rfl rfl rfl rfl (by decide) 0 10 rfl rfl rfl rfl (Nat.le_of_ble_eq_true rfl) dX10_readText_6 ⟨by decide, by decide⟩ ?_
      rintro _ _ ⟨gA_6, hA_6, hgA_6, rfl, rfl⟩
      refine zz_st (st' := [.int (iI (bAt kP m_tp gA_6))]) rfl (zz_ws (ws' := wMod z mh xT xD xP xR xC xW xA xH xU xB xI xN xM xY xK xL xE xS m_ra m_ca m_tp m_fa gA_6 gw gv gp sc m_lo m_bl m_bc m_fo m_yl m_yw m_nu m_nl m_lu m_ll m_ln kT gX kP gR kC kW kA kH kU kB kI kN kM kY kK kL kE kS) rfl ?_)
      have hbr := bAt_rng hbm m_tp gA_6
      have hyr := hbm gA_6
      refine zz_iconst C dX10_readText_9 ?_
      refine zz_icmp_eq (tgt := 64) C dX10_readText_10 (by decide) (by unfold rI; omega) (by unfold rI; omega) (fun c10 => ?_) (fun c10 => ?_)
      · skip
        have hnl : ¬ gA_6 < m_tp := fun h => by rw [bAt_in ⟨by omega, h⟩] at c10; omega
        refine zz_iconst C dX10_readText_64 ?_
        exact zz_zret C hr (by decide +kernel) dX10_readText_65 ⟨1, sc, gA_6, gv, gw, gR, gX, gp, ⟨sc.toNat, hok, Or.inl ⟨by rw [← hga, ← hA_6]; exact hnl, rfl, by omega, hw, hD⟩⟩, by omega, rfl, rfl⟩
      · skip
        have hlt : gA_6 < m_tp := by rcases (show gA_6 < m_tp ∨ ¬ gA_6 < m_tp by omega) with h | h; exact h; exact absurd (bAt_out (f := kP) (n := m_tp) (p := gA_6) (by omega)) c10
        refine zz_aload_n C 0 dX10_readText_13 rfl rfl ?_
        refine zz_callV (wr := ([] : va_W)) (st := []) C (cc_X10_readStatement l z mh xT xD xP xR xC xW xA xH xU xB xI xN xM xY xK xL xE xS m_ra m_ca m_tp m_fa gA_6 gw gv gp sc m_lo m_bl m_bc m_fo m_yl m_yw m_nu m_nl m_lu m_ll m_ln kT gX kP gR kC kW kA kH kU kB kI kN kM kY kK kL kE kS ga (by omega) (by omega) hd hb (by omega) hA_6 (by rw [← hA_6]; omega)) yk_X10_readStatement qw_1136 ⟨by decide, by decide⟩ [0, 1, 2, 3, 4, 5, 6, 7, 8, 9, 10, 11, 12, 13, 14, 15, 16, 17, 18] [] rfl rfl rfl rfl (by decide) 0 10 rfl rfl rfl rfl (Nat.le_of_ble_eq_true rfl) dX10_readText_14 ⟨by decide, by decide⟩ ?_
        rintro _ _ ⟨q_14, gA_14, gV_14, gW_14, gR_14, gD_14, gp_14, hq_14, rfl, rfl⟩
        refine zz_st (st' := [.int (iI q_14)]) rfl (zz_ws (ws' := wMod z mh xT xD xP xR xC xW xA xH xU xB xI xN xM xY xK xL xE xS m_ra m_ca m_tp m_fa gA_14 gW_14 gV_14 gp_14 sc m_lo m_bl m_bc m_fo m_yl m_yw m_nu m_nl m_lu m_ll m_ln kT gD_14 kP gR_14 kC kW kA kH kU kB kI kN kM kY kK kL kE kS) rfl ?_)
        refine zz_if_ne (tgt := 22) C dX10_readText_17 (by decide) (by rcases hq_14 with h9 | h9 <;> (unfold rI; omega)) (fun c17 => ?_) (fun c17 => ?_)
        · skip
          have hs9 := hq_14.resolve_right (fun h => by omega)
          refine zz_aload_n C 0 dX10_readText_22 rfl rfl ?_
          refine zz_callV (wr := ([] : va_W)) (st := []) C (cc_X10_here l z mh xT xD xP xR xC xW xA xH xU xB xI xN xM xY xK xL xE xS m_ra m_ca m_tp m_fa gA_14 gW_14 gV_14 gp_14 sc m_lo m_bl m_bc m_fo m_yl m_yw m_nu m_nl m_lu m_ll m_ln kT gD_14 kP gR_14 kC kW kA kH kU kB kI kN kM kY kK kL kE kS (by omega) (by omega) (by rw [hs9.2.2.1]; exact sR_pos hpo.1 hpo.2.1 hs9.2.1)) yk_X10_here qw_1132 ⟨by decide, by decide⟩ [0, 1, 2, 3, 4, 5, 6, 7, 8, 9, 10, 11, 12, 13, 14, 15, 16, 17, 18] [] rfl rfl rfl rfl (by decide) 0 10 rfl rfl rfl rfl (Nat.le_of_ble_eq_true rfl) dX10_readText_23 ⟨by decide, by decide⟩ ?_
          rintro _ _ ⟨gA_23, hA_23, hgA_23, rfl, rfl⟩
          refine zz_st (st' := [.int (iI (bAt kP m_tp gA_23))]) rfl (zz_ws (ws' := wMod z mh xT xD xP xR xC xW xA xH xU xB xI xN xM xY xK xL xE xS m_ra m_ca m_tp m_fa gA_23 gW_14 gV_14 gp_14 sc m_lo m_bl m_bc m_fo m_yl m_yw m_nu m_nl m_lu m_ll m_ln kT gD_14 kP gR_14 kC kW kA kH kU kB kI kN kM kY kK kL kE kS) rfl ?_)
          have hsr : gA_23 = sR kP m_tp ga := by rw [hA_23, hs9.2.2.1]; rfl
          have hb23 := bAt_rng hbm m_tp gA_23
          have hsr2 := sR_rng hpo.1 hpo.2.1 (wkd_rng _ _ _).1 hs9.2.1.1
          refine zz_bipush C dX10_readText_26 (by decide +kernel) ?_
          refine zz_icmp_eq (tgt := 41) C dX10_readText_28 (by decide) (by unfold rI; omega) (by unfold rI; omega) (fun c28 => ?_) (fun c28 => ?_)
          · skip
            have hin : sR kP m_tp ga < m_tp ∧ kP (sR kP m_tp ga) = 59 := by by_cases q9 : 0 ≤ gA_23 ∧ gA_23 < m_tp; rw [bAt_in q9] at c28; rw [← hsr]; exact ⟨q9.2, c28⟩; rw [bAt_out q9] at c28; omega
            have hso : stOk kP m_tp (gX 0) (gX 1) ga := ⟨hs9.2.1.1, hs9.2.1.2.1, hs9.2.1.2.2, hin⟩
            have hsa := st_args hso
            have he9 := moN_suc kP m_tp kD hsc
            have hok9 : ∀ i : Nat, i < (sc + 1).toNat → okM kP m_tp kD i := fun i hi => by by_cases e9 : i = sc.toNat; rw [e9]; exact ⟨by rw [← hga, ← hA_6]; exact hlt, by rw [← hga, ← hd0, ← hd1]; exact hso⟩; exact hok i (by omega)
            have hop9 : (1 ≤ gD_14 0 ∧ gD_14 0 ≤ 4) ∧ (0 ≤ gD_14 1 ∧ gD_14 1 ≤ 5) := by rw [hs9.2.2.2.2 0 (by omega) (by omega), hs9.2.2.2.2 1 (by omega) (by omega)]; exact opM_rng hd hb hsa.2.1 (fun h => by rcases h with h | h; exact (hsa.2.2.1 h).1.1; exact (hsa.2.2.2.1 h).1.1) (fun h => (hsa.2.2.2.2.1 h).1) (fun h => (hsa.2.2.2.2.2 h).1.1) hsa.1
            refine zz_aload_n C 0 dX10_readText_41 rfl rfl ?_
            refine zz_dup C dX10_readText_42 rfl ?_
            refine zz_get C 0 (ci := 10) (k := 7) rfl rfl in_X10 (by decide) qw_933 rfl rfl dX10_readText_43 ?_
            refine zz_iconst C dX10_readText_46 ?_
            refine zz_iadd C dX10_readText_47 ?_
            refine zz_put (ty := .int) (ws' := wMod z mh xT xD xP xR xC xW xA xH xU xB xI xN xM xY xK xL xE xS m_ra m_ca m_tp m_fa (gA_23 + 1) gW_14 gV_14 gp_14 sc m_lo m_bl m_bc m_fo m_yl m_yw m_nu m_nl m_lu m_ll m_ln kT gD_14 kP gR_14 kC kW kA kH kU kB kI kN kM kY kK kL kE kS) C 0 (ci := 10) (k := 7) rfl rfl in_X10 tyX10 tyX10_ok nmX10 (by decide) qw_933 rfl rfl (by decide +kernel) rfl rfl (Nat.le_of_ble_eq_true rfl) rfl dX10_readText_48 ?_
            refine zz_aload_n C 0 dX10_readText_51 rfl rfl ?_
            refine zz_dup C dX10_readText_52 rfl ?_
            refine zz_get C 0 (ci := 10) (k := 11) rfl rfl in_X10 (by decide) qw_937 rfl rfl dX10_readText_53 ?_
            refine zz_iconst C dX10_readText_56 ?_
            refine zz_iadd C dX10_readText_57 ?_
            refine zz_put (ty := .int) (ws' := wMod z mh xT xD xP xR xC xW xA xH xU xB xI xN xM xY xK xL xE xS m_ra m_ca m_tp m_fa (gA_23 + 1) gW_14 gV_14 gp_14 (sc + 1) m_lo m_bl m_bc m_fo m_yl m_yw m_nu m_nl m_lu m_ll m_ln kT gD_14 kP gR_14 kC kW kA kH kU kB kI kN kM kY kK kL kE kS) C 0 (ci := 10) (k := 11) rfl rfl in_X10 tyX10 tyX10_ok nmX10 (by decide) qw_937 rfl rfl (by decide +kernel) rfl rfl (Nat.le_of_ble_eq_true rfl) rfl dX10_readText_58 ?_
            refine zz_goto (tgt := 5) C dX10_readText_61 (by decide) ?_
            exact ih5 (sc + 1) (gA_23 + 1) gV_14 gW_14 gR_14 gD_14 gp_14 (by omega) (by rw [he9]; show gA_23 + 1 = sR kP m_tp _ + 1; rw [hsr, hga]) (by omega) (fun i i0 i1 => by rw [he9]; show gD_14 i = opM _ _ _ _ _ (moN kP m_tp kD sc.toNat).2 i; rw [hs9.2.2.2.2 i i0 i1, hga]; exact opM_cong hD i i0 i1) (by rw [hs9.2.2.2.1]; exact hw) hok9 hop9.1 hop9.2 (by omega)
          · skip
            have hno : ¬ (sR kP m_tp ga < m_tp ∧ kP (sR kP m_tp ga) = 59) := fun h => c28 (by rw [hsr, bAt_in ⟨by omega, h.1⟩]; exact h.2)
            have hbad : ∀ X : Int → Int, tellM kP m_tp kD 0 (1 + 8 * gA_23) sc X := fun X => ⟨sc.toNat, hok, Or.inr ⟨by rw [← hga, ← hA_6]; exact hlt, by rw [← hga, ← hd0, ← hd1]; exact Or.inr (Or.inr (Or.inr ⟨hs9.2.1.1, hs9.2.1.2.1, hs9.2.1.2.2, hno, by rw [hsr]⟩)), rfl⟩⟩
            refine zz_aload_n C 0 dX10_readText_31 rfl rfl ?_
            refine zz_iconst C dX10_readText_32 ?_
            refine zz_aload_n C 0 dX10_readText_33 rfl rfl ?_
            refine zz_get C 0 (ci := 10) (k := 7) rfl rfl in_X10 (by decide) qw_933 rfl rfl dX10_readText_34 ?_
            refine zz_callV (wr := ([] : va_W)) (st := []) C (cc_X10_fails l z mh xT xD xP xR xC xW xA xH xU xB xI xN xM xY xK xL xE xS m_ra m_ca m_tp m_fa gA_23 gW_14 gV_14 gp_14 sc m_lo m_bl m_bc m_fo m_yl m_yw m_nu m_nl m_lu m_ll m_ln kT gD_14 kP gR_14 kC kW kA kH kU kB kI kN kM kY kK kL kE kS 1 gA_23 ) yk_X10_fails qw_1140 ⟨by decide, by decide⟩ [0, 1, 2, 3, 4, 5, 6, 7, 8, 9, 10, 11, 12, 13, 14, 15, 16, 17, 18] [] rfl rfl rfl rfl (by decide) 0 10 rfl rfl rfl rfl (Nat.le_of_ble_eq_true rfl) dX10_readText_37 ⟨by decide, by decide⟩ ?_
            rintro _ _ ⟨rfl, rfl⟩
            refine zz_st (st' := [.int (iI 0)]) rfl (zz_ws (ws' := wMod z mh xT xD xP xR xC xW xA xH xU xB xI xN xM xY xK xL xE xS m_ra m_ca m_tp m_fa gA_23 (1 + 8 * gA_23) gV_14 gp_14 sc m_lo m_bl m_bc m_fo m_yl m_yw m_nu m_nl m_lu m_ll m_ln kT gD_14 kP gR_14 kC kW kA kH kU kB kI kN kM kY kK kL kE kS) rfl ?_)
            exact zz_zret C hr (by decide +kernel) dX10_readText_40 ⟨0, sc, gA_23, gV_14, (1 + 8 * gA_23), gR_14, gD_14, gp_14, hbad _, by omega, rfl, rfl⟩
        · skip
          have hs9 := (hq_14.resolve_left (fun h => by omega)).2
          have hbad : tellM kP m_tp kD 0 gW_14 sc gD_14 := ⟨sc.toNat, hok, Or.inr ⟨by rw [← hga, ← hA_6]; exact hlt, by rw [← hga, ← hd0, ← hd1]; exact hs9, rfl⟩⟩
          refine zz_iconst C dX10_readText_20 ?_
          exact zz_zret C hr (by decide +kernel) dX10_readText_21 ⟨0, sc, gA_14, gV_14, gW_14, gR_14, gD_14, gp_14, hbad, by omega, rfl, rfl⟩
  exact Lp5 _ 0 m_at m_va m_wr kR kD m_pl (by omega) hat0 (by omega) (fun i i0 i1 => rfl) hwr0 (fun i hi => by simp at hi) hkd hkb (Nat.lt_succ_self _)
abbrev po_X10_tell (z : zC) (mh : Nat) (xT : Nat) (xD : Nat) (xP : Nat) (xR : Nat) (xC : Nat) (xW : Nat) (xA : Nat) (xH : Nat) (xU : Nat) (xB : Nat) (xI : Nat) (xN : Nat) (xM : Nat) (xY : Nat) (xK : Nat) (xL : Nat) (xE : Nat) (xS : Nat) (m_ra : Int) (m_ca : Int) (m_tp : Int) (m_fa : Int) (m_at : Int) (m_wr : Int) (m_va : Int) (m_pl : Int) (m_st : Int) (m_lo : Int) (m_bl : Int) (m_bc : Int) (m_fo : Int) (m_yl : Int) (m_yw : Int) (m_nu : Int) (m_nl : Int) (m_lu : Int) (m_ll : Int) (m_ln : Int) (kT : Int → Int) (kD : Int → Int) (kP : Int → Int) (kR : Int → Int) (kC : Int → Int) (kW : Int → Int) (kA : Int → Int) (kH : Int → Int) (kU : Int → Int) (kB : Int → Int) (kI : Int → Int) (kN : Int → Int) (kM : Int → Int) (kY : Int → Int) (kK : Int → Int) (kL : Int → Int) (kE : Int → Int) (kS : Int → Int) : Option Value → va_W → Prop := fun v w => ∃ (q : Int), ∃ (gs : Int), ∃ (gA : Int), ∃ (gV : Int), ∃ (gW : Int), ∃ (gR : Int → Int), ∃ (gD : Int → Int), ∃ (gp : Int), ∃ (gT : Int → Int), (∃ (D D' : Int → Int) (b : Int), eqR D kT 47 ∧ tellM kP m_tp D b gW gs D' ∧ ((b = 1 ∧ q = gs ∧ eqR gT D' 47) ∨ (b = 0 ∧ q = -1 ∧ gT = kT))) ∧ v = some (Value.int (iI q)) ∧ w = wMod z mh xT xD xP xR xC xW xA xH xU xB xI xN xM xY xK xL xE xS 0 m_ca 0 gW gA gW gV gp gs m_lo m_bl m_bc m_fo m_yl m_yw m_nu m_nl m_lu m_ll m_ln gT gD kP gR kC kW kA kH kU kB kI kN kM kY kK kL kE kS
abbrev rm_X10_tell : Room := { frames := 6, cells := 0, slots := 0, locals := 151 }
set_option maxHeartbeats 4000000 in
set_option maxRecDepth 100000 in
theorem cc_X10_tell (l : Launch) (z : zC) (mh : Nat) (xT : Nat) (xD : Nat) (xP : Nat) (xR : Nat) (xC : Nat) (xW : Nat) (xA : Nat) (xH : Nat) (xU : Nat) (xB : Nat) (xI : Nat) (xN : Nat) (xM : Nat) (xY : Nat) (xK : Nat) (xL : Nat) (xE : Nat) (xS : Nat) (m_ra : Int) (m_ca : Int) (m_tp : Int) (m_fa : Int) (m_at : Int) (m_wr : Int) (m_va : Int) (m_pl : Int) (m_st : Int) (m_lo : Int) (m_bl : Int) (m_bc : Int) (m_fo : Int) (m_yl : Int) (m_yw : Int) (m_nu : Int) (m_nl : Int) (m_lu : Int) (m_ll : Int) (m_ln : Int) (kT : Int → Int) (kD : Int → Int) (kP : Int → Int) (kR : Int → Int) (kC : Int → Int) (kW : Int → Int) (kA : Int → Int) (kH : Int → Int) (kU : Int → Int) (kB : Int → Int) (kI : Int → Int) (kN : Int → Int) (kM : Int → Int) (kY : Int → Int) (kK : Int → Int) (kL : Int → Int) (kE : Int → Int) (kS : Int → Int) (htp : 0 ≤ m_tp ∧ m_tp ≤ 300) (hbm : ∀ i : Int, 0 ≤ kP i ∧ kP i < 256) (hkT : mOk kT) : zzMet l yX10_tell cX10_tell 2 (Option.some .int) rm_X10_tell z [.ref mh] (wMod z mh xT xD xP xR xC xW xA xH xU xB xI xN xM xY xK xL xE xS m_ra m_ca m_tp m_fa m_at m_wr m_va m_pl m_st m_lo m_bl m_bc m_fo m_yl m_yw m_nu m_nl m_lu m_ll m_ln kT kD kP kR kC kW kA kH kU kB kI kN kM kY kK kL kE kS) (po_X10_tell z mh xT xD xP xR xC xW xA xH xU xB xI xN xM xY xK xL xE xS m_ra m_ca m_tp m_fa m_at m_wr m_va m_pl m_st m_lo m_bl m_bc m_fo m_yl m_yw m_nu m_nl m_lu m_ll m_ln kT kD kP kR kC kW kA kH kU kB kI kN kM kY kK kL kE kS) := by
  refine zzMet.of (own := RX10) (ls0 := [(0, .ref mh)]) (by decide) rfl (Nat.le_of_ble_eq_true rfl) rfl ?_
  intro p e s m below meth c A C hr hnm
  have hk0 := hkT.1
  have hk1 := hkT.2.1
  refine zz_aload_n C 0 dX10_tell_0 rfl rfl ?_
  refine zz_iconst C dX10_tell_1 ?_
  refine zz_put (ty := .int) (ws' := wMod z mh xT xD xP xR xC xW xA xH xU xB xI xN xM xY xK xL xE xS 0 m_ca m_tp m_fa m_at m_wr m_va m_pl m_st m_lo m_bl m_bc m_fo m_yl m_yw m_nu m_nl m_lu m_ll m_ln kT kD kP kR kC kW kA kH kU kB kI kN kM kY kK kL kE kS) C 0 (ci := 10) (k := 0) rfl rfl in_X10 tyX10 tyX10_ok nmX10 (by decide) qw_926 rfl rfl (by decide +kernel) rfl rfl (Nat.le_of_ble_eq_true rfl) rfl dX10_tell_2 ?_
  refine zz_aload_n C 0 dX10_tell_5 rfl rfl ?_
  refine zz_callV (wr := ([] : va_W)) (st := []) C (cc_X10_drafts l z mh xT xD xP xR xC xW xA xH xU xB xI xN xM xY xK xL xE xS 0 m_ca m_tp m_fa m_at m_wr m_va m_pl m_st m_lo m_bl m_bc m_fo m_yl m_yw m_nu m_nl m_lu m_ll m_ln kT kD kP kR kC kW kA kH kU kB kI kN kM kY kK kL kE kS ) yk_X10_drafts qw_1064 ⟨by decide, by decide⟩ [0, 1, 2, 3, 4, 5, 6, 7, 8, 9, 10, 11, 12, 13, 14, 15, 16, 17, 18] [] rfl rfl rfl rfl (by decide) 0 10 rfl rfl rfl rfl (Nat.le_of_ble_eq_true rfl) dX10_tell_6 ⟨by decide, by decide⟩ ?_
  rintro _ _ ⟨gD_6, hgD_6, rfl, rfl⟩
  refine zz_st (st' := []) rfl (zz_ws (ws' := wMod z mh xT xD xP xR xC xW xA xH xU xB xI xN xM xY xK xL xE xS 0 m_ca m_tp m_fa m_at m_wr m_va m_pl m_st m_lo m_bl m_bc m_fo m_yl m_yw m_nu m_nl m_lu m_ll m_ln kT gD_6 kP kR kC kW kA kH kU kB kI kN kM kY kK kL kE kS) rfl ?_)
  have hd0 := hgD_6 0 (by omega) (by omega)
  have hd1 := hgD_6 1 (by omega) (by omega)
  refine zz_aload_n C 0 dX10_tell_9 rfl rfl ?_
  refine zz_iconst C dX10_tell_10 ?_
  refine zz_put (ty := .int) (ws' := wMod z mh xT xD xP xR xC xW xA xH xU xB xI xN xM xY xK xL xE xS 0 m_ca m_tp m_fa 0 m_wr m_va m_pl m_st m_lo m_bl m_bc m_fo m_yl m_yw m_nu m_nl m_lu m_ll m_ln kT gD_6 kP kR kC kW kA kH kU kB kI kN kM kY kK kL kE kS) C 0 (ci := 10) (k := 7) rfl rfl in_X10 tyX10 tyX10_ok nmX10 (by decide) qw_933 rfl rfl (by decide +kernel) rfl rfl (Nat.le_of_ble_eq_true rfl) rfl dX10_tell_11 ?_
  refine zz_aload_n C 0 dX10_tell_14 rfl rfl ?_
  refine zz_iconst C dX10_tell_15 ?_
  refine zz_put (ty := .int) (ws' := wMod z mh xT xD xP xR xC xW xA xH xU xB xI xN xM xY xK xL xE xS 0 m_ca m_tp m_fa 0 0 m_va m_pl m_st m_lo m_bl m_bc m_fo m_yl m_yw m_nu m_nl m_lu m_ll m_ln kT gD_6 kP kR kC kW kA kH kU kB kI kN kM kY kK kL kE kS) C 0 (ci := 10) (k := 8) rfl rfl in_X10 tyX10 tyX10_ok nmX10 (by decide) qw_934 rfl rfl (by decide +kernel) rfl rfl (Nat.le_of_ble_eq_true rfl) rfl dX10_tell_16 ?_
  refine zz_aload_n C 0 dX10_tell_19 rfl rfl ?_
  refine zz_callV (wr := ([] : va_W)) (st := []) C (cc_X10_readText l z mh xT xD xP xR xC xW xA xH xU xB xI xN xM xY xK xL xE xS 0 m_ca m_tp m_fa 0 0 m_va m_pl m_st m_lo m_bl m_bc m_fo m_yl m_yw m_nu m_nl m_lu m_ll m_ln kT gD_6 kP kR kC kW kA kH kU kB kI kN kM kY kK kL kE kS (by omega) (by omega) (by omega) (by omega) rfl rfl) yk_X10_readText qw_1128 ⟨by decide, by decide⟩ [0, 1, 2, 3, 4, 5, 6, 7, 8, 9, 10, 11, 12, 13, 14, 15, 16, 17, 18] [] rfl rfl rfl rfl (by decide) 0 10 rfl rfl rfl rfl (Nat.le_of_ble_eq_true rfl) dX10_tell_20 ⟨by decide, by decide⟩ ?_
  rintro _ _ ⟨q_20, gs_20, gA_20, gV_20, gW_20, gR_20, gD_20, gp_20, hq_20, hgs_20, rfl, rfl⟩
  refine zz_st (st' := [.int (iI q_20)]) rfl (zz_ws (ws' := wMod z mh xT xD xP xR xC xW xA xH xU xB xI xN xM xY xK xL xE xS 0 m_ca m_tp m_fa gA_20 gW_20 gV_20 gp_20 gs_20 m_lo m_bl m_bc m_fo m_yl m_yw m_nu m_nl m_lu m_ll m_ln kT gD_20 kP gR_20 kC kW kA kH kU kB kI kN kM kY kK kL kE kS) rfl ?_)
  refine zz_istore_n (ls' := [(1, .int (iI q_20)), (0, .ref mh)]) C dX10_tell_23 rfl (by decide) rfl ?_
  refine zz_aload_n C 1 dX10_tell_24 rfl rfl ?_
  refine zz_iconst C dX10_tell_25 ?_
  refine zz_put (ty := .int) (ws' := wMod z mh xT xD xP xR xC xW xA xH xU xB xI xN xM xY xK xL xE xS 0 m_ca 0 m_fa gA_20 gW_20 gV_20 gp_20 gs_20 m_lo m_bl m_bc m_fo m_yl m_yw m_nu m_nl m_lu m_ll m_ln kT gD_20 kP gR_20 kC kW kA kH kU kB kI kN kM kY kK kL kE kS) C 0 (ci := 10) (k := 5) rfl rfl in_X10 tyX10 tyX10_ok nmX10 (by decide) qw_931 rfl rfl (by decide +kernel) rfl rfl (Nat.le_of_ble_eq_true rfl) rfl dX10_tell_26 ?_
  refine zz_aload_n C 1 dX10_tell_29 rfl rfl ?_
  refine zz_aload_n C 1 dX10_tell_30 rfl rfl ?_
  refine zz_get C 0 (ci := 10) (k := 8) rfl rfl in_X10 (by decide) qw_934 rfl rfl dX10_tell_31 ?_
  refine zz_put (ty := .int) (ws' := wMod z mh xT xD xP xR xC xW xA xH xU xB xI xN xM xY xK xL xE xS 0 m_ca 0 gW_20 gA_20 gW_20 gV_20 gp_20 gs_20 m_lo m_bl m_bc m_fo m_yl m_yw m_nu m_nl m_lu m_ll m_ln kT gD_20 kP gR_20 kC kW kA kH kU kB kI kN kM kY kK kL kE kS) C 0 (ci := 10) (k := 6) rfl rfl in_X10 tyX10 tyX10_ok nmX10 (by decide) qw_932 rfl rfl (by decide +kernel) rfl rfl (Nat.le_of_ble_eq_true rfl) rfl dX10_tell_34 ?_
  refine zz_aload_n C 1 dX10_tell_37 rfl rfl ?_
  refine zz_iload_n C 0 dX10_tell_38 rfl rfl ?_
  have hq9 := hq_20; obtain ⟨j9, -, h9⟩ := hq9; rcases (show q_20 = 1 ∨ q_20 = 0 by rcases h9 with h9 | h9; exact Or.inl h9.2.1; exact Or.inr h9.2.2) with rfl | rfl
  · skip
    refine zz_callV (wr := ([] : va_W)) (st := []) C (cc_X10_takes_1 l z mh xT xD xP xR xC xW xA xH xU xB xI xN xM xY xK xL xE xS 0 m_ca 0 gW_20 gA_20 gW_20 gV_20 gp_20 gs_20 m_lo m_bl m_bc m_fo m_yl m_yw m_nu m_nl m_lu m_ll m_ln kT gD_20 kP gR_20 kC kW kA kH kU kB kI kN kM kY kK kL kE kS ) yk_X10_takes qw_1056 ⟨by decide, by decide⟩ [0, 1, 2, 3, 4, 5, 6, 7, 8, 9, 10, 11, 12, 13, 14, 15, 16, 17, 18] [] rfl rfl rfl rfl (by decide) 0 10 rfl rfl rfl rfl (Nat.le_of_ble_eq_true rfl) dX10_tell_39 ⟨by decide, by decide⟩ ?_
    rintro _ _ ⟨gT_39, hgT_39, rfl, rfl⟩
    refine zz_st (st' := [.int (iI 1)]) rfl (zz_ws (ws' := wMod z mh xT xD xP xR xC xW xA xH xU xB xI xN xM xY xK xL xE xS 0 m_ca 0 gW_20 gA_20 gW_20 gV_20 gp_20 gs_20 m_lo m_bl m_bc m_fo m_yl m_yw m_nu m_nl m_lu m_ll m_ln gT_39 gD_20 kP gR_20 kC kW kA kH kU kB kI kN kM kY kK kL kE kS) rfl ?_)
    refine zz_if_eq (tgt := 52) C dX10_tell_42 (by decide) (by unfold rI; omega) (fun c42 => ?_) (fun c42 => ?_)
    · skip
      refine zz_iconst C dX10_tell_52 ?_
      exact zz_iret C hr dX10_tell_53 ⟨_, gs_20, gA_20, gV_20, gW_20, gR_20, gD_20, gp_20, gT_39, ⟨_, _, _, hgD_6, hq_20, by first | (exfalso; omega) | exact Or.inl ⟨rfl, rfl, hgT_39⟩ | exact Or.inr ⟨rfl, rfl, rfl⟩⟩, rfl, rfl⟩
    · skip
      refine zz_aload_n C 1 dX10_tell_45 rfl rfl ?_
      refine zz_get C 0 (ci := 10) (k := 11) rfl rfl in_X10 (by decide) qw_937 rfl rfl dX10_tell_46 ?_
      refine zz_goto (tgt := 53) C dX10_tell_49 (by decide) ?_
      exact zz_iret C hr dX10_tell_53 ⟨_, gs_20, gA_20, gV_20, gW_20, gR_20, gD_20, gp_20, gT_39, ⟨_, _, _, hgD_6, hq_20, by first | (exfalso; omega) | exact Or.inl ⟨rfl, rfl, hgT_39⟩ | exact Or.inr ⟨rfl, rfl, rfl⟩⟩, rfl, rfl⟩
  · skip
    refine zz_callV (wr := ([] : va_W)) (st := []) C (cc_X10_takes_0 l z mh xT xD xP xR xC xW xA xH xU xB xI xN xM xY xK xL xE xS 0 m_ca 0 gW_20 gA_20 gW_20 gV_20 gp_20 gs_20 m_lo m_bl m_bc m_fo m_yl m_yw m_nu m_nl m_lu m_ll m_ln kT gD_20 kP gR_20 kC kW kA kH kU kB kI kN kM kY kK kL kE kS ) yk_X10_takes qw_1056 ⟨by decide, by decide⟩ [0, 1, 2, 3, 4, 5, 6, 7, 8, 9, 10, 11, 12, 13, 14, 15, 16, 17, 18] [] rfl rfl rfl rfl (by decide) 0 10 rfl rfl rfl rfl (Nat.le_of_ble_eq_true rfl) dX10_tell_39 ⟨by decide, by decide⟩ ?_
    rintro _ _ ⟨rfl, rfl⟩
    refine zz_st (st' := [.int (iI 0)]) rfl (zz_ws (ws' := wMod z mh xT xD xP xR xC xW xA xH xU xB xI xN xM xY xK xL xE xS 0 m_ca 0 gW_20 gA_20 gW_20 gV_20 gp_20 gs_20 m_lo m_bl m_bc m_fo m_yl m_yw m_nu m_nl m_lu m_ll m_ln kT gD_20 kP gR_20 kC kW kA kH kU kB kI kN kM kY kK kL kE kS) rfl ?_)
    refine zz_if_eq (tgt := 52) C dX10_tell_42 (by decide) (by unfold rI; omega) (fun c42 => ?_) (fun c42 => ?_)
    · skip
      refine zz_iconst C dX10_tell_52 ?_
      exact zz_iret C hr dX10_tell_53 ⟨_, gs_20, gA_20, gV_20, gW_20, gR_20, gD_20, gp_20, kT, ⟨_, _, _, hgD_6, hq_20, by first | (exfalso; omega) | exact Or.inl ⟨rfl, rfl, hgT_39⟩ | exact Or.inr ⟨rfl, rfl, rfl⟩⟩, rfl, rfl⟩
    · skip
      refine zz_aload_n C 1 dX10_tell_45 rfl rfl ?_
      refine zz_get C 0 (ci := 10) (k := 11) rfl rfl in_X10 (by decide) qw_937 rfl rfl dX10_tell_46 ?_
      refine zz_goto (tgt := 53) C dX10_tell_49 (by decide) ?_
      exact zz_iret C hr dX10_tell_53 ⟨_, gs_20, gA_20, gV_20, gW_20, gR_20, gD_20, gp_20, kT, ⟨_, _, _, hgD_6, hq_20, by first | (exfalso; omega) | exact Or.inl ⟨rfl, rfl, hgT_39⟩ | exact Or.inr ⟨rfl, rfl, rfl⟩⟩, rfl, rfl⟩
