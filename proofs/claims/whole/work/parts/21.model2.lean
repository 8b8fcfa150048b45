def mCount (kT : Int → Int) (tp ca w : Int) : Int := if w = 0 then kT 0 else if w = 1 then kT 1 else if w = 2 then tp else if w = 3 then ca else -1
def mDate (kT : Int → Int) (d w : Int) : Int := if (1 ≤ d ∧ d ≤ kT 0) ∧ (0 ≤ w ∧ w ≤ 1) then (if w = 0 then kT (2 + d) else kT (7 + d)) else -1
def mToldOk (kT : Int → Int) (b w : Int) : Prop := (0 ≤ b ∧ b < kT 1) ∧ ((0 ≤ w ∧ w ≤ 6) ∨ (11 ≤ w ∧ w ≤ 10 + kT 0))
def mTold (kT : Int → Int) (b w : Int) : Int := if 10 < w then mYield kT b (w - 10) else kT (12 + 5 * w + b)
theorem drop_in {f g : Int → Int} {b k : Int} (h : ∀ i : Int, 0 ≤ i → i < 47 → g i = if 12 ≤ i ∧ b ≤ (i - 12) % 5 ∧ (i - 12) % 5 < k then f (i + 1) else f i) : ∀ i : Int, 0 ≤ i → i < 47 → g i = if 12 ≤ i ∧ b ≤ (i - 12) % 5 ∧ ((i - 12) % 5 < k ∨ ((i - 12) % 5 = k ∧ i < 12 + k)) then f (i + 1) else f i := by
  intro i h0 h1
  rw [h i h0 h1]
  by_cases q : 12 ≤ i ∧ b ≤ (i - 12) % 5 ∧ (i - 12) % 5 < k
  · rw [if_pos q, if_pos (by omega)]
  · rw [if_neg q, if_neg (by omega)]
theorem drop_out {f g : Int → Int} {b k r : Int} (h : ∀ i : Int, 0 ≤ i → i < 47 → g i = if 12 ≤ i ∧ b ≤ (i - 12) % 5 ∧ ((i - 12) % 5 < k ∨ ((i - 12) % 5 = k ∧ i < r + k)) then f (i + 1) else f i) (hr : 12 ≤ r ∧ r ≤ 47 ∧ r % 5 = 2) (i : Int) (h0 : 0 ≤ i) (h1 : i < 47) (c : 42 < r) : g i = if 12 ≤ i ∧ b ≤ (i - 12) % 5 ∧ (i - 12) % 5 < k + 1 then f (i + 1) else f i := by
  rw [h i h0 h1]
  by_cases q : 12 ≤ i ∧ b ≤ (i - 12) % 5 ∧ (i - 12) % 5 < k + 1
  · rw [if_pos q, if_pos (by omega)]
  · rw [if_neg q, if_neg (by omega)]
theorem drop_step {f g : Int → Int} {b k r n : Int} (h : ∀ i : Int, 0 ≤ i → i < 47 → g i = if 12 ≤ i ∧ b ≤ (i - 12) % 5 ∧ ((i - 12) % 5 < k ∨ ((i - 12) % 5 = k ∧ i < r + k)) then f (i + 1) else f i) (hr : 12 ≤ r ∧ r ≤ 47 ∧ r % 5 = 2) (hk : b ≤ k ∧ k < n) (hn : 0 ≤ b ∧ k < 4) (c : r ≤ 42) (i : Int) (h0 : 0 ≤ i) (h1 : i < 47) : zup g (r + k) (g (r + k + 1)) i = if 12 ≤ i ∧ b ≤ (i - 12) % 5 ∧ ((i - 12) % 5 < k ∨ ((i - 12) % 5 = k ∧ i < r + 5 + k)) then f (i + 1) else f i := by
  by_cases e : i = r + k
  · rw [e, zup_eq, h (r + k + 1) (by omega) (by omega), if_neg (by omega), if_pos (by omega)]
  · rw [zup_ne e, h i h0 h1]
    by_cases q : 12 ≤ i ∧ b ≤ (i - 12) % 5 ∧ ((i - 12) % 5 < k ∨ ((i - 12) % 5 = k ∧ i < r + k))
    · rw [if_pos q, if_pos (by omega)]
    · rw [if_neg q, if_neg (by omega)]
theorem drop_end {f g : Int → Int} {b k : Int} (h : ∀ i : Int, 0 ≤ i → i < 47 → g i = if 12 ≤ i ∧ b ≤ (i - 12) % 5 ∧ (i - 12) % 5 < k then f (i + 1) else f i) (h1 : g 1 = f 1) (hk : k + 1 = f 1) : eqR (zup g 1 (g 1 - 1)) (mDrop f b) 47 := by
  intro i a0 a1
  unfold mDrop
  by_cases e : i = 1
  · rw [e, zup_eq, if_pos rfl, h1]
  · rw [zup_ne e, if_neg e, h i a0 a1]
    by_cases q : 12 ≤ i ∧ b ≤ (i - 12) % 5 ∧ (i - 12) % 5 < k
    · rw [if_pos q, if_pos (by omega)]
    · rw [if_neg q, if_neg (by omega)]
def mF1 (kP : Int → Int) (tp v : Int) : Int → Int := zup kP tp (byteZ v 24)
def mF2 (kP : Int → Int) (tp v : Int) : Int → Int := zup (mF1 kP tp v) (tp + 1) (byteZ v 16)
def mF3 (kP : Int → Int) (tp v : Int) : Int → Int := zup (mF2 kP tp v) (tp + 2) (byteZ v 8)
def mFour (kP : Int → Int) (tp v : Int) : Int → Int := zup (mF3 kP tp v) (tp + 3) (byteZ v 0)
theorem four_step {kP gP : Int → Int} {m tp k v : Int} (h : (k = 24 ∧ tp = m ∧ gP = kP) ∨ (k = 16 ∧ tp = m + 1 ∧ gP = mF1 kP m v) ∨ (k = 8 ∧ tp = m + 2 ∧ gP = mF2 kP m v) ∨ (k = 0 ∧ tp = m + 3 ∧ gP = mF3 kP m v) ∨ (k = -8 ∧ tp = m + 4 ∧ gP = mFour kP m v)) (h0 : 0 ≤ k) :
    (k + -8 = 24 ∧ tp + 1 = m ∧ zup gP tp (v / 2 ^ k.toNat % 256) = kP) ∨ (k + -8 = 16 ∧ tp + 1 = m + 1 ∧ zup gP tp (v / 2 ^ k.toNat % 256) = mF1 kP m v) ∨ (k + -8 = 8 ∧ tp + 1 = m + 2 ∧ zup gP tp (v / 2 ^ k.toNat % 256) = mF2 kP m v) ∨ (k + -8 = 0 ∧ tp + 1 = m + 3 ∧ zup gP tp (v / 2 ^ k.toNat % 256) = mF3 kP m v) ∨ (k + -8 = -8 ∧ tp + 1 = m + 4 ∧ zup gP tp (v / 2 ^ k.toNat % 256) = mFour kP m v) := by
  rcases h with ⟨rfl, rfl, rfl⟩ | ⟨rfl, rfl, rfl⟩ | ⟨rfl, rfl, rfl⟩ | ⟨rfl, rfl, rfl⟩ | ⟨rfl, rfl, rfl⟩
  · exact Or.inr (Or.inl ⟨by omega, by omega, rfl⟩)
  · exact Or.inr (Or.inr (Or.inl ⟨by omega, by omega, rfl⟩))
  · exact Or.inr (Or.inr (Or.inr (Or.inl ⟨by omega, by omega, rfl⟩)))
  · exact Or.inr (Or.inr (Or.inr (Or.inr ⟨by omega, by omega, rfl⟩)))
  · omega
def mFeed (kP : Int → Int) (tp a1 a2 a3 a4 a5 : Int) : Int → Int := mFour (mFour (mFour (mFour (mFour kP tp a1) (tp + 4) a2) (tp + 8) a3) (tp + 12) a4) (tp + 16) a5
theorem feed_eq (kP : Int → Int) (tp a1 a2 a3 a4 a5 : Int) : mFour (mFour (mFour (mFour (mFour kP tp a1) (tp + 4) a2) (tp + 4 + 4) a3) (tp + 4 + 4 + 4) a4) (tp + 4 + 4 + 4 + 4) a5 = mFeed kP tp a1 a2 a3 a4 a5 := by
  unfold mFeed
  rw [show tp + 4 + 4 = tp + 8 by omega, show tp + 8 + 4 = tp + 12 by omega, show tp + 12 + 4 = tp + 16 by omega]

abbrev po_X10_fault (z : zC) (mh : Nat) (xT : Nat) (xD : Nat) (xP : Nat) (xR : Nat) (xC : Nat) (xW : Nat) (xA : Nat) (xH : Nat) (xU : Nat) (xB : Nat) (xI : Nat) (xN : Nat) (xM : Nat) (xY : Nat) (xK : Nat) (xL : Nat) (xE : Nat) (xS : Nat) (m_ra : Int) (m_ca : Int) (m_tp : Int) (m_fa : Int) (m_at : Int) (m_wr : Int) (m_va : Int) (m_pl : Int) (m_st : Int) (m_lo : Int) (m_bl : Int) (m_bc : Int) (m_fo : Int) (m_yl : Int) (m_yw : Int) (m_nu : Int) (m_nl : Int) (m_lu : Int) (m_ll : Int) (m_ln : Int) (kT : Int → Int) (kD : Int → Int) (kP : Int → Int) (kR : Int → Int) (kC : Int → Int) (kW : Int → Int) (kA : Int → Int) (kH : Int → Int) (kU : Int → Int) (kB : Int → Int) (kI : Int → Int) (kN : Int → Int) (kM : Int → Int) (kY : Int → Int) (kK : Int → Int) (kL : Int → Int) (kE : Int → Int) (kS : Int → Int) : Option Value → va_W → Prop := fun v w => v = some (Value.int (iI m_fa)) ∧ w = wMod z mh xT xD xP xR xC xW xA xH xU xB xI xN xM xY xK xL xE xS 0 m_ca m_tp m_fa m_at m_wr m_va m_pl m_st m_lo m_bl m_bc m_fo m_yl m_yw m_nu m_nl m_lu m_ll m_ln kT kD kP kR kC kW kA kH kU kB kI kN kM kY kK kL kE kS
abbrev rm_X10_fault : Room := { frames := 1, cells := 0, slots := 0, locals := 40 }
set_option maxHeartbeats 4000000 in
set_option maxRecDepth 100000 in
theorem cc_X10_fault (l : Launch) (z : zC) (mh : Nat) (xT : Nat) (xD : Nat) (xP : Nat) (xR : Nat) (xC : Nat) (xW : Nat) (xA : Nat) (xH : Nat) (xU : Nat) (xB : Nat) (xI : Nat) (xN : Nat) (xM : Nat) (xY : Nat) (xK : Nat) (xL : Nat) (xE : Nat) (xS : Nat) (m_ra : Int) (m_ca : Int) (m_tp : Int) (m_fa : Int) (m_at : Int) (m_wr : Int) (m_va : Int) (m_pl : Int) (m_st : Int) (m_lo : Int) (m_bl : Int) (m_bc : Int) (m_fo : Int) (m_yl : Int) (m_yw : Int) (m_nu : Int) (m_nl : Int) (m_lu : Int) (m_ll : Int) (m_ln : Int) (kT : Int → Int) (kD : Int → Int) (kP : Int → Int) (kR : Int → Int) (kC : Int → Int) (kW : Int → Int) (kA : Int → Int) (kH : Int → Int) (kU : Int → Int) (kB : Int → Int) (kI : Int → Int) (kN : Int → Int) (kM : Int → Int) (kY : Int → Int) (kK : Int → Int) (kL : Int → Int) (kE : Int → Int) (kS : Int → Int)  : zzMet l yX10_fault cX10_fault 1 (Option.some .int) rm_X10_fault z [.ref mh] (wMod z mh xT xD xP xR xC xW xA xH xU xB xI xN xM xY xK xL xE xS m_ra m_ca m_tp m_fa m_at m_wr m_va m_pl m_st m_lo m_bl m_bc m_fo m_yl m_yw m_nu m_nl m_lu m_ll m_ln kT kD kP kR kC kW kA kH kU kB kI kN kM kY kK kL kE kS) (po_X10_fault z mh xT xD xP xR xC xW xA xH xU xB xI xN xM xY xK xL xE xS m_ra m_ca m_tp m_fa m_at m_wr m_va m_pl m_st m_lo m_bl m_bc m_fo m_yl m_yw m_nu m_nl m_lu m_ll m_ln kT kD kP kR kC kW kA kH kU kB kI kN kM kY kK kL kE kS) := by
  refine zzMet.of (own := RX10) (ls0 := [(0, .ref mh)]) (by decide) rfl (Nat.le_of_ble_eq_true rfl) rfl ?_
  intro p e s m below meth c A C hr hnm
  refine zz_aload_n C 0 dX10_fault_0 rfl rfl ?_
  refine zz_iconst C dX10_fault_1 ?_
  refine zz_put (ty := .int) (ws' := wMod z mh xT xD xP xR xC xW xA xH xU xB xI xN xM xY xK xL xE xS 0 m_ca m_tp m_fa m_at m_wr m_va m_pl m_st m_lo m_bl m_bc m_fo m_yl m_yw m_nu m_nl m_lu m_ll m_ln kT kD kP kR kC kW kA kH kU kB kI kN kM kY kK kL kE kS) C 0 (ci := 10) (k := 0) rfl rfl in_X10 tyX10 tyX10_ok nmX10 (by decide) qw_926 rfl rfl (by decide +kernel) rfl rfl (Nat.le_of_ble_eq_true rfl) rfl dX10_fault_2 ?_
  refine zz_aload_n C 0 dX10_fault_5 rfl rfl ?_
  refine zz_get C 0 (ci := 10) (k := 6) rfl rfl in_X10 (by decide) qw_932 rfl rfl dX10_fault_6 ?_
  exact zz_iret C hr dX10_fault_9 ⟨zz_vI rfl, rfl⟩
abbrev po_X10_end (z : zC) (mh : Nat) (xT : Nat) (xD : Nat) (xP : Nat) (xR : Nat) (xC : Nat) (xW : Nat) (xA : Nat) (xH : Nat) (xU : Nat) (xB : Nat) (xI : Nat) (xN : Nat) (xM : Nat) (xY : Nat) (xK : Nat) (xL : Nat) (xE : Nat) (xS : Nat) (m_ra : Int) (m_ca : Int) (m_tp : Int) (m_fa : Int) (m_at : Int) (m_wr : Int) (m_va : Int) (m_pl : Int) (m_st : Int) (m_lo : Int) (m_bl : Int) (m_bc : Int) (m_fo : Int) (m_yl : Int) (m_yw : Int) (m_nu : Int) (m_nl : Int) (m_lu : Int) (m_ll : Int) (m_ln : Int) (kT : Int → Int) (kD : Int → Int) (kP : Int → Int) (kR : Int → Int) (kC : Int → Int) (kW : Int → Int) (kA : Int → Int) (kH : Int → Int) (kU : Int → Int) (kB : Int → Int) (kI : Int → Int) (kN : Int → Int) (kM : Int → Int) (kY : Int → Int) (kK : Int → Int) (kL : Int → Int) (kE : Int → Int) (kS : Int → Int) (n9 : Int) : Option Value → va_W → Prop := fun v w => ∃ (q : Int), ∃ (gc : Int), ((q = 1 ∧ (0 ≤ n9 ∧ n9 ≤ m_tp) ∧ gc = n9) ∨ (q = 0 ∧ ¬ (0 ≤ n9 ∧ n9 ≤ m_tp) ∧ gc = m_tp)) ∧ v = some (Value.int (iI q)) ∧ w = wMod z mh xT xD xP xR xC xW xA xH xU xB xI xN xM xY xK xL xE xS 0 m_ca gc m_fa m_at m_wr m_va m_pl m_st m_lo m_bl m_bc m_fo m_yl m_yw m_nu m_nl m_lu m_ll m_ln kT kD kP kR kC kW kA kH kU kB kI kN kM kY kK kL kE kS
abbrev rm_X10_end : Room := { frames := 2, cells := 0, slots := 0, locals := 62 }
set_option maxHeartbeats 4000000 in
set_option maxRecDepth 100000 in
theorem cc_X10_end (l : Launch) (z : zC) (mh : Nat) (xT : Nat) (xD : Nat) (xP : Nat) (xR : Nat) (xC : Nat) (xW : Nat) (xA : Nat) (xH : Nat) (xU : Nat) (xB : Nat) (xI : Nat) (xN : Nat) (xM : Nat) (xY : Nat) (xK : Nat) (xL : Nat) (xE : Nat) (xS : Nat) (m_ra : Int) (m_ca : Int) (m_tp : Int) (m_fa : Int) (m_at : Int) (m_wr : Int) (m_va : Int) (m_pl : Int) (m_st : Int) (m_lo : Int) (m_bl : Int) (m_bc : Int) (m_fo : Int) (m_yl : Int) (m_yw : Int) (m_nu : Int) (m_nl : Int) (m_lu : Int) (m_ll : Int) (m_ln : Int) (kT : Int → Int) (kD : Int → Int) (kP : Int → Int) (kR : Int → Int) (kC : Int → Int) (kW : Int → Int) (kA : Int → Int) (kH : Int → Int) (kU : Int → Int) (kB : Int → Int) (kI : Int → Int) (kN : Int → Int) (kM : Int → Int) (kY : Int → Int) (kK : Int → Int) (kL : Int → Int) (kE : Int → Int) (kS : Int → Int) (n9 : Int) (htp : 0 ≤ m_tp ∧ m_tp ≤ 300) (hn9 : -2147483648 ≤ n9 ∧ n9 < 2147483648) : zzMet l yX10_end cX10_end 2 (Option.some .boolean) rm_X10_end z [.ref mh, .int (iI n9)] (wMod z mh xT xD xP xR xC xW xA xH xU xB xI xN xM xY xK xL xE xS m_ra m_ca m_tp m_fa m_at m_wr m_va m_pl m_st m_lo m_bl m_bc m_fo m_yl m_yw m_nu m_nl m_lu m_ll m_ln kT kD kP kR kC kW kA kH kU kB kI kN kM kY kK kL kE kS) (po_X10_end z mh xT xD xP xR xC xW xA xH xU xB xI xN xM xY xK xL xE xS m_ra m_ca m_tp m_fa m_at m_wr m_va m_pl m_st m_lo m_bl m_bc m_fo m_yl m_yw m_nu m_nl m_lu m_ll m_ln kT kD kP kR kC kW kA kH kU kB kI kN kM kY kK kL kE kS n9) := by
  refine zzMet.of (own := RX10) (ls0 := [(0, .ref mh), (1, .int (iI n9))]) (by decide) rfl (Nat.le_of_ble_eq_true rfl) rfl ?_
  intro p e s m below meth c A C hr hnm
  refine zz_aload_n C 0 dX10_end_0 rfl rfl ?_
  refine zz_iconst C dX10_end_1 ?_
  refine zz_put (ty := .int) (ws' := wMod z mh xT xD xP xR xC xW xA xH xU xB xI xN xM xY xK xL xE xS 0 m_ca m_tp m_fa m_at m_wr m_va m_pl m_st m_lo m_bl m_bc m_fo m_yl m_yw m_nu m_nl m_lu m_ll m_ln kT kD kP kR kC kW kA kH kU kB kI kN kM kY kK kL kE kS) C 0 (ci := 10) (k := 0) rfl rfl in_X10 tyX10 tyX10_ok nmX10 (by decide) qw_926 rfl rfl (by decide +kernel) rfl rfl (Nat.le_of_ble_eq_true rfl) rfl dX10_end_2 ?_
  refine zz_iload_n C 1 dX10_end_5 rfl rfl ?_
  refine zz_iconst C dX10_end_6 ?_
  refine zz_aload_n C 0 dX10_end_7 rfl rfl ?_
  refine zz_get C 0 (ci := 10) (k := 5) rfl rfl in_X10 (by decide) qw_931 rfl rfl dX10_end_8 ?_
  refine zz_callS (wr := wMod z mh xT xD xP xR xC xW xA xH xU xB xI xN xM xY xK xL xE xS 0 m_ca m_tp m_fa m_at m_wr m_va m_pl m_st m_lo m_bl m_bc m_fo m_yl m_yw m_nu m_nl m_lu m_ll m_ln kT kD kP kR kC kW kA kH kU kB kI kN kM kY kK kL kE kS) (st := []) C (cc_X10_in l z n9 0 m_tp (by omega) (by omega) (by omega)) yk_X10_in qw_1049 ⟨by decide, by decide⟩ [] [0, 1, 2, 3, 4, 5, 6, 7, 8, 9, 10, 11, 12, 13, 14, 15, 16, 17, 18] rfl rfl rfl rfl (by decide) rfl rfl (Nat.le_of_ble_eq_true rfl) dX10_end_11 ⟨by decide, by decide⟩ ?_
  rintro _ _ ⟨q_11, hq_11, rfl, rfl⟩
  refine zz_st (st' := [.int (iI q_11)]) rfl (zz_ws (ws' := wMod z mh xT xD xP xR xC xW xA xH xU xB xI xN xM xY xK xL xE xS 0 m_ca m_tp m_fa m_at m_wr m_va m_pl m_st m_lo m_bl m_bc m_fo m_yl m_yw m_nu m_nl m_lu m_ll m_ln kT kD kP kR kC kW kA kH kU kB kI kN kM kY kK kL kE kS) rfl ?_)
  refine zz_if_ne (tgt := 19) C dX10_end_14 (by decide) (by unfold rI; omega) (fun c14 => ?_) (fun c14 => ?_)
  · skip
    refine zz_aload_n C 0 dX10_end_19 rfl rfl ?_
    refine zz_iload_n C 1 dX10_end_20 rfl rfl ?_
    refine zz_put (ty := .int) (ws' := wMod z mh xT xD xP xR xC xW xA xH xU xB xI xN xM xY xK xL xE xS 0 m_ca n9 m_fa m_at m_wr m_va m_pl m_st m_lo m_bl m_bc m_fo m_yl m_yw m_nu m_nl m_lu m_ll m_ln kT kD kP kR kC kW kA kH kU kB kI kN kM kY kK kL kE kS) C 0 (ci := 10) (k := 5) rfl rfl in_X10 tyX10 tyX10_ok nmX10 (by decide) qw_931 rfl rfl (by decide +kernel) rfl rfl (Nat.le_of_ble_eq_true rfl) rfl dX10_end_21 ?_
    refine zz_iconst C dX10_end_24 ?_
    exact zz_zret C hr (by decide +kernel) dX10_end_25 ⟨1, _, Or.inl ⟨rfl, by omega, rfl⟩, rfl, rfl⟩
  · skip
    refine zz_iconst C dX10_end_17 ?_
    exact zz_zret C hr (by decide +kernel) dX10_end_18 ⟨0, _, Or.inr ⟨rfl, by omega, rfl⟩, rfl, rfl⟩
abbrev po_X10_yields (z : zC) (mh : Nat) (xT : Nat) (xD : Nat) (xP : Nat) (xR : Nat) (xC : Nat) (xW : Nat) (xA : Nat) (xH : Nat) (xU : Nat) (xB : Nat) (xI : Nat) (xN : Nat) (xM : Nat) (xY : Nat) (xK : Nat) (xL : Nat) (xE : Nat) (xS : Nat) (m_ra : Int) (m_ca : Int) (m_tp : Int) (m_fa : Int) (m_at : Int) (m_wr : Int) (m_va : Int) (m_pl : Int) (m_st : Int) (m_lo : Int) (m_bl : Int) (m_bc : Int) (m_fo : Int) (m_yl : Int) (m_yw : Int) (m_nu : Int) (m_nl : Int) (m_lu : Int) (m_ll : Int) (m_ln : Int) (kT : Int → Int) (kD : Int → Int) (kP : Int → Int) (kR : Int → Int) (kC : Int → Int) (kW : Int → Int) (kA : Int → Int) (kH : Int → Int) (kU : Int → Int) (kB : Int → Int) (kI : Int → Int) (kN : Int → Int) (kM : Int → Int) (kY : Int → Int) (kK : Int → Int) (kL : Int → Int) (kE : Int → Int) (kS : Int → Int) (b9 : Int) (d9 : Int) : Option Value → va_W → Prop := fun v w => v = some (Value.int (iI (mYield kT b9 d9))) ∧ w = wMod z mh xT xD xP xR xC xW xA xH xU xB xI xN xM xY xK xL xE xS m_ra m_ca m_tp m_fa m_at m_wr m_va m_pl m_st m_lo m_bl m_bc m_fo m_yl m_yw m_nu m_nl m_lu m_ll m_ln kT kD kP kR kC kW kA kH kU kB kI kN kM kY kK kL kE kS
abbrev rm_X10_yields : Room := { frames := 1, cells := 0, slots := 0, locals := 40 }
set_option maxHeartbeats 4000000 in
set_option maxRecDepth 100000 in
theorem cc_X10_yields (l : Launch) (z : zC) (mh : Nat) (xT : Nat) (xD : Nat) (xP : Nat) (xR : Nat) (xC : Nat) (xW : Nat) (xA : Nat) (xH : Nat) (xU : Nat) (xB : Nat) (xI : Nat) (xN : Nat) (xM : Nat) (xY : Nat) (xK : Nat) (xL : Nat) (xE : Nat) (xS : Nat) (m_ra : Int) (m_ca : Int) (m_tp : Int) (m_fa : Int) (m_at : Int) (m_wr : Int) (m_va : Int) (m_pl : Int) (m_st : Int) (m_lo : Int) (m_bl : Int) (m_bc : Int) (m_fo : Int) (m_yl : Int) (m_yw : Int) (m_nu : Int) (m_nl : Int) (m_lu : Int) (m_ll : Int) (m_ln : Int) (kT : Int → Int) (kD : Int → Int) (kP : Int → Int) (kR : Int → Int) (kC : Int → Int) (kW : Int → Int) (kA : Int → Int) (kH : Int → Int) (kU : Int → Int) (kB : Int → Int) (kI : Int → Int) (kN : Int → Int) (kM : Int → Int) (kY : Int → Int) (kK : Int → Int) (kL : Int → Int) (kE : Int → Int) (kS : Int → Int) (b9 : Int) (d9 : Int) (hkT : mOk kT) (hb9 : 0 ≤ b9 ∧ b9 < 5) (hd9 : -2147483648 ≤ d9 ∧ d9 < 2147483648) : zzMet l yX10_yields cX10_yields 4 (Option.some .int) rm_X10_yields z [.ref mh, .int (iI b9), .int (iI d9)] (wMod z mh xT xD xP xR xC xW xA xH xU xB xI xN xM xY xK xL xE xS m_ra m_ca m_tp m_fa m_at m_wr m_va m_pl m_st m_lo m_bl m_bc m_fo m_yl m_yw m_nu m_nl m_lu m_ll m_ln kT kD kP kR kC kW kA kH kU kB kI kN kM kY kK kL kE kS) (po_X10_yields z mh xT xD xP xR xC xW xA xH xU xB xI xN xM xY xK xL xE xS m_ra m_ca m_tp m_fa m_at m_wr m_va m_pl m_st m_lo m_bl m_bc m_fo m_yl m_yw m_nu m_nl m_lu m_ll m_ln kT kD kP kR kC kW kA kH kU kB kI kN kM kY kK kL kE kS b9 d9) := by
  refine zzMet.of (own := RX10) (ls0 := [(0, .ref mh), (1, .int (iI b9)), (2, .int (iI d9))]) (by decide) rfl (Nat.le_of_ble_eq_true rfl) rfl ?_
  intro p e s m below meth c A C hr hnm
  have r1 := hkT.2.2 (37 + b9) (by omega) (by omega)
  have r2 := hkT.2.2 (22 + b9) (by omega) (by omega)
  have r3 := hkT.2.2 (12 + b9) (by omega) (by omega)
  have r4 := hkT.2.2 (17 + b9) (by omega) (by omega)
  refine zz_aload_n C 0 dX10_yields_0 rfl rfl ?_
  refine zz_get C 0 (ci := 10) (k := 1) rfl rfl in_X10 (by decide) qw_927 rfl rfl dX10_yields_1 ?_
  refine zz_bipush C dX10_yields_4 (by decide +kernel) ?_
  refine zz_iload_n C 1 dX10_yields_6 rfl rfl ?_
  refine zz_iadd C dX10_yields_7 ?_
  refine zz_iald C 1 rfl (by omega) (by omega) (by decide) dX10_yields_8 ?_
  refine zz_if_le (tgt := 24) C dX10_yields_9 (by decide) (by unfold rI; omega) (fun c9 => ?_) (fun c9 => ?_)
  · skip
    refine zz_aload_n C 0 dX10_yields_24 rfl rfl ?_
    refine zz_get C 0 (ci := 10) (k := 1) rfl rfl in_X10 (by decide) qw_927 rfl rfl dX10_yields_25 ?_
    refine zz_bipush C dX10_yields_28 (by decide +kernel) ?_
    refine zz_iload_n C 1 dX10_yields_30 rfl rfl ?_
    refine zz_iadd C dX10_yields_31 ?_
    refine zz_iald C 1 rfl (by omega) (by omega) (by decide) dX10_yields_32 ?_
    have Jn33 : ∀ (en : Int), (en = if 0 < kT (37 + b9) then kT (37 + b9) else kT (22 + b9)) → (0 ≤ en ∧ en ≤ 200) → zzW p l e rm_X10_yields s m ([.ref mh, .int (iI b9), .int (iI d9)] : List Value).toArray below meth c z A 4 (MQ below (zQ z A (po_X10_yields z mh xT xD xP xR xC xW xA xH xU xB xI xN xM xY xK xL xE xS m_ra m_ca m_tp m_fa m_at m_wr m_va m_pl m_st m_lo m_bl m_bc m_fo m_yl m_yw m_nu m_nl m_lu m_ll m_ln kT kD kP kR kC kW kA kH kU kB kI kN kM kY kK kL kE kS b9 d9)) ([.ref mh, .int (iI b9), .int (iI d9)] : List Value).toArray s 0 0 A) 0 0 (wMod z mh xT xD xP xR xC xW xA xH xU xB xI xN xM xY xK xL xE xS m_ra m_ca m_tp m_fa m_at m_wr m_va m_pl m_st m_lo m_bl m_bc m_fo m_yl m_yw m_nu m_nl m_lu m_ll m_ln kT kD kP kR kC kW kA kH kU kB kI kN kM kY kK kL kE kS) [(0, .ref mh), (1, .int (iI b9)), (2, .int (iI d9))] [.int (iI en)] 33 := by
      intro en hen her
      refine zz_istore_n (ls' := [(3, .int (iI en)), (0, .ref mh), (1, .int (iI b9)), (2, .int (iI d9))]) C dX10_yields_33 rfl (by decide) rfl ?_
      refine zz_iload_n C 3 dX10_yields_34 rfl rfl ?_
      refine zz_iload_n C 0 dX10_yields_35 rfl rfl ?_
      refine zz_icmp_le (tgt := 43) C dX10_yields_36 (by decide) (by unfold rI; omega) (by unfold rI; omega) (fun c36 => ?_) (fun c36 => ?_)
      · skip
        refine zz_aload_n C 1 dX10_yields_43 rfl rfl ?_
        refine zz_get C 0 (ci := 10) (k := 1) rfl rfl in_X10 (by decide) qw_927 rfl rfl dX10_yields_44 ?_
        refine zz_bipush C dX10_yields_47 (by decide +kernel) ?_
        refine zz_iload_n C 2 dX10_yields_49 rfl rfl ?_
        refine zz_iadd C dX10_yields_50 ?_
        refine zz_iald C 1 rfl (by omega) (by omega) (by decide) dX10_yields_51 ?_
        refine zz_iload_n C 3 dX10_yields_52 rfl rfl ?_
        refine zz_iload_n C 0 dX10_yields_53 rfl rfl ?_
        refine zz_icmp_ne (tgt := 69) C dX10_yields_54 (by decide) (by unfold rI; omega) (by unfold rI; omega) (fun c54 => ?_) (fun c54 => ?_)
        · skip
          refine zz_iconst C dX10_yields_69 ?_
          refine zz_iadd C dX10_yields_70 ?_
          exact zz_iret C hr dX10_yields_71 ⟨zz_vI (by unfold mYield; rw [← hen]; first | rw [if_pos (by omega)] | rw [if_neg (by omega), if_pos (by omega)] | rw [if_neg (by omega), if_neg (by omega)]), rfl⟩
        · skip
          refine zz_aload_n C 1 dX10_yields_57 rfl rfl ?_
          refine zz_get C 0 (ci := 10) (k := 1) rfl rfl in_X10 (by decide) qw_927 rfl rfl dX10_yields_58 ?_
          refine zz_bipush C dX10_yields_61 (by decide +kernel) ?_
          refine zz_iload_n C 2 dX10_yields_63 rfl rfl ?_
          refine zz_iadd C dX10_yields_64 ?_
          refine zz_iald C 1 rfl (by omega) (by omega) (by decide) dX10_yields_65 ?_
          refine zz_goto (tgt := 70) C dX10_yields_66 (by decide) ?_
          refine zz_iadd C dX10_yields_70 ?_
          exact zz_iret C hr dX10_yields_71 ⟨zz_vI (by unfold mYield; rw [← hen]; first | rw [if_pos (by omega)] | rw [if_neg (by omega), if_pos (by omega)] | rw [if_neg (by omega), if_neg (by omega)]), rfl⟩
      · skip
        refine zz_iconst C dX10_yields_39 ?_
        refine zz_goto (tgt := 71) C dX10_yields_40 (by decide) ?_
        exact zz_iret C hr dX10_yields_71 ⟨zz_vI (by unfold mYield; rw [← hen]; first | rw [if_pos (by omega)] | rw [if_neg (by omega), if_pos (by omega)] | rw [if_neg (by omega), if_neg (by omega)]), rfl⟩
    exact Jn33 (kT (22 + b9)) (by split <;> first | rfl | (exfalso; omega)) (by omega)
  · skip
    refine zz_aload_n C 0 dX10_yields_12 rfl rfl ?_
    refine zz_get C 0 (ci := 10) (k := 1) rfl rfl in_X10 (by decide) qw_927 rfl rfl dX10_yields_13 ?_
    refine zz_bipush C dX10_yields_16 (by decide +kernel) ?_
    refine zz_iload_n C 1 dX10_yields_18 rfl rfl ?_
    refine zz_iadd C dX10_yields_19 ?_
    refine zz_iald C 1 rfl (by omega) (by omega) (by decide) dX10_yields_20 ?_
    refine zz_goto (tgt := 33) C dX10_yields_21 (by decide) ?_
    have Jn33 : ∀ (en : Int), (en = if 0 < kT (37 + b9) then kT (37 + b9) else kT (22 + b9)) → (0 ≤ en ∧ en ≤ 200) → zzW p l e rm_X10_yields s m ([.ref mh, .int (iI b9), .int (iI d9)] : List Value).toArray below meth c z A 4 (MQ below (zQ z A (po_X10_yields z mh xT xD xP xR xC xW xA xH xU xB xI xN xM xY xK xL xE xS m_ra m_ca m_tp m_fa m_at m_wr m_va m_pl m_st m_lo m_bl m_bc m_fo m_yl m_yw m_nu m_nl m_lu m_ll m_ln kT kD kP kR kC kW kA kH kU kB kI kN kM kY kK kL kE kS b9 d9)) ([.ref mh, .int (iI b9), .int (iI d9)] : List Value).toArray s 0 0 A) 0 0 (wMod z mh xT xD xP xR xC xW xA xH xU xB xI xN xM xY xK xL xE xS m_ra m_ca m_tp m_fa m_at m_wr m_va m_pl m_st m_lo m_bl m_bc m_fo m_yl m_yw m_nu m_nl m_lu m_ll m_ln kT kD kP kR kC kW kA kH kU kB kI kN kM kY kK kL kE kS) [(0, .ref mh), (1, .int (iI b9)), (2, .int (iI d9))] [.int (iI en)] 33 := by
      intro en hen her
      refine zz_istore_n (ls' := [(3, .int (iI en)), (0, .ref mh), (1, .int (iI b9)), (2, .int (iI d9))]) C dX10_yields_33 rfl (by decide) rfl ?_
      refine zz_iload_n C 3 dX10_yields_34 rfl rfl ?_
      refine zz_iload_n C 0 dX10_yields_35 rfl rfl ?_
      refine zz_icmp_le (tgt := 43) C dX10_yields_36 (by decide) (by unfold rI; omega) (by unfold rI; omega) (fun c36 => ?_) (fun c36 => ?_)
      · skip
        refine zz_aload_n C 1 dX10_yields_43 rfl rfl ?_
        refine zz_get C 0 (ci := 10) (k := 1) rfl rfl in_X10 (by decide) qw_927 rfl rfl dX10_yields_44 ?_
        refine zz_bipush C dX10_yields_47 (by decide +kernel) ?_
        refine zz_iload_n C 2 dX10_yields_49 rfl rfl ?_
        refine zz_iadd C dX10_yields_50 ?_
        refine zz_iald C 1 rfl (by omega) (by omega) (by decide) dX10_yields_51 ?_
        refine zz_iload_n C 3 dX10_yields_52 rfl rfl ?_
        refine zz_iload_n C 0 dX10_yields_53 rfl rfl ?_
        refine zz_icmp_ne (tgt := 69) C dX10_yields_54 (by decide) (by unfold rI; omega) (by unfold rI; omega) (fun c54 => ?_) (fun c54 => ?_)
        · skip
          refine zz_iconst C dX10_yields_69 ?_
          refine zz_iadd C dX10_yields_70 ?_
          exact zz_iret C hr dX10_yields_71 ⟨zz_vI (by unfold mYield; rw [← hen]; first | rw [if_pos (by omega)] | rw [if_neg (by omega), if_pos (by omega)] | rw [if_neg (by omega), if_neg (by omega)]), rfl⟩
        · skip
          refine zz_aload_n C 1 dX10_yields_57 rfl rfl ?_
          refine zz_get C 0 (ci := 10) (k := 1) rfl rfl in_X10 (by decide) qw_927 rfl rfl dX10_yields_58 ?_
          refine zz_bipush C dX10_yields_61 (by decide +kernel) ?_
          refine zz_iload_n C 2 dX10_yields_63 rfl rfl ?_
          refine zz_iadd C dX10_yields_64 ?_
          refine zz_iald C 1 rfl (by omega) (by omega) (by decide) dX10_yields_65 ?_
          refine zz_goto (tgt := 70) C dX10_yields_66 (by decide) ?_
          refine zz_iadd C dX10_yields_70 ?_
          exact zz_iret C hr dX10_yields_71 ⟨zz_vI (by unfold mYield; rw [← hen]; first | rw [if_pos (by omega)] | rw [if_neg (by omega), if_pos (by omega)] | rw [if_neg (by omega), if_neg (by omega)]), rfl⟩
      · skip
        refine zz_iconst C dX10_yields_39 ?_
        refine zz_goto (tgt := 71) C dX10_yields_40 (by decide) ?_
        exact zz_iret C hr dX10_yields_71 ⟨zz_vI (by unfold mYield; rw [← hen]; first | rw [if_pos (by omega)] | rw [if_neg (by omega), if_pos (by omega)] | rw [if_neg (by omega), if_neg (by omega)]), rfl⟩
    exact Jn33 (kT (37 + b9)) (by split <;> first | rfl | (exfalso; omega)) (by omega)
abbrev po_X10_count (z : zC) (mh : Nat) (xT : Nat) (xD : Nat) (xP : Nat) (xR : Nat) (xC : Nat) (xW : Nat) (xA : Nat) (xH : Nat) (xU : Nat) (xB : Nat) (xI : Nat) (xN : Nat) (xM : Nat) (xY : Nat) (xK : Nat) (xL : Nat) (xE : Nat) (xS : Nat) (m_ra : Int) (m_ca : Int) (m_tp : Int) (m_fa : Int) (m_at : Int) (m_wr : Int) (m_va : Int) (m_pl : Int) (m_st : Int) (m_lo : Int) (m_bl : Int) (m_bc : Int) (m_fo : Int) (m_yl : Int) (m_yw : Int) (m_nu : Int) (m_nl : Int) (m_lu : Int) (m_ll : Int) (m_ln : Int) (kT : Int → Int) (kD : Int → Int) (kP : Int → Int) (kR : Int → Int) (kC : Int → Int) (kW : Int → Int) (kA : Int → Int) (kH : Int → Int) (kU : Int → Int) (kB : Int → Int) (kI : Int → Int) (kN : Int → Int) (kM : Int → Int) (kY : Int → Int) (kK : Int → Int) (kL : Int → Int) (kE : Int → Int) (kS : Int → Int) (w9 : Int) : Option Value → va_W → Prop := fun v w => v = some (Value.int (iI (mCount kT m_tp m_ca w9))) ∧ w = wMod z mh xT xD xP xR xC xW xA xH xU xB xI xN xM xY xK xL xE xS 0 m_ca m_tp m_fa m_at m_wr m_va m_pl m_st m_lo m_bl m_bc m_fo m_yl m_yw m_nu m_nl m_lu m_ll m_ln kT kD kP kR kC kW kA kH kU kB kI kN kM kY kK kL kE kS
abbrev rm_X10_count : Room := { frames := 1, cells := 0, slots := 0, locals := 40 }
set_option maxHeartbeats 4000000 in
set_option maxRecDepth 100000 in
theorem cc_X10_count (l : Launch) (z : zC) (mh : Nat) (xT : Nat) (xD : Nat) (xP : Nat) (xR : Nat) (xC : Nat) (xW : Nat) (xA : Nat) (xH : Nat) (xU : Nat) (xB : Nat) (xI : Nat) (xN : Nat) (xM : Nat) (xY : Nat) (xK : Nat) (xL : Nat) (xE : Nat) (xS : Nat) (m_ra : Int) (m_ca : Int) (m_tp : Int) (m_fa : Int) (m_at : Int) (m_wr : Int) (m_va : Int) (m_pl : Int) (m_st : Int) (m_lo : Int) (m_bl : Int) (m_bc : Int) (m_fo : Int) (m_yl : Int) (m_yw : Int) (m_nu : Int) (m_nl : Int) (m_lu : Int) (m_ll : Int) (m_ln : Int) (kT : Int → Int) (kD : Int → Int) (kP : Int → Int) (kR : Int → Int) (kC : Int → Int) (kW : Int → Int) (kA : Int → Int) (kH : Int → Int) (kU : Int → Int) (kB : Int → Int) (kI : Int → Int) (kN : Int → Int) (kM : Int → Int) (kY : Int → Int) (kK : Int → Int) (kL : Int → Int) (kE : Int → Int) (kS : Int → Int) (w9 : Int) (hw9 : -2147483648 ≤ w9 ∧ w9 < 2147483648) : zzMet l yX10_count cX10_count 2 (Option.some .int) rm_X10_count z [.ref mh, .int (iI w9)] (wMod z mh xT xD xP xR xC xW xA xH xU xB xI xN xM xY xK xL xE xS m_ra m_ca m_tp m_fa m_at m_wr m_va m_pl m_st m_lo m_bl m_bc m_fo m_yl m_yw m_nu m_nl m_lu m_ll m_ln kT kD kP kR kC kW kA kH kU kB kI kN kM kY kK kL kE kS) (po_X10_count z mh xT xD xP xR xC xW xA xH xU xB xI xN xM xY xK xL xE xS m_ra m_ca m_tp m_fa m_at m_wr m_va m_pl m_st m_lo m_bl m_bc m_fo m_yl m_yw m_nu m_nl m_lu m_ll m_ln kT kD kP kR kC kW kA kH kU kB kI kN kM kY kK kL kE kS w9) := by
  refine zzMet.of (own := RX10) (ls0 := [(0, .ref mh), (1, .int (iI w9))]) (by decide) rfl (Nat.le_of_ble_eq_true rfl) rfl ?_
  intro p e s m below meth c A C hr hnm
  refine zz_aload_n C 0 dX10_count_0 rfl rfl ?_
  refine zz_iconst C dX10_count_1 ?_
  refine zz_put (ty := .int) (ws' := wMod z mh xT xD xP xR xC xW xA xH xU xB xI xN xM xY xK xL xE xS 0 m_ca m_tp m_fa m_at m_wr m_va m_pl m_st m_lo m_bl m_bc m_fo m_yl m_yw m_nu m_nl m_lu m_ll m_ln kT kD kP kR kC kW kA kH kU kB kI kN kM kY kK kL kE kS) C 0 (ci := 10) (k := 0) rfl rfl in_X10 tyX10 tyX10_ok nmX10 (by decide) qw_926 rfl rfl (by decide +kernel) rfl rfl (Nat.le_of_ble_eq_true rfl) rfl dX10_count_2 ?_
  refine zz_iload_n C 1 dX10_count_5 rfl rfl ?_
  rcases (show w9 = 0 ∨ w9 = 1 ∨ w9 = 2 ∨ w9 = 3 ∨ (w9 < 0 ∨ 3 < w9) by omega) with c6 | c6 | c6 | c6 | c6
  · skip
    refine zz_tabIn (tgt := 36) C 0 dX10_count_6 c6 (by unfold rI; omega) (by decide) (by decide) rfl (by decide) ?_
    refine zz_aload_n C 0 dX10_count_36 rfl rfl ?_
    refine zz_get C 0 (ci := 10) (k := 1) rfl rfl in_X10 (by decide) qw_927 rfl rfl dX10_count_37 ?_
    refine zz_iconst C dX10_count_40 ?_
    refine zz_iald C 1 rfl (by omega) (by omega) (by decide) dX10_count_41 ?_
    exact zz_iret C hr dX10_count_42 ⟨zz_vI (by unfold mCount; (repeat' split) <;> first | rfl | (exfalso; omega)), rfl⟩
  · skip
    refine zz_tabIn (tgt := 43) C 1 dX10_count_6 c6 (by unfold rI; omega) (by decide) (by decide) rfl (by decide) ?_
    refine zz_aload_n C 0 dX10_count_43 rfl rfl ?_
    refine zz_get C 0 (ci := 10) (k := 1) rfl rfl in_X10 (by decide) qw_927 rfl rfl dX10_count_44 ?_
    refine zz_iconst C dX10_count_47 ?_
    refine zz_iald C 1 rfl (by omega) (by omega) (by decide) dX10_count_48 ?_
    exact zz_iret C hr dX10_count_49 ⟨zz_vI (by unfold mCount; (repeat' split) <;> first | rfl | (exfalso; omega)), rfl⟩
  · skip
    refine zz_tabIn (tgt := 50) C 2 dX10_count_6 c6 (by unfold rI; omega) (by decide) (by decide) rfl (by decide) ?_
    refine zz_aload_n C 0 dX10_count_50 rfl rfl ?_
    refine zz_get C 0 (ci := 10) (k := 5) rfl rfl in_X10 (by decide) qw_931 rfl rfl dX10_count_51 ?_
    exact zz_iret C hr dX10_count_54 ⟨zz_vI (by unfold mCount; (repeat' split) <;> first | rfl | (exfalso; omega)), rfl⟩
  · skip
    refine zz_tabIn (tgt := 55) C 3 dX10_count_6 c6 (by unfold rI; omega) (by decide) (by decide) rfl (by decide) ?_
    refine zz_aload_n C 0 dX10_count_55 rfl rfl ?_
    refine zz_get C 0 (ci := 10) (k := 3) rfl rfl in_X10 (by decide) qw_929 rfl rfl dX10_count_56 ?_
    exact zz_iret C hr dX10_count_59 ⟨zz_vI (by unfold mCount; (repeat' split) <;> first | rfl | (exfalso; omega)), rfl⟩
  · skip
    refine zz_tabOut (tgt := 60) C dX10_count_6 (by unfold rI; omega) c6 (by decide) ?_
    refine zz_iconst C dX10_count_60 ?_
    exact zz_iret C hr dX10_count_61 ⟨zz_vI (by unfold mCount; (repeat' split) <;> first | rfl | (exfalso; omega)), rfl⟩
abbrev po_X10_date (z : zC) (mh : Nat) (xT : Nat) (xD : Nat) (xP : Nat) (xR : Nat) (xC : Nat) (xW : Nat) (xA : Nat) (xH : Nat) (xU : Nat) (xB : Nat) (xI : Nat) (xN : Nat) (xM : Nat) (xY : Nat) (xK : Nat) (xL : Nat) (xE : Nat) (xS : Nat) (m_ra : Int) (m_ca : Int) (m_tp : Int) (m_fa : Int) (m_at : Int) (m_wr : Int) (m_va : Int) (m_pl : Int) (m_st : Int) (m_lo : Int) (m_bl : Int) (m_bc : Int) (m_fo : Int) (m_yl : Int) (m_yw : Int) (m_nu : Int) (m_nl : Int) (m_lu : Int) (m_ll : Int) (m_ln : Int) (kT : Int → Int) (kD : Int → Int) (kP : Int → Int) (kR : Int → Int) (kC : Int → Int) (kW : Int → Int) (kA : Int → Int) (kH : Int → Int) (kU : Int → Int) (kB : Int → Int) (kI : Int → Int) (kN : Int → Int) (kM : Int → Int) (kY : Int → Int) (kK : Int → Int) (kL : Int → Int) (kE : Int → Int) (kS : Int → Int) (d9 : Int) (w9 : Int) : Option Value → va_W → Prop := fun v w => v = some (Value.int (iI (mDate kT d9 w9))) ∧ w = wMod z mh xT xD xP xR xC xW xA xH xU xB xI xN xM xY xK xL xE xS 0 m_ca m_tp m_fa m_at m_wr m_va m_pl m_st m_lo m_bl m_bc m_fo m_yl m_yw m_nu m_nl m_lu m_ll m_ln kT kD kP kR kC kW kA kH kU kB kI kN kM kY kK kL kE kS
abbrev rm_X10_date : Room := { frames := 2, cells := 0, slots := 0, locals := 62 }
set_option maxHeartbeats 4000000 in
set_option maxRecDepth 100000 in
theorem cc_X10_date (l : Launch) (z : zC) (mh : Nat) (xT : Nat) (xD : Nat) (xP : Nat) (xR : Nat) (xC : Nat) (xW : Nat) (xA : Nat) (xH : Nat) (xU : Nat) (xB : Nat) (xI : Nat) (xN : Nat) (xM : Nat) (xY : Nat) (xK : Nat) (xL : Nat) (xE : Nat) (xS : Nat) (m_ra : Int) (m_ca : Int) (m_tp : Int) (m_fa : Int) (m_at : Int) (m_wr : Int) (m_va : Int) (m_pl : Int) (m_st : Int) (m_lo : Int) (m_bl : Int) (m_bc : Int) (m_fo : Int) (m_yl : Int) (m_yw : Int) (m_nu : Int) (m_nl : Int) (m_lu : Int) (m_ll : Int) (m_ln : Int) (kT : Int → Int) (kD : Int → Int) (kP : Int → Int) (kR : Int → Int) (kC : Int → Int) (kW : Int → Int) (kA : Int → Int) (kH : Int → Int) (kU : Int → Int) (kB : Int → Int) (kI : Int → Int) (kN : Int → Int) (kM : Int → Int) (kY : Int → Int) (kK : Int → Int) (kL : Int → Int) (kE : Int → Int) (kS : Int → Int) (d9 : Int) (w9 : Int) (hkT : mOk kT) (hd9 : -2147483648 ≤ d9 ∧ d9 < 2147483648) (hw9 : -2147483648 ≤ w9 ∧ w9 < 2147483648) : zzMet l yX10_date cX10_date 3 (Option.some .int) rm_X10_date z [.ref mh, .int (iI d9), .int (iI w9)] (wMod z mh xT xD xP xR xC xW xA xH xU xB xI xN xM xY xK xL xE xS m_ra m_ca m_tp m_fa m_at m_wr m_va m_pl m_st m_lo m_bl m_bc m_fo m_yl m_yw m_nu m_nl m_lu m_ll m_ln kT kD kP kR kC kW kA kH kU kB kI kN kM kY kK kL kE kS) (po_X10_date z mh xT xD xP xR xC xW xA xH xU xB xI xN xM xY xK xL xE xS m_ra m_ca m_tp m_fa m_at m_wr m_va m_pl m_st m_lo m_bl m_bc m_fo m_yl m_yw m_nu m_nl m_lu m_ll m_ln kT kD kP kR kC kW kA kH kU kB kI kN kM kY kK kL kE kS d9 w9) := by
  refine zzMet.of (own := RX10) (ls0 := [(0, .ref mh), (1, .int (iI d9)), (2, .int (iI w9))]) (by decide) rfl (Nat.le_of_ble_eq_true rfl) rfl ?_
  intro p e s m below meth c A C hr hnm
  have hk0 := hkT.1
  have hk1 := hkT.2.1
  refine zz_aload_n C 0 dX10_date_0 rfl rfl ?_
  refine zz_iconst C dX10_date_1 ?_
  refine zz_put (ty := .int) (ws' := wMod z mh xT xD xP xR xC xW xA xH xU xB xI xN xM xY xK xL xE xS 0 m_ca m_tp m_fa m_at m_wr m_va m_pl m_st m_lo m_bl m_bc m_fo m_yl m_yw m_nu m_nl m_lu m_ll m_ln kT kD kP kR kC kW kA kH kU kB kI kN kM kY kK kL kE kS) C 0 (ci := 10) (k := 0) rfl rfl in_X10 tyX10 tyX10_ok nmX10 (by decide) qw_926 rfl rfl (by decide +kernel) rfl rfl (Nat.le_of_ble_eq_true rfl) rfl dX10_date_2 ?_
  refine zz_iload_n C 1 dX10_date_5 rfl rfl ?_
  refine zz_iconst C dX10_date_6 ?_
  refine zz_aload_n C 0 dX10_date_7 rfl rfl ?_
  refine zz_get C 0 (ci := 10) (k := 1) rfl rfl in_X10 (by decide) qw_927 rfl rfl dX10_date_8 ?_
  refine zz_iconst C dX10_date_11 ?_
  refine zz_iald C 1 rfl (by omega) (by omega) (by decide) dX10_date_12 ?_
  refine zz_callS (wr := wMod z mh xT xD xP xR xC xW xA xH xU xB xI xN xM xY xK xL xE xS 0 m_ca m_tp m_fa m_at m_wr m_va m_pl m_st m_lo m_bl m_bc m_fo m_yl m_yw m_nu m_nl m_lu m_ll m_ln kT kD kP kR kC kW kA kH kU kB kI kN kM kY kK kL kE kS) (st := []) C (cc_X10_in l z d9 1 (kT 0) (by omega) (by omega) (by omega)) yk_X10_in qw_1049 ⟨by decide, by decide⟩ [] [0, 1, 2, 3, 4, 5, 6, 7, 8, 9, 10, 11, 12, 13, 14, 15, 16, 17, 18] rfl rfl rfl rfl (by decide) rfl rfl (Nat.le_of_ble_eq_true rfl) dX10_date_13 ⟨by decide, by decide⟩ ?_
  rintro _ _ ⟨q_13, hq_13, rfl, rfl⟩
  refine zz_st (st' := [.int (iI q_13)]) rfl (zz_ws (ws' := wMod z mh xT xD xP xR xC xW xA xH xU xB xI xN xM xY xK xL xE xS 0 m_ca m_tp m_fa m_at m_wr m_va m_pl m_st m_lo m_bl m_bc m_fo m_yl m_yw m_nu m_nl m_lu m_ll m_ln kT kD kP kR kC kW kA kH kU kB kI kN kM kY kK kL kE kS) rfl ?_)
  refine zz_if_eq (tgt := 48) C dX10_date_16 (by decide) (by unfold rI; omega) (fun c16 => ?_) (fun c16 => ?_)
  · skip
    refine zz_iconst C dX10_date_48 ?_
    exact zz_iret C hr dX10_date_49 ⟨zz_vI (by unfold mDate; (repeat' split) <;> first | rfl | (exfalso; omega)), rfl⟩
  · skip
    refine zz_iload_n C 2 dX10_date_19 rfl rfl ?_
    refine zz_iconst C dX10_date_20 ?_
    refine zz_iconst C dX10_date_21 ?_
    refine zz_callS (wr := wMod z mh xT xD xP xR xC xW xA xH xU xB xI xN xM xY xK xL xE xS 0 m_ca m_tp m_fa m_at m_wr m_va m_pl m_st m_lo m_bl m_bc m_fo m_yl m_yw m_nu m_nl m_lu m_ll m_ln kT kD kP kR kC kW kA kH kU kB kI kN kM kY kK kL kE kS) (st := []) C (cc_X10_in l z w9 0 1 (by omega) (by omega) (by omega)) yk_X10_in qw_1049 ⟨by decide, by decide⟩ [] [0, 1, 2, 3, 4, 5, 6, 7, 8, 9, 10, 11, 12, 13, 14, 15, 16, 17, 18] rfl rfl rfl rfl (by decide) rfl rfl (Nat.le_of_ble_eq_true rfl) dX10_date_22 ⟨by decide, by decide⟩ ?_
    rintro _ _ ⟨q_22, hq_22, rfl, rfl⟩
    refine zz_st (st' := [.int (iI q_22)]) rfl (zz_ws (ws' := wMod z mh xT xD xP xR xC xW xA xH xU xB xI xN xM xY xK xL xE xS 0 m_ca m_tp m_fa m_at m_wr m_va m_pl m_st m_lo m_bl m_bc m_fo m_yl m_yw m_nu m_nl m_lu m_ll m_ln kT kD kP kR kC kW kA kH kU kB kI kN kM kY kK kL kE kS) rfl ?_)
    refine zz_if_eq (tgt := 48) C dX10_date_25 (by decide) (by unfold rI; omega) (fun c25 => ?_) (fun c25 => ?_)
    · skip
      refine zz_iconst C dX10_date_48 ?_
      exact zz_iret C hr dX10_date_49 ⟨zz_vI (by unfold mDate; (repeat' split) <;> first | rfl | (exfalso; omega)), rfl⟩
    · skip
      refine zz_aload_n C 0 dX10_date_28 rfl rfl ?_
      refine zz_get C 0 (ci := 10) (k := 1) rfl rfl in_X10 (by decide) qw_927 rfl rfl dX10_date_29 ?_
      refine zz_iload_n C 2 dX10_date_32 rfl rfl ?_
      refine zz_if_ne (tgt := 40) C dX10_date_33 (by decide) (by unfold rI; omega) (fun c33 => ?_) (fun c33 => ?_)
      · skip
        refine zz_bipush C dX10_date_40 (by decide +kernel) ?_
        refine zz_iload_n C 1 dX10_date_42 rfl rfl ?_
        refine zz_iadd C dX10_date_43 ?_
        refine zz_iald C 1 rfl (by omega) (by omega) (by decide) dX10_date_44 ?_
        refine zz_goto (tgt := 49) C dX10_date_45 (by decide) ?_
        exact zz_iret C hr dX10_date_49 ⟨zz_vI (by unfold mDate; (repeat' split) <;> first | rfl | (exfalso; omega)), rfl⟩
      · skip
        refine zz_iconst C dX10_date_36 ?_
        refine zz_goto (tgt := 42) C dX10_date_37 (by decide) ?_
        refine zz_iload_n C 1 dX10_date_42 rfl rfl ?_
        refine zz_iadd C dX10_date_43 ?_
        refine zz_iald C 1 rfl (by omega) (by omega) (by decide) dX10_date_44 ?_
        refine zz_goto (tgt := 49) C dX10_date_45 (by decide) ?_
        exact zz_iret C hr dX10_date_49 ⟨zz_vI (by unfold mDate; (repeat' split) <;> first | rfl | (exfalso; omega)), rfl⟩
abbrev po_X10_told (z : zC) (mh : Nat) (xT : Nat) (xD : Nat) (xP : Nat) (xR : Nat) (xC : Nat) (xW : Nat) (xA : Nat) (xH : Nat) (xU : Nat) (xB : Nat) (xI : Nat) (xN : Nat) (xM : Nat) (xY : Nat) (xK : Nat) (xL : Nat) (xE : Nat) (xS : Nat) (m_ra : Int) (m_ca : Int) (m_tp : Int) (m_fa : Int) (m_at : Int) (m_wr : Int) (m_va : Int) (m_pl : Int) (m_st : Int) (m_lo : Int) (m_bl : Int) (m_bc : Int) (m_fo : Int) (m_yl : Int) (m_yw : Int) (m_nu : Int) (m_nl : Int) (m_lu : Int) (m_ll : Int) (m_ln : Int) (kT : Int → Int) (kD : Int → Int) (kP : Int → Int) (kR : Int → Int) (kC : Int → Int) (kW : Int → Int) (kA : Int → Int) (kH : Int → Int) (kU : Int → Int) (kB : Int → Int) (kI : Int → Int) (kN : Int → Int) (kM : Int → Int) (kY : Int → Int) (kK : Int → Int) (kL : Int → Int) (kE : Int → Int) (kS : Int → Int) (b9 : Int) (w9 : Int) : Option Value → va_W → Prop := fun v w => ∃ (q : Int), ∃ (qr : Int), ((mToldOk kT b9 w9 ∧ qr = 0 ∧ q = mTold kT b9 w9) ∨ (¬ mToldOk kT b9 w9 ∧ qr = 1 ∧ q = 0)) ∧ v = some (Value.int (iI q)) ∧ w = wMod z mh xT xD xP xR xC xW xA xH xU xB xI xN xM xY xK xL xE xS qr m_ca m_tp m_fa m_at m_wr m_va m_pl m_st m_lo m_bl m_bc m_fo m_yl m_yw m_nu m_nl m_lu m_ll m_ln kT kD kP kR kC kW kA kH kU kB kI kN kM kY kK kL kE kS
abbrev rm_X10_told : Room := { frames := 2, cells := 0, slots := 0, locals := 63 }
set_option maxHeartbeats 4000000 in
set_option maxRecDepth 100000 in
theorem cc_X10_told (l : Launch) (z : zC) (mh : Nat) (xT : Nat) (xD : Nat) (xP : Nat) (xR : Nat) (xC : Nat) (xW : Nat) (xA : Nat) (xH : Nat) (xU : Nat) (xB : Nat) (xI : Nat) (xN : Nat) (xM : Nat) (xY : Nat) (xK : Nat) (xL : Nat) (xE : Nat) (xS : Nat) (m_ra : Int) (m_ca : Int) (m_tp : Int) (m_fa : Int) (m_at : Int) (m_wr : Int) (m_va : Int) (m_pl : Int) (m_st : Int) (m_lo : Int) (m_bl : Int) (m_bc : Int) (m_fo : Int) (m_yl : Int) (m_yw : Int) (m_nu : Int) (m_nl : Int) (m_lu : Int) (m_ll : Int) (m_ln : Int) (kT : Int → Int) (kD : Int → Int) (kP : Int → Int) (kR : Int → Int) (kC : Int → Int) (kW : Int → Int) (kA : Int → Int) (kH : Int → Int) (kU : Int → Int) (kB : Int → Int) (kI : Int → Int) (kN : Int → Int) (kM : Int → Int) (kY : Int → Int) (kK : Int → Int) (kL : Int → Int) (kE : Int → Int) (kS : Int → Int) (b9 : Int) (w9 : Int) (hkT : mOk kT) (hb9 : -2147483648 ≤ b9 ∧ b9 < 2147483648) (hw9 : -2147483648 ≤ w9 ∧ w9 < 2147483648) : zzMet l yX10_told cX10_told 4 (Option.some .int) rm_X10_told z [.ref mh, .int (iI b9), .int (iI w9)] (wMod z mh xT xD xP xR xC xW xA xH xU xB xI xN xM xY xK xL xE xS m_ra m_ca m_tp m_fa m_at m_wr m_va m_pl m_st m_lo m_bl m_bc m_fo m_yl m_yw m_nu m_nl m_lu m_ll m_ln kT kD kP kR kC kW kA kH kU kB kI kN kM kY kK kL kE kS) (po_X10_told z mh xT xD xP xR xC xW xA xH xU xB xI xN xM xY xK xL xE xS m_ra m_ca m_tp m_fa m_at m_wr m_va m_pl m_st m_lo m_bl m_bc m_fo m_yl m_yw m_nu m_nl m_lu m_ll m_ln kT kD kP kR kC kW kA kH kU kB kI kN kM kY kK kL kE kS b9 w9) := by
  refine zzMet.of (own := RX10) (ls0 := [(0, .ref mh), (1, .int (iI b9)), (2, .int (iI w9))]) (by decide) rfl (Nat.le_of_ble_eq_true rfl) rfl ?_
  intro p e s m below meth c A C hr hnm
  have hk0 := hkT.1
  have hk1 := hkT.2.1
  refine zz_iload_n C 1 dX10_told_0 rfl rfl ?_
  refine zz_iconst C dX10_told_1 ?_
  refine zz_aload_n C 0 dX10_told_2 rfl rfl ?_
  refine zz_get C 0 (ci := 10) (k := 1) rfl rfl in_X10 (by decide) qw_927 rfl rfl dX10_told_3 ?_
  refine zz_iconst C dX10_told_6 ?_
  refine zz_iald C 1 rfl (by omega) (by omega) (by decide) dX10_told_7 ?_
  refine zz_iconst C dX10_told_8 ?_
  refine zz_isub C dX10_told_9 ?_
  refine zz_callS (wr := wMod z mh xT xD xP xR xC xW xA xH xU xB xI xN xM xY xK xL xE xS m_ra m_ca m_tp m_fa m_at m_wr m_va m_pl m_st m_lo m_bl m_bc m_fo m_yl m_yw m_nu m_nl m_lu m_ll m_ln kT kD kP kR kC kW kA kH kU kB kI kN kM kY kK kL kE kS) (st := []) C (cc_X10_in l z b9 0 ((kT 1) - 1) (by omega) (by omega) (by omega)) yk_X10_in qw_1049 ⟨by decide, by decide⟩ [] [0, 1, 2, 3, 4, 5, 6, 7, 8, 9, 10, 11, 12, 13, 14, 15, 16, 17, 18] rfl rfl rfl rfl (by decide) rfl rfl (Nat.le_of_ble_eq_true rfl) dX10_told_10 ⟨by decide, by decide⟩ ?_
  rintro _ _ ⟨q_10, hq_10, rfl, rfl⟩
  refine zz_st (st' := [.int (iI q_10)]) rfl (zz_ws (ws' := wMod z mh xT xD xP xR xC xW xA xH xU xB xI xN xM xY xK xL xE xS m_ra m_ca m_tp m_fa m_at m_wr m_va m_pl m_st m_lo m_bl m_bc m_fo m_yl m_yw m_nu m_nl m_lu m_ll m_ln kT kD kP kR kC kW kA kH kU kB kI kN kM kY kK kL kE kS) rfl ?_)
  refine zz_istore_n (ls' := [(3, .int (iI q_10)), (0, .ref mh), (1, .int (iI b9)), (2, .int (iI w9))]) C dX10_told_13 rfl (by decide) rfl ?_
  refine zz_aload_n C 1 dX10_told_14 rfl rfl ?_
  refine zz_iload_n C 0 dX10_told_15 rfl rfl ?_
  refine zz_if_eq (tgt := 51) C dX10_told_16 (by decide) (by unfold rI; omega) (fun c16 => ?_) (fun c16 => ?_)
  · skip
    refine zz_iconst C dX10_told_51 ?_
    have Jn52 : ∀ (rs : Int), ((rs = 0 ∧ mToldOk kT b9 w9) ∨ (rs = 1 ∧ ¬ mToldOk kT b9 w9)) → zzW p l e rm_X10_told s m ([.ref mh, .int (iI b9), .int (iI w9)] : List Value).toArray below meth c z A 4 (MQ below (zQ z A (po_X10_told z mh xT xD xP xR xC xW xA xH xU xB xI xN xM xY xK xL xE xS m_ra m_ca m_tp m_fa m_at m_wr m_va m_pl m_st m_lo m_bl m_bc m_fo m_yl m_yw m_nu m_nl m_lu m_ll m_ln kT kD kP kR kC kW kA kH kU kB kI kN kM kY kK kL kE kS b9 w9)) ([.ref mh, .int (iI b9), .int (iI w9)] : List Value).toArray s 0 0 A) 0 0 (wMod z mh xT xD xP xR xC xW xA xH xU xB xI xN xM xY xK xL xE xS m_ra m_ca m_tp m_fa m_at m_wr m_va m_pl m_st m_lo m_bl m_bc m_fo m_yl m_yw m_nu m_nl m_lu m_ll m_ln kT kD kP kR kC kW kA kH kU kB kI kN kM kY kK kL kE kS) [(0, .ref mh), (1, .int (iI b9)), (2, .int (iI w9)), (3, .int (iI q_10))] [.int (iI rs), .ref mh] 52 := by
      intro rs hrs
      unfold mToldOk at hrs
      refine zz_put (ty := .int) (ws' := wMod z mh xT xD xP xR xC xW xA xH xU xB xI xN xM xY xK xL xE xS rs m_ca m_tp m_fa m_at m_wr m_va m_pl m_st m_lo m_bl m_bc m_fo m_yl m_yw m_nu m_nl m_lu m_ll m_ln kT kD kP kR kC kW kA kH kU kB kI kN kM kY kK kL kE kS) C 0 (ci := 10) (k := 0) rfl rfl in_X10 tyX10 tyX10_ok nmX10 (by decide) qw_926 rfl rfl (by decide +kernel) rfl rfl (Nat.le_of_ble_eq_true rfl) rfl dX10_told_52 ?_
      refine zz_aload_n C 0 dX10_told_55 rfl rfl ?_
      refine zz_get C 0 (ci := 10) (k := 0) rfl rfl in_X10 (by decide) qw_926 rfl rfl dX10_told_56 ?_
      refine zz_if_le (tgt := 64) C dX10_told_59 (by decide) (by unfold rI; omega) (fun c59 => ?_) (fun c59 => ?_)
      · skip
        refine zz_iload_n C 2 dX10_told_64 rfl rfl ?_
        refine zz_bipush C dX10_told_65 (by decide +kernel) ?_
        refine zz_icmp_le (tgt := 82) C dX10_told_67 (by decide) (by unfold rI; omega) (by unfold rI; omega) (fun c67 => ?_) (fun c67 => ?_)
        · skip
          refine zz_aload_n C 0 dX10_told_82 rfl rfl ?_
          refine zz_get C 0 (ci := 10) (k := 1) rfl rfl in_X10 (by decide) qw_927 rfl rfl dX10_told_83 ?_
          refine zz_bipush C dX10_told_86 (by decide +kernel) ?_
          refine zz_iconst C dX10_told_88 ?_
          refine zz_iload_n C 2 dX10_told_89 rfl rfl ?_
          refine zz_imul C dX10_told_90 ?_
          refine zz_iadd C dX10_told_91 ?_
          refine zz_iload_n C 1 dX10_told_92 rfl rfl ?_
          refine zz_iadd C dX10_told_93 ?_
          refine zz_iald C 1 rfl (by omega) (by omega) (by decide) dX10_told_94 ?_
          exact zz_iret C hr dX10_told_95 ⟨_, rs, Or.inl ⟨by unfold mToldOk; omega, by omega, by unfold mTold; first | (exfalso; omega) | rw [if_pos (by omega)] | rw [if_neg (by omega)]⟩, rfl, rfl⟩
        · skip
          refine zz_aload_n C 0 dX10_told_70 rfl rfl ?_
          refine zz_iload_n C 1 dX10_told_71 rfl rfl ?_
          refine zz_iload_n C 2 dX10_told_72 rfl rfl ?_
          refine zz_bipush C dX10_told_73 (by decide +kernel) ?_
          refine zz_isub C dX10_told_75 ?_
          refine zz_callV (wr := ([] : va_W)) (st := []) C (cc_X10_yields l z mh xT xD xP xR xC xW xA xH xU xB xI xN xM xY xK xL xE xS rs m_ca m_tp m_fa m_at m_wr m_va m_pl m_st m_lo m_bl m_bc m_fo m_yl m_yw m_nu m_nl m_lu m_ll m_ln kT kD kP kR kC kW kA kH kU kB kI kN kM kY kK kL kE kS b9 (w9 - 10) (by omega) (by omega) (by omega)) yk_X10_yields qw_1180 ⟨by decide, by decide⟩ [0, 1, 2, 3, 4, 5, 6, 7, 8, 9, 10, 11, 12, 13, 14, 15, 16, 17, 18] [] rfl rfl rfl rfl (by decide) 0 10 rfl rfl rfl rfl (Nat.le_of_ble_eq_true rfl) dX10_told_76 ⟨by decide, by decide⟩ ?_
          rintro _ _ ⟨rfl, rfl⟩
          refine zz_st (st' := [.int (iI (mYield kT b9 (w9 - 10)))]) rfl (zz_ws (ws' := wMod z mh xT xD xP xR xC xW xA xH xU xB xI xN xM xY xK xL xE xS rs m_ca m_tp m_fa m_at m_wr m_va m_pl m_st m_lo m_bl m_bc m_fo m_yl m_yw m_nu m_nl m_lu m_ll m_ln kT kD kP kR kC kW kA kH kU kB kI kN kM kY kK kL kE kS) rfl ?_)
          refine zz_goto (tgt := 95) C dX10_told_79 (by decide) ?_
          exact zz_iret C hr dX10_told_95 ⟨_, rs, Or.inl ⟨by unfold mToldOk; omega, by omega, by unfold mTold; first | (exfalso; omega) | rw [if_pos (by omega)] | rw [if_neg (by omega)]⟩, rfl, rfl⟩
      · skip
        refine zz_iconst C dX10_told_62 ?_
        exact zz_iret C hr dX10_told_63 ⟨_, rs, Or.inr ⟨by unfold mToldOk; omega, by omega, rfl⟩, rfl, rfl⟩
    refine zz_loc (ls' := [(0, .ref mh), (1, .int (iI b9)), (2, .int (iI w9)), (3, .int (iI q_10))]) [1, 2, 3, 0] rfl ?_
    exact Jn52 1 (by unfold mToldOk; omega)
  · skip
    refine zz_iload_n C 3 dX10_told_19 rfl rfl ?_
    refine zz_iconst C dX10_told_20 ?_
    refine zz_bipush C dX10_told_21 (by decide +kernel) ?_
    refine zz_callS (wr := wMod z mh xT xD xP xR xC xW xA xH xU xB xI xN xM xY xK xL xE xS m_ra m_ca m_tp m_fa m_at m_wr m_va m_pl m_st m_lo m_bl m_bc m_fo m_yl m_yw m_nu m_nl m_lu m_ll m_ln kT kD kP kR kC kW kA kH kU kB kI kN kM kY kK kL kE kS) (st := [.ref mh]) C (cc_X10_in l z w9 0 6 (by omega) (by omega) (by omega)) yk_X10_in qw_1049 ⟨by decide, by decide⟩ [] [0, 1, 2, 3, 4, 5, 6, 7, 8, 9, 10, 11, 12, 13, 14, 15, 16, 17, 18] rfl rfl rfl rfl (by decide) rfl rfl (Nat.le_of_ble_eq_true rfl) dX10_told_23 ⟨by decide, by decide⟩ ?_
    rintro _ _ ⟨q_23, hq_23, rfl, rfl⟩
    refine zz_st (st' := [.int (iI q_23), .ref mh]) rfl (zz_ws (ws' := wMod z mh xT xD xP xR xC xW xA xH xU xB xI xN xM xY xK xL xE xS m_ra m_ca m_tp m_fa m_at m_wr m_va m_pl m_st m_lo m_bl m_bc m_fo m_yl m_yw m_nu m_nl m_lu m_ll m_ln kT kD kP kR kC kW kA kH kU kB kI kN kM kY kK kL kE kS) rfl ?_)
    refine zz_if_ne (tgt := 47) C dX10_told_26 (by decide) (by unfold rI; omega) (fun c26 => ?_) (fun c26 => ?_)
    · skip
      refine zz_iconst C dX10_told_47 ?_
      refine zz_goto (tgt := 52) C dX10_told_48 (by decide) ?_
      have Jn52 : ∀ (rs : Int), ((rs = 0 ∧ mToldOk kT b9 w9) ∨ (rs = 1 ∧ ¬ mToldOk kT b9 w9)) → zzW p l e rm_X10_told s m ([.ref mh, .int (iI b9), .int (iI w9)] : List Value).toArray below meth c z A 4 (MQ below (zQ z A (po_X10_told z mh xT xD xP xR xC xW xA xH xU xB xI xN xM xY xK xL xE xS m_ra m_ca m_tp m_fa m_at m_wr m_va m_pl m_st m_lo m_bl m_bc m_fo m_yl m_yw m_nu m_nl m_lu m_ll m_ln kT kD kP kR kC kW kA kH kU kB kI kN kM kY kK kL kE kS b9 w9)) ([.ref mh, .int (iI b9), .int (iI w9)] : List Value).toArray s 0 0 A) 0 0 (wMod z mh xT xD xP xR xC xW xA xH xU xB xI xN xM xY xK xL xE xS m_ra m_ca m_tp m_fa m_at m_wr m_va m_pl m_st m_lo m_bl m_bc m_fo m_yl m_yw m_nu m_nl m_lu m_ll m_ln kT kD kP kR kC kW kA kH kU kB kI kN kM kY kK kL kE kS) [(0, .ref mh), (1, .int (iI b9)), (2, .int (iI w9)), (3, .int (iI q_10))] [.int (iI rs), .ref mh] 52 := by
        intro rs hrs
        unfold mToldOk at hrs
        refine zz_put (ty := .int) (ws' := wMod z mh xT xD xP xR xC xW xA xH xU xB xI xN xM xY xK xL xE xS rs m_ca m_tp m_fa m_at m_wr m_va m_pl m_st m_lo m_bl m_bc m_fo m_yl m_yw m_nu m_nl m_lu m_ll m_ln kT kD kP kR kC kW kA kH kU kB kI kN kM kY kK kL kE kS) C 0 (ci := 10) (k := 0) rfl rfl in_X10 tyX10 tyX10_ok nmX10 (by decide) qw_926 rfl rfl (by decide +kernel) rfl rfl (Nat.le_of_ble_eq_true rfl) rfl dX10_told_52 ?_
        refine zz_aload_n C 0 dX10_told_55 rfl rfl ?_
        refine zz_get C 0 (ci := 10) (k := 0) rfl rfl in_X10 (by decide) qw_926 rfl rfl dX10_told_56 ?_
        refine zz_if_le (tgt := 64) C dX10_told_59 (by decide) (by unfold rI; omega) (fun c59 => ?_) (fun c59 => ?_)
        · skip
          refine zz_iload_n C 2 dX10_told_64 rfl rfl ?_
          refine zz_bipush C dX10_told_65 (by decide +kernel) ?_
          refine zz_icmp_le (tgt := 82) C dX10_told_67 (by decide) (by unfold rI; omega) (by unfold rI; omega) (fun c67 => ?_) (fun c67 => ?_)
          · skip
            refine zz_aload_n C 0 dX10_told_82 rfl rfl ?_
            refine zz_get C 0 (ci := 10) (k := 1) rfl rfl in_X10 (by decide) qw_927 rfl rfl dX10_told_83 ?_
            refine zz_bipush C dX10_told_86 (by decide +kernel) ?_
            refine zz_iconst C dX10_told_88 ?_
            refine zz_iload_n C 2 dX10_told_89 rfl rfl ?_
            refine zz_imul C dX10_told_90 ?_
            refine zz_iadd C dX10_told_91 ?_
            refine zz_iload_n C 1 dX10_told_92 rfl rfl ?_
            refine zz_iadd C dX10_told_93 ?_
            refine zz_iald C 1 rfl (by omega) (by omega) (by decide) dX10_told_94 ?_
            exact zz_iret C hr dX10_told_95 ⟨_, rs, Or.inl ⟨by unfold mToldOk; omega, by omega, by unfold mTold; first | (exfalso; omega) | rw [if_pos (by omega)] | rw [if_neg (by omega)]⟩, rfl, rfl⟩
          · skip
            refine zz_aload_n C 0 dX10_told_70 rfl rfl ?_
            refine zz_iload_n C 1 dX10_told_71 rfl rfl ?_
            refine zz_iload_n C 2 dX10_told_72 rfl rfl ?_
            refine zz_bipush C dX10_told_73 (by decide +kernel) ?_
            refine zz_isub C dX10_told_75 ?_
            refine zz_callV (wr := ([] : va_W)) (st := []) C (cc_X10_yields l z mh xT xD xP xR xC xW xA xH xU xB xI xN xM xY xK xL xE xS rs m_ca m_tp m_fa m_at m_wr m_va m_pl m_st m_lo m_bl m_bc m_fo m_yl m_yw m_nu m_nl m_lu m_ll m_ln kT kD kP kR kC kW kA kH kU kB kI kN kM kY kK kL kE kS b9 (w9 - 10) (by omega) (by omega) (by omega)) yk_X10_yields qw_1180 ⟨by decide, by decide⟩ [0, 1, 2, 3, 4, 5, 6, 7, 8, 9, 10, 11, 12, 13, 14, 15, 16, 17, 18] [] rfl rfl rfl rfl (by decide) 0 10 rfl rfl rfl rfl (Nat.le_of_ble_eq_true rfl) dX10_told_76 ⟨by decide, by decide⟩ ?_
            rintro _ _ ⟨rfl, rfl⟩
            refine zz_st (st' := [.int (iI (mYield kT b9 (w9 - 10)))]) rfl (zz_ws (ws' := wMod z mh xT xD xP xR xC xW xA xH xU xB xI xN xM xY xK xL xE xS rs m_ca m_tp m_fa m_at m_wr m_va m_pl m_st m_lo m_bl m_bc m_fo m_yl m_yw m_nu m_nl m_lu m_ll m_ln kT kD kP kR kC kW kA kH kU kB kI kN kM kY kK kL kE kS) rfl ?_)
            refine zz_goto (tgt := 95) C dX10_told_79 (by decide) ?_
            exact zz_iret C hr dX10_told_95 ⟨_, rs, Or.inl ⟨by unfold mToldOk; omega, by omega, by unfold mTold; first | (exfalso; omega) | rw [if_pos (by omega)] | rw [if_neg (by omega)]⟩, rfl, rfl⟩
        · skip
          refine zz_iconst C dX10_told_62 ?_
          exact zz_iret C hr dX10_told_63 ⟨_, rs, Or.inr ⟨by unfold mToldOk; omega, by omega, rfl⟩, rfl, rfl⟩
      refine zz_loc (ls' := [(0, .ref mh), (1, .int (iI b9)), (2, .int (iI w9)), (3, .int (iI q_10))]) [1, 2, 3, 0] rfl ?_
      exact Jn52 0 (by unfold mToldOk; omega)
    · skip
      refine zz_iload_n C 3 dX10_told_29 rfl rfl ?_
      refine zz_bipush C dX10_told_30 (by decide +kernel) ?_
      refine zz_bipush C dX10_told_32 (by decide +kernel) ?_
      refine zz_aload_n C 1 dX10_told_34 rfl rfl ?_
      refine zz_get C 0 (ci := 10) (k := 1) rfl rfl in_X10 (by decide) qw_927 rfl rfl dX10_told_35 ?_
      refine zz_iconst C dX10_told_38 ?_
      refine zz_iald C 1 rfl (by omega) (by omega) (by decide) dX10_told_39 ?_
      refine zz_iadd C dX10_told_40 ?_
      refine zz_callS (wr := wMod z mh xT xD xP xR xC xW xA xH xU xB xI xN xM xY xK xL xE xS m_ra m_ca m_tp m_fa m_at m_wr m_va m_pl m_st m_lo m_bl m_bc m_fo m_yl m_yw m_nu m_nl m_lu m_ll m_ln kT kD kP kR kC kW kA kH kU kB kI kN kM kY kK kL kE kS) (st := [.ref mh]) C (cc_X10_in l z w9 11 (10 + (kT 0)) (by omega) (by omega) (by omega)) yk_X10_in qw_1049 ⟨by decide, by decide⟩ [] [0, 1, 2, 3, 4, 5, 6, 7, 8, 9, 10, 11, 12, 13, 14, 15, 16, 17, 18] rfl rfl rfl rfl (by decide) rfl rfl (Nat.le_of_ble_eq_true rfl) dX10_told_41 ⟨by decide, by decide⟩ ?_
      rintro _ _ ⟨q_41, hq_41, rfl, rfl⟩
      refine zz_st (st' := [.int (iI q_41), .ref mh]) rfl (zz_ws (ws' := wMod z mh xT xD xP xR xC xW xA xH xU xB xI xN xM xY xK xL xE xS m_ra m_ca m_tp m_fa m_at m_wr m_va m_pl m_st m_lo m_bl m_bc m_fo m_yl m_yw m_nu m_nl m_lu m_ll m_ln kT kD kP kR kC kW kA kH kU kB kI kN kM kY kK kL kE kS) rfl ?_)
      refine zz_if_eq (tgt := 51) C dX10_told_44 (by decide) (by unfold rI; omega) (fun c44 => ?_) (fun c44 => ?_)
      · skip
        refine zz_iconst C dX10_told_51 ?_
        have Jn52 : ∀ (rs : Int), ((rs = 0 ∧ mToldOk kT b9 w9) ∨ (rs = 1 ∧ ¬ mToldOk kT b9 w9)) → zzW p l e rm_X10_told s m ([.ref mh, .int (iI b9), .int (iI w9)] : List Value).toArray below meth c z A 4 (MQ below (zQ z A (po_X10_told z mh xT xD xP xR xC xW xA xH xU xB xI xN xM xY xK xL xE xS m_ra m_ca m_tp m_fa m_at m_wr m_va m_pl m_st m_lo m_bl m_bc m_fo m_yl m_yw m_nu m_nl m_lu m_ll m_ln kT kD kP kR kC kW kA kH kU kB kI kN kM kY kK kL kE kS b9 w9)) ([.ref mh, .int (iI b9), .int (iI w9)] : List Value).toArray s 0 0 A) 0 0 (wMod z mh xT xD xP xR xC xW xA xH xU xB xI xN xM xY xK xL xE xS m_ra m_ca m_tp m_fa m_at m_wr m_va m_pl m_st m_lo m_bl m_bc m_fo m_yl m_yw m_nu m_nl m_lu m_ll m_ln kT kD kP kR kC kW kA kH kU kB kI kN kM kY kK kL kE kS) [(0, .ref mh), (1, .int (iI b9)), (2, .int (iI w9)), (3, .int (iI q_10))] [.int (iI rs), .ref mh] 52 := by
          intro rs hrs
          unfold mToldOk at hrs
          refine zz_put (ty := .int) (ws' := wMod z mh xT xD xP xR xC xW xA xH xU xB xI xN xM xY xK xL xE xS rs m_ca m_tp m_fa m_at m_wr m_va m_pl m_st m_lo m_bl m_bc m_fo m_yl m_yw m_nu m_nl m_lu m_ll m_ln kT kD kP kR kC kW kA kH kU kB kI kN kM kY kK kL kE kS) C 0 (ci := 10) (k := 0) rfl rfl in_X10 tyX10 tyX10_ok nmX10 (by decide) qw_926 rfl rfl (by decide +kernel) rfl rfl (Nat.le_of_ble_eq_true rfl) rfl dX10_told_52 ?_
          refine zz_aload_n C 0 dX10_told_55 rfl rfl ?_
          refine zz_get C 0 (ci := 10) (k := 0) rfl rfl in_X10 (by decide) qw_926 rfl rfl dX10_told_56 ?_
          refine zz_if_le (tgt := 64) C dX10_told_59 (by decide) (by unfold rI; omega) (fun c59 => ?_) (fun c59 => ?_)
          · skip
            refine zz_iload_n C 2 dX10_told_64 rfl rfl ?_
            refine zz_bipush C dX10_told_65 (by decide +kernel) ?_
            refine zz_icmp_le (tgt := 82) C dX10_told_67 (by decide) (by unfold rI; omega) (by unfold rI; omega) (fun c67 => ?_) (fun c67 => ?_)
            · skip
              refine zz_aload_n C 0 dX10_told_82 rfl rfl ?_
              refine zz_get C 0 (ci := 10) (k := 1) rfl rfl in_X10 (by decide) qw_927 rfl rfl dX10_told_83 ?_
              refine zz_bipush C dX10_told_86 (by decide +kernel) ?_
              refine zz_iconst C dX10_told_88 ?_
              refine zz_iload_n C 2 dX10_told_89 rfl rfl ?_
              refine zz_imul C dX10_told_90 ?_
              refine zz_iadd C dX10_told_91 ?_
              refine zz_iload_n C 1 dX10_told_92 rfl rfl ?_
              refine zz_iadd C dX10_told_93 ?_
              refine zz_iald C 1 rfl (by omega) (by omega) (by decide) dX10_told_94 ?_
              exact zz_iret C hr dX10_told_95 ⟨_, rs, Or.inl ⟨by unfold mToldOk; omega, by omega, by unfold mTold; first | (exfalso; omega) | rw [if_pos (by omega)] | rw [if_neg (by omega)]⟩, rfl, rfl⟩
            · skip
              refine zz_aload_n C 0 dX10_told_70 rfl rfl ?_
              refine zz_iload_n C 1 dX10_told_71 rfl rfl ?_
              refine zz_iload_n C 2 dX10_told_72 rfl rfl ?_
              refine zz_bipush C dX10_told_73 (by decide +kernel) ?_
              refine zz_isub C dX10_told_75 ?_
              refine zz_callV (wr := ([] : va_W)) (st := []) C (cc_X10_yields l z mh xT xD xP xR xC xW xA xH xU xB xI xN xM xY xK xL xE xS rs m_ca m_tp m_fa m_at m_wr m_va m_pl m_st m_lo m_bl m_bc m_fo m_yl m_yw m_nu m_nl m_lu m_ll m_ln kT kD kP kR kC kW kA kH kU kB kI kN kM kY kK kL kE kS b9 (w9 - 10) (by omega) (by omega) (by omega)) yk_X10_yields qw_1180 ⟨by decide, by decide⟩ [0, 1, 2, 3, 4, 5, 6, 7, 8, 9, 10, 11, 12, 13, 14, 15, 16, 17, 18] [] rfl rfl rfl rfl (by decide) 0 10 rfl rfl rfl rfl (Nat.le_of_ble_eq_true rfl) dX10_told_76 ⟨by decide, by decide⟩ ?_
              rintro _ _ ⟨rfl, rfl⟩
              refine zz_st (st' := [.int (iI (mYield kT b9 (w9 - 10)))]) rfl (zz_ws (ws' := wMod z mh xT xD xP xR xC xW xA xH xU xB xI xN xM xY xK xL xE xS rs m_ca m_tp m_fa m_at m_wr m_va m_pl m_st m_lo m_bl m_bc m_fo m_yl m_yw m_nu m_nl m_lu m_ll m_ln kT kD kP kR kC kW kA kH kU kB kI kN kM kY kK kL kE kS) rfl ?_)
              refine zz_goto (tgt := 95) C dX10_told_79 (by decide) ?_
              exact zz_iret C hr dX10_told_95 ⟨_, rs, Or.inl ⟨by unfold mToldOk; omega, by omega, by unfold mTold; first | (exfalso; omega) | rw [if_pos (by omega)] | rw [if_neg (by omega)]⟩, rfl, rfl⟩
          · skip
            refine zz_iconst C dX10_told_62 ?_
            exact zz_iret C hr dX10_told_63 ⟨_, rs, Or.inr ⟨by unfold mToldOk; omega, by omega, rfl⟩, rfl, rfl⟩
        refine zz_loc (ls' := [(0, .ref mh), (1, .int (iI b9)), (2, .int (iI w9)), (3, .int (iI q_10))]) [1, 2, 3, 0] rfl ?_
        exact Jn52 1 (by unfold mToldOk; omega)
      · skip
        refine zz_iconst C dX10_told_47 ?_
        refine zz_goto (tgt := 52) C dX10_told_48 (by decide) ?_
        have Jn52 : ∀ (rs : Int), ((rs = 0 ∧ mToldOk kT b9 w9) ∨ (rs = 1 ∧ ¬ mToldOk kT b9 w9)) → zzW p l e rm_X10_told s m ([.ref mh, .int (iI b9), .int (iI w9)] : List Value).toArray below meth c z A 4 (MQ below (zQ z A (po_X10_told z mh xT xD xP xR xC xW xA xH xU xB xI xN xM xY xK xL xE xS m_ra m_ca m_tp m_fa m_at m_wr m_va m_pl m_st m_lo m_bl m_bc m_fo m_yl m_yw m_nu m_nl m_lu m_ll m_ln kT kD kP kR kC kW kA kH kU kB kI kN kM kY kK kL kE kS b9 w9)) ([.ref mh, .int (iI b9), .int (iI w9)] : List Value).toArray s 0 0 A) 0 0 (wMod z mh xT xD xP xR xC xW xA xH xU xB xI xN xM xY xK xL xE xS m_ra m_ca m_tp m_fa m_at m_wr m_va m_pl m_st m_lo m_bl m_bc m_fo m_yl m_yw m_nu m_nl m_lu m_ll m_ln kT kD kP kR kC kW kA kH kU kB kI kN kM kY kK kL kE kS) [(0, .ref mh), (1, .int (iI b9)), (2, .int (iI w9)), (3, .int (iI q_10))] [.int (iI rs), .ref mh] 52 := by
          intro rs hrs
          unfold mToldOk at hrs
          refine zz_put (ty := .int) (ws' := wMod z mh xT xD xP xR xC xW xA xH xU xB xI xN xM xY xK xL xE xS rs m_ca m_tp m_fa m_at m_wr m_va m_pl m_st m_lo m_bl m_bc m_fo m_yl m_yw m_nu m_nl m_lu m_ll m_ln kT kD kP kR kC kW kA kH kU kB kI kN kM kY kK kL kE kS) C 0 (ci := 10) (k := 0) rfl rfl in_X10 tyX10 tyX10_ok nmX10 (by decide) qw_926 rfl rfl (by decide +kernel) rfl rfl (Nat.le_of_ble_eq_true rfl) rfl dX10_told_52 ?_
          refine zz_aload_n C 0 dX10_told_55 rfl rfl ?_
          refine zz_get C 0 (ci := 10) (k := 0) rfl rfl in_X10 (by decide) qw_926 rfl rfl dX10_told_56 ?_
          refine zz_if_le (tgt := 64) C dX10_told_59 (by decide) (by unfold rI; omega) (fun c59 => ?_) (fun c59 => ?_)
          · skip
            refine zz_iload_n C 2 dX10_told_64 rfl rfl ?_
            refine zz_bipush C dX10_told_65 (by decide +kernel) ?_
            refine zz_icmp_le (tgt := 82) C dX10_told_67 (by decide) (by unfold rI; omega) (by unfold rI; omega) (fun c67 => ?_) (fun c67 => ?_)
            · skip
              refine zz_aload_n C 0 dX10_told_82 rfl rfl ?_
              refine zz_get C 0 (ci := 10) (k := 1) rfl rfl in_X10 (by decide) qw_927 rfl rfl dX10_told_83 ?_
              refine zz_bipush C dX10_told_86 (by decide +kernel) ?_
              refine zz_iconst C dX10_told_88 ?_
              refine zz_iload_n C 2 dX10_told_89 rfl rfl ?_
              refine zz_imul C dX10_told_90 ?_
              refine zz_iadd C dX10_told_91 ?_
              refine zz_iload_n C 1 dX10_told_92 rfl rfl ?_
              refine zz_iadd C dX10_told_93 ?_
              refine zz_iald C 1 rfl (by omega) (by omega) (by decide) dX10_told_94 ?_
              exact zz_iret C hr dX10_told_95 ⟨_, rs, Or.inl ⟨by unfold mToldOk; omega, by omega, by unfold mTold; first | (exfalso; omega) | rw [if_pos (by omega)] | rw [if_neg (by omega)]⟩, rfl, rfl⟩
            · skip
              refine zz_aload_n C 0 dX10_told_70 rfl rfl ?_
              refine zz_iload_n C 1 dX10_told_71 rfl rfl ?_
              refine zz_iload_n C 2 dX10_told_72 rfl rfl ?_
              refine zz_bipush C dX10_told_73 (by decide +kernel) ?_
              refine zz_isub C dX10_told_75 ?_
              refine zz_callV (wr := ([] : va_W)) (st := []) C (cc_X10_yields l z mh xT xD xP xR xC xW xA xH xU xB xI xN xM xY xK xL xE xS rs m_ca m_tp m_fa m_at m_wr m_va m_pl m_st m_lo m_bl m_bc m_fo m_yl m_yw m_nu m_nl m_lu m_ll m_ln kT kD kP kR kC kW kA kH kU kB kI kN kM kY kK kL kE kS b9 (w9 - 10) (by omega) (by omega) (by omega)) yk_X10_yields qw_1180 ⟨by decide, by decide⟩ [0, 1, 2, 3, 4, 5, 6, 7, 8, 9, 10, 11, 12, 13, 14, 15, 16, 17, 18] [] rfl rfl rfl rfl (by decide) 0 10 rfl rfl rfl rfl (Nat.le_of_ble_eq_true rfl) dX10_told_76 ⟨by decide, by decide⟩ ?_
              rintro _ _ ⟨rfl, rfl⟩
              refine zz_st (st' := [.int (iI (mYield kT b9 (w9 - 10)))]) rfl (zz_ws (ws' := wMod z mh xT xD xP xR xC xW xA xH xU xB xI xN xM xY xK xL xE xS rs m_ca m_tp m_fa m_at m_wr m_va m_pl m_st m_lo m_bl m_bc m_fo m_yl m_yw m_nu m_nl m_lu m_ll m_ln kT kD kP kR kC kW kA kH kU kB kI kN kM kY kK kL kE kS) rfl ?_)
              refine zz_goto (tgt := 95) C dX10_told_79 (by decide) ?_
              exact zz_iret C hr dX10_told_95 ⟨_, rs, Or.inl ⟨by unfold mToldOk; omega, by omega, by unfold mTold; first | (exfalso; omega) | rw [if_pos (by omega)] | rw [if_neg (by omega)]⟩, rfl, rfl⟩
          · skip
            refine zz_iconst C dX10_told_62 ?_
            exact zz_iret C hr dX10_told_63 ⟨_, rs, Or.inr ⟨by unfold mToldOk; omega, by omega, rfl⟩, rfl, rfl⟩
        refine zz_loc (ls' := [(0, .ref mh), (1, .int (iI b9)), (2, .int (iI w9)), (3, .int (iI q_10))]) [1, 2, 3, 0] rfl ?_
        exact Jn52 0 (by unfold mToldOk; omega)
abbrev po_X10_drop (z : zC) (mh : Nat) (xT : Nat) (xD : Nat) (xP : Nat) (xR : Nat) (xC : Nat) (xW : Nat) (xA : Nat) (xH : Nat) (xU : Nat) (xB : Nat) (xI : Nat) (xN : Nat) (xM : Nat) (xY : Nat) (xK : Nat) (xL : Nat) (xE : Nat) (xS : Nat) (m_ra : Int) (m_ca : Int) (m_tp : Int) (m_fa : Int) (m_at : Int) (m_wr : Int) (m_va : Int) (m_pl : Int) (m_st : Int) (m_lo : Int) (m_bl : Int) (m_bc : Int) (m_fo : Int) (m_yl : Int) (m_yw : Int) (m_nu : Int) (m_nl : Int) (m_lu : Int) (m_ll : Int) (m_ln : Int) (kT : Int → Int) (kD : Int → Int) (kP : Int → Int) (kR : Int → Int) (kC : Int → Int) (kW : Int → Int) (kA : Int → Int) (kH : Int → Int) (kU : Int → Int) (kB : Int → Int) (kI : Int → Int) (kN : Int → Int) (kM : Int → Int) (kY : Int → Int) (kK : Int → Int) (kL : Int → Int) (kE : Int → Int) (kS : Int → Int) (b9 : Int) : Option Value → va_W → Prop := fun v w => ∃ (q : Int), ∃ (gD : Int → Int), ∃ (gT : Int → Int), (((0 ≤ b9 ∧ b9 < kT 1) ∧ q = kT 1 - 1 ∧ eqR gT (mDrop kT b9) 47) ∨ (¬ (0 ≤ b9 ∧ b9 < kT 1) ∧ q = -1 ∧ eqR gT kT 47)) ∧ v = some (Value.int (iI q)) ∧ w = wMod z mh xT xD xP xR xC xW xA xH xU xB xI xN xM xY xK xL xE xS 0 m_ca m_tp m_fa m_at m_wr m_va m_pl m_st m_lo m_bl m_bc m_fo m_yl m_yw m_nu m_nl m_lu m_ll m_ln gT gD kP kR kC kW kA kH kU kB kI kN kM kY kK kL kE kS
abbrev rm_X10_drop : Room := { frames := 3, cells := 0, slots := 0, locals := 83 }
set_option maxHeartbeats 4000000 in
set_option maxRecDepth 100000 in
theorem cc_X10_drop (l : Launch) (z : zC) (mh : Nat) (xT : Nat) (xD : Nat) (xP : Nat) (xR : Nat) (xC : Nat) (xW : Nat) (xA : Nat) (xH : Nat) (xU : Nat) (xB : Nat) (xI : Nat) (xN : Nat) (xM : Nat) (xY : Nat) (xK : Nat) (xL : Nat) (xE : Nat) (xS : Nat) (m_ra : Int) (m_ca : Int) (m_tp : Int) (m_fa : Int) (m_at : Int) (m_wr : Int) (m_va : Int) (m_pl : Int) (m_st : Int) (m_lo : Int) (m_bl : Int) (m_bc : Int) (m_fo : Int) (m_yl : Int) (m_yw : Int) (m_nu : Int) (m_nl : Int) (m_lu : Int) (m_ll : Int) (m_ln : Int) (kT : Int → Int) (kD : Int → Int) (kP : Int → Int) (kR : Int → Int) (kC : Int → Int) (kW : Int → Int) (kA : Int → Int) (kH : Int → Int) (kU : Int → Int) (kB : Int → Int) (kI : Int → Int) (kN : Int → Int) (kM : Int → Int) (kY : Int → Int) (kK : Int → Int) (kL : Int → Int) (kE : Int → Int) (kS : Int → Int) (b9 : Int) (hkT : mOk kT) (hb9 : -2147483648 ≤ b9 ∧ b9 < 2147483648) : zzMet l yX10_drop cX10_drop 4 (Option.some .int) rm_X10_drop z [.ref mh, .int (iI b9)] (wMod z mh xT xD xP xR xC xW xA xH xU xB xI xN xM xY xK xL xE xS m_ra m_ca m_tp m_fa m_at m_wr m_va m_pl m_st m_lo m_bl m_bc m_fo m_yl m_yw m_nu m_nl m_lu m_ll m_ln kT kD kP kR kC kW kA kH kU kB kI kN kM kY kK kL kE kS) (po_X10_drop z mh xT xD xP xR xC xW xA xH xU xB xI xN xM xY xK xL xE xS m_ra m_ca m_tp m_fa m_at m_wr m_va m_pl m_st m_lo m_bl m_bc m_fo m_yl m_yw m_nu m_nl m_lu m_ll m_ln kT kD kP kR kC kW kA kH kU kB kI kN kM kY kK kL kE kS b9) := by
  refine zzMet.of (own := RX10) (ls0 := [(0, .ref mh), (1, .int (iI b9))]) (by decide) rfl (Nat.le_of_ble_eq_true rfl) rfl ?_
  intro p e s m below meth c A C hr hnm
  have hk0 := hkT.1
  have hk1 := hkT.2.1
  refine zz_aload_n C 0 dX10_drop_0 rfl rfl ?_
  refine zz_iconst C dX10_drop_1 ?_
  refine zz_put (ty := .int) (ws' := wMod z mh xT xD xP xR xC xW xA xH xU xB xI xN xM xY xK xL xE xS 0 m_ca m_tp m_fa m_at m_wr m_va m_pl m_st m_lo m_bl m_bc m_fo m_yl m_yw m_nu m_nl m_lu m_ll m_ln kT kD kP kR kC kW kA kH kU kB kI kN kM kY kK kL kE kS) C 0 (ci := 10) (k := 0) rfl rfl in_X10 tyX10 tyX10_ok nmX10 (by decide) qw_926 rfl rfl (by decide +kernel) rfl rfl (Nat.le_of_ble_eq_true rfl) rfl dX10_drop_2 ?_
  refine zz_aload_n C 0 dX10_drop_5 rfl rfl ?_
  refine zz_callV (wr := ([] : va_W)) (st := []) C (cc_X10_drafts l z mh xT xD xP xR xC xW xA xH xU xB xI xN xM xY xK xL xE xS 0 m_ca m_tp m_fa m_at m_wr m_va m_pl m_st m_lo m_bl m_bc m_fo m_yl m_yw m_nu m_nl m_lu m_ll m_ln kT kD kP kR kC kW kA kH kU kB kI kN kM kY kK kL kE kS ) yk_X10_drafts qw_1064 ⟨by decide, by decide⟩ [0, 1, 2, 3, 4, 5, 6, 7, 8, 9, 10, 11, 12, 13, 14, 15, 16, 17, 18] [] rfl rfl rfl rfl (by decide) 0 10 rfl rfl rfl rfl (Nat.le_of_ble_eq_true rfl) dX10_drop_6 ⟨by decide, by decide⟩ ?_
  rintro _ _ ⟨gD_6, hgD_6, rfl, rfl⟩
  refine zz_st (st' := []) rfl (zz_ws (ws' := wMod z mh xT xD xP xR xC xW xA xH xU xB xI xN xM xY xK xL xE xS 0 m_ca m_tp m_fa m_at m_wr m_va m_pl m_st m_lo m_bl m_bc m_fo m_yl m_yw m_nu m_nl m_lu m_ll m_ln kT gD_6 kP kR kC kW kA kH kU kB kI kN kM kY kK kL kE kS) rfl ?_)
  have hd1 := hgD_6 1 (by omega) (by omega)
  refine zz_aload_n C 0 dX10_drop_9 rfl rfl ?_
  refine zz_iload_n C 1 dX10_drop_10 rfl rfl ?_
  refine zz_callV (wr := ([] : va_W)) (st := []) C (cc_X10_isBond l z mh xT xD xP xR xC xW xA xH xU xB xI xN xM xY xK xL xE xS 0 m_ca m_tp m_fa m_at m_wr m_va m_pl m_st m_lo m_bl m_bc m_fo m_yl m_yw m_nu m_nl m_lu m_ll m_ln kT gD_6 kP kR kC kW kA kH kU kB kI kN kM kY kK kL kE kS b9 (by omega) (by omega)) yk_X10_isBond qw_1092 ⟨by decide, by decide⟩ [0, 1, 2, 3, 4, 5, 6, 7, 8, 9, 10, 11, 12, 13, 14, 15, 16, 17, 18] [] rfl rfl rfl rfl (by decide) 0 10 rfl rfl rfl rfl (Nat.le_of_ble_eq_true rfl) dX10_drop_11 ⟨by decide, by decide⟩ ?_
  rintro _ _ ⟨q_11, hq_11, rfl, rfl⟩
  refine zz_st (st' := [.int (iI q_11)]) rfl (zz_ws (ws' := wMod z mh xT xD xP xR xC xW xA xH xU xB xI xN xM xY xK xL xE xS 0 m_ca m_tp m_fa m_at m_wr m_va m_pl m_st m_lo m_bl m_bc m_fo m_yl m_yw m_nu m_nl m_lu m_ll m_ln kT gD_6 kP kR kC kW kA kH kU kB kI kN kM kY kK kL kE kS) rfl ?_)
  refine zz_if_ne (tgt := 19) C dX10_drop_14 (by decide) (by unfold rI; omega) (fun c14 => ?_) (fun c14 => ?_)
  · skip
    refine zz_iload_n C 1 dX10_drop_19 rfl rfl ?_
    refine zz_istore_n (ls' := [(2, .int (iI b9)), (0, .ref mh), (1, .int (iI b9))]) C dX10_drop_20 rfl (by decide) rfl ?_
    have Lp21 : ∀ (fu9 : Nat) (k : Int) (gT : Int → Int), (b9 ≤ k ∧ k < kT 1) → (∀ i : Int, 0 ≤ i → i < 47 → gT i = if 12 ≤ i ∧ b9 ≤ (i - 12) % 5 ∧ (i - 12) % 5 < k then kT (i + 1) else kT i) → (kT 1 - k).toNat < fu9 → zzW p l e rm_X10_drop s m ([.ref mh, .int (iI b9)] : List Value).toArray below meth c z A 4 (MQ below (zQ z A (po_X10_drop z mh xT xD xP xR xC xW xA xH xU xB xI xN xM xY xK xL xE xS m_ra m_ca m_tp m_fa m_at m_wr m_va m_pl m_st m_lo m_bl m_bc m_fo m_yl m_yw m_nu m_nl m_lu m_ll m_ln kT kD kP kR kC kW kA kH kU kB kI kN kM kY kK kL kE kS b9)) ([.ref mh, .int (iI b9)] : List Value).toArray s 0 0 A) 0 0 (wMod z mh xT xD xP xR xC xW xA xH xU xB xI xN xM xY xK xL xE xS 0 m_ca m_tp m_fa m_at m_wr m_va m_pl m_st m_lo m_bl m_bc m_fo m_yl m_yw m_nu m_nl m_lu m_ll m_ln gT gD_6 kP kR kC kW kA kH kU kB kI kN kM kY kK kL kE kS) [(0, .ref mh), (1, .int (iI b9)), (2, .int (iI k))] [] 21 := by
      intro fu9
      induction fu9 with
      | zero => intro k gT hk hgT h9; exact absurd h9 (Nat.not_lt_zero _)
      | succ fu9 ih21 =>
        intro k gT hk hgT hm21
        have hg1 : gT 1 = kT 1 := by rw [hgT 1 (by omega) (by omega), if_neg (by omega)]
        refine zz_iload_n C 2 dX10_drop_21 rfl rfl ?_
        refine zz_iconst C dX10_drop_22 ?_
        refine zz_iadd C dX10_drop_23 ?_
        refine zz_aload_n C 0 dX10_drop_24 rfl rfl ?_
        refine zz_get C 0 (ci := 10) (k := 1) rfl rfl in_X10 (by decide) qw_927 rfl rfl dX10_drop_25 ?_
        refine zz_iconst C dX10_drop_28 ?_
        refine zz_iald C 1 rfl (by omega) (by omega) (by decide) dX10_drop_29 ?_
        refine zz_icmp_ge (tgt := 72) C dX10_drop_30 (by decide) (by unfold rI; omega) (by unfold rI; omega) (fun c30 => ?_) (fun c30 => ?_)
        · skip
          refine zz_aload_n C 0 dX10_drop_72 rfl rfl ?_
          refine zz_get C 0 (ci := 10) (k := 1) rfl rfl in_X10 (by decide) qw_927 rfl rfl dX10_drop_73 ?_
          refine zz_iconst C dX10_drop_76 ?_
          refine zz_dup2 C dX10_drop_77 rfl rfl ?_
          refine zz_iald C 1 rfl (by omega) (by omega) (by decide) dX10_drop_78 ?_
          refine zz_iconst C dX10_drop_79 ?_
          refine zz_isub C dX10_drop_80 ?_
          refine zz_iast (ws' := wMod z mh xT xD xP xR xC xW xA xH xU xB xI xN xM xY xK xL xE xS 0 m_ca m_tp m_fa m_at m_wr m_va m_pl m_st m_lo m_bl m_bc m_fo m_yl m_yw m_nu m_nl m_lu m_ll m_ln (zup gT 1 ((gT 1) - 1)) gD_6 kP kR kC kW kA kH kU kB kI kN kM kY kK kL kE kS) C 1 rfl (by omega) (by omega) (by decide) rfl dX10_drop_81 ?_
          refine zz_aload_n C 0 dX10_drop_82 rfl rfl ?_
          refine zz_get C 0 (ci := 10) (k := 1) rfl rfl in_X10 (by decide) qw_927 rfl rfl dX10_drop_83 ?_
          refine zz_iconst C dX10_drop_86 ?_
          refine zz_iald C 1 rfl (by omega) (by omega) (by decide) dX10_drop_87 ?_
          exact zz_iret C hr dX10_drop_88 ⟨_, _, _, Or.inl ⟨by omega, by rw [zup_eq, hg1], drop_end hgT hg1 (by omega)⟩, rfl, rfl⟩
        · skip
          refine zz_bipush C dX10_drop_33 (by decide +kernel) ?_
          refine zz_istore_n (ls' := [(3, .int (iI 12)), (0, .ref mh), (1, .int (iI b9)), (2, .int (iI k))]) C dX10_drop_35 rfl (by decide) rfl ?_
          have Lp36 : ∀ (fu9 : Nat) (r9 : Int) (hT : Int → Int), (12 ≤ r9 ∧ r9 ≤ 47 ∧ r9 % 5 = 2) → (∀ i : Int, 0 ≤ i → i < 47 → hT i = if 12 ≤ i ∧ b9 ≤ (i - 12) % 5 ∧ ((i - 12) % 5 < k ∨ ((i - 12) % 5 = k ∧ i < r9 + k)) then kT (i + 1) else kT i) → (47 - r9).toNat < fu9 → zzW p l e rm_X10_drop s m ([.ref mh, .int (iI b9)] : List Value).toArray below meth c z A 4 (MQ below (zQ z A (po_X10_drop z mh xT xD xP xR xC xW xA xH xU xB xI xN xM xY xK xL xE xS m_ra m_ca m_tp m_fa m_at m_wr m_va m_pl m_st m_lo m_bl m_bc m_fo m_yl m_yw m_nu m_nl m_lu m_ll m_ln kT kD kP kR kC kW kA kH kU kB kI kN kM kY kK kL kE kS b9)) ([.ref mh, .int (iI b9)] : List Value).toArray s 0 0 A) 0 0 (wMod z mh xT xD xP xR xC xW xA xH xU xB xI xN xM xY xK xL xE xS 0 m_ca m_tp m_fa m_at m_wr m_va m_pl m_st m_lo m_bl m_bc m_fo m_yl m_yw m_nu m_nl m_lu m_ll m_ln hT gD_6 kP kR kC kW kA kH kU kB kI kN kM kY kK kL kE kS) [(0, .ref mh), (1, .int (iI b9)), (2, .int (iI k)), (3, .int (iI r9))] [] 36 := by
            intro fu9
            induction fu9 with
            | zero => intro r9 hT hr hhT h9; exact absurd h9 (Nat.not_lt_zero _)
            | succ fu9 ih36 =>
              intro r9 hT hr hhT hm36
              refine zz_iload_n C 3 dX10_drop_36 rfl rfl ?_
              refine zz_bipush C dX10_drop_37 (by decide +kernel) ?_
              refine zz_icmp_gt (tgt := 66) C dX10_drop_39 (by decide) (by unfold rI; omega) (by unfold rI; omega) (fun c39 => ?_) (fun c39 => ?_)
              · skip
                refine zz_iinc (ls' := [(2, .int (iI (k + 1))), (0, .ref mh), (1, .int (iI b9)), (3, .int (iI r9))]) C 2 dX10_drop_66 rfl (by decide) rfl ?_
                refine zz_goto (tgt := 21) C dX10_drop_69 (by decide) ?_
                refine zz_loc (ls' := [(0, .ref mh), (1, .int (iI b9)), (2, .int (iI (k + 1)))]) [1, 2, 0] rfl ?_
                exact ih21 (k + 1) hT (by omega) (fun i h0 h1 => drop_out hhT hr i h0 h1 c39) (by omega)
              · skip
                refine zz_aload_n C 0 dX10_drop_42 rfl rfl ?_
                refine zz_get C 0 (ci := 10) (k := 1) rfl rfl in_X10 (by decide) qw_927 rfl rfl dX10_drop_43 ?_
                refine zz_iload_n C 3 dX10_drop_46 rfl rfl ?_
                refine zz_iload_n C 2 dX10_drop_47 rfl rfl ?_
                refine zz_iadd C dX10_drop_48 ?_
                refine zz_aload_n C 0 dX10_drop_49 rfl rfl ?_
                refine zz_get C 0 (ci := 10) (k := 1) rfl rfl in_X10 (by decide) qw_927 rfl rfl dX10_drop_50 ?_
                refine zz_iload_n C 3 dX10_drop_53 rfl rfl ?_
                refine zz_iload_n C 2 dX10_drop_54 rfl rfl ?_
                refine zz_iadd C dX10_drop_55 ?_
                refine zz_iconst C dX10_drop_56 ?_
                refine zz_iadd C dX10_drop_57 ?_
                refine zz_iald C 1 rfl (by omega) (by omega) (by decide) dX10_drop_58 ?_
                refine zz_iast (ws' := wMod z mh xT xD xP xR xC xW xA xH xU xB xI xN xM xY xK xL xE xS 0 m_ca m_tp m_fa m_at m_wr m_va m_pl m_st m_lo m_bl m_bc m_fo m_yl m_yw m_nu m_nl m_lu m_ll m_ln (zup hT (r9 + k) (hT ((r9 + k) + 1))) gD_6 kP kR kC kW kA kH kU kB kI kN kM kY kK kL kE kS) C 1 rfl (by omega) (by omega) (by decide) rfl dX10_drop_59 ?_
                refine zz_iinc (ls' := [(3, .int (iI (r9 + 5))), (0, .ref mh), (1, .int (iI b9)), (2, .int (iI k))]) C 3 dX10_drop_60 rfl (by decide) rfl ?_
                refine zz_goto (tgt := 36) C dX10_drop_63 (by decide) ?_
                refine zz_loc (ls' := [(0, .ref mh), (1, .int (iI b9)), (2, .int (iI k)), (3, .int (iI (r9 + 5)))]) [1, 2, 3, 0] rfl ?_
                exact ih36 (r9 + 5) (zup hT (r9 + k) (hT ((r9 + k) + 1))) ⟨by omega, by omega, by omega⟩ (fun i h0 h1 => drop_step hhT hr hk (by omega) c39 i h0 h1) (by omega)
          refine zz_loc (ls' := [(0, .ref mh), (1, .int (iI b9)), (2, .int (iI k)), (3, .int (iI 12))]) [1, 2, 3, 0] rfl ?_
          exact Lp36 _ 12 gT ⟨by omega, by omega, by omega⟩ (fun i h0 h1 => drop_in hgT i h0 h1) (Nat.lt_succ_self _)
    refine zz_loc (ls' := [(0, .ref mh), (1, .int (iI b9)), (2, .int (iI b9))]) [1, 2, 0] rfl ?_
    exact Lp21 _ b9 kT (by omega) (fun i h0 h1 => by rw [if_neg (by omega)]) (Nat.lt_succ_self _)
  · skip
    refine zz_iconst C dX10_drop_17 ?_
    exact zz_iret C hr dX10_drop_18 ⟨-1, _, _, Or.inr ⟨by omega, rfl, fun i h0 h1 => rfl⟩, rfl, rfl⟩
abbrev po_X10_four (z : zC) (mh : Nat) (xT : Nat) (xD : Nat) (xP : Nat) (xR : Nat) (xC : Nat) (xW : Nat) (xA : Nat) (xH : Nat) (xU : Nat) (xB : Nat) (xI : Nat) (xN : Nat) (xM : Nat) (xY : Nat) (xK : Nat) (xL : Nat) (xE : Nat) (xS : Nat) (m_ra : Int) (m_ca : Int) (m_tp : Int) (m_fa : Int) (m_at : Int) (m_wr : Int) (m_va : Int) (m_pl : Int) (m_st : Int) (m_lo : Int) (m_bl : Int) (m_bc : Int) (m_fo : Int) (m_yl : Int) (m_yw : Int) (m_nu : Int) (m_nl : Int) (m_lu : Int) (m_ll : Int) (m_ln : Int) (kT : Int → Int) (kD : Int → Int) (kP : Int → Int) (kR : Int → Int) (kC : Int → Int) (kW : Int → Int) (kA : Int → Int) (kH : Int → Int) (kU : Int → Int) (kB : Int → Int) (kI : Int → Int) (kN : Int → Int) (kM : Int → Int) (kY : Int → Int) (kK : Int → Int) (kL : Int → Int) (kE : Int → Int) (kS : Int → Int) (v9 : Int) : Option Value → va_W → Prop := fun v w => v = none ∧ w = wMod z mh xT xD xP xR xC xW xA xH xU xB xI xN xM xY xK xL xE xS m_ra m_ca (m_tp + 4) m_fa m_at m_wr m_va m_pl m_st m_lo m_bl m_bc m_fo m_yl m_yw m_nu m_nl m_lu m_ll m_ln kT kD (mFour kP m_tp v9) kR kC kW kA kH kU kB kI kN kM kY kK kL kE kS
abbrev rm_X10_four : Room := { frames := 1, cells := 0, slots := 0, locals := 40 }
set_option maxHeartbeats 4000000 in
set_option maxRecDepth 100000 in
theorem cc_X10_four (l : Launch) (z : zC) (mh : Nat) (xT : Nat) (xD : Nat) (xP : Nat) (xR : Nat) (xC : Nat) (xW : Nat) (xA : Nat) (xH : Nat) (xU : Nat) (xB : Nat) (xI : Nat) (xN : Nat) (xM : Nat) (xY : Nat) (xK : Nat) (xL : Nat) (xE : Nat) (xS : Nat) (m_ra : Int) (m_ca : Int) (m_tp : Int) (m_fa : Int) (m_at : Int) (m_wr : Int) (m_va : Int) (m_pl : Int) (m_st : Int) (m_lo : Int) (m_bl : Int) (m_bc : Int) (m_fo : Int) (m_yl : Int) (m_yw : Int) (m_nu : Int) (m_nl : Int) (m_lu : Int) (m_ll : Int) (m_ln : Int) (kT : Int → Int) (kD : Int → Int) (kP : Int → Int) (kR : Int → Int) (kC : Int → Int) (kW : Int → Int) (kA : Int → Int) (kH : Int → Int) (kU : Int → Int) (kB : Int → Int) (kI : Int → Int) (kN : Int → Int) (kM : Int → Int) (kY : Int → Int) (kK : Int → Int) (kL : Int → Int) (kE : Int → Int) (kS : Int → Int) (v9 : Int) (htp : 0 ≤ m_tp ∧ m_tp ≤ 296) (hv9 : -2147483648 ≤ v9 ∧ v9 < 2147483648) : zzMet l yX10_four cX10_four 3 none rm_X10_four z [.ref mh, .int (iI v9)] (wMod z mh xT xD xP xR xC xW xA xH xU xB xI xN xM xY xK xL xE xS m_ra m_ca m_tp m_fa m_at m_wr m_va m_pl m_st m_lo m_bl m_bc m_fo m_yl m_yw m_nu m_nl m_lu m_ll m_ln kT kD kP kR kC kW kA kH kU kB kI kN kM kY kK kL kE kS) (po_X10_four z mh xT xD xP xR xC xW xA xH xU xB xI xN xM xY xK xL xE xS m_ra m_ca m_tp m_fa m_at m_wr m_va m_pl m_st m_lo m_bl m_bc m_fo m_yl m_yw m_nu m_nl m_lu m_ll m_ln kT kD kP kR kC kW kA kH kU kB kI kN kM kY kK kL kE kS v9) := by
  refine zzMet.of (own := RX10) (ls0 := [(0, .ref mh), (1, .int (iI v9))]) (by decide) rfl (Nat.le_of_ble_eq_true rfl) rfl ?_
  intro p e s m below meth c A C hr hnm
  refine zz_bipush C dX10_four_0 (by decide +kernel) ?_
  refine zz_istore_n (ls' := [(2, .int (iI 24)), (0, .ref mh), (1, .int (iI v9))]) C dX10_four_2 rfl (by decide) rfl ?_
  have Lp3 : ∀ (fu9 : Nat) (k : Int) (tp : Int) (gP : Int → Int), ((k = 24 ∧ tp = m_tp ∧ gP = kP) ∨ (k = 16 ∧ tp = m_tp + 1 ∧ gP = mF1 kP m_tp v9) ∨ (k = 8 ∧ tp = m_tp + 2 ∧ gP = mF2 kP m_tp v9) ∨ (k = 0 ∧ tp = m_tp + 3 ∧ gP = mF3 kP m_tp v9) ∨ (k = -8 ∧ tp = m_tp + 4 ∧ gP = mFour kP m_tp v9)) → (k + 8).toNat < fu9 → zzW p l e rm_X10_four s m ([.ref mh, .int (iI v9)] : List Value).toArray below meth c z A 3 (MQ below (zQ z A (po_X10_four z mh xT xD xP xR xC xW xA xH xU xB xI xN xM xY xK xL xE xS m_ra m_ca m_tp m_fa m_at m_wr m_va m_pl m_st m_lo m_bl m_bc m_fo m_yl m_yw m_nu m_nl m_lu m_ll m_ln kT kD kP kR kC kW kA kH kU kB kI kN kM kY kK kL kE kS v9)) ([.ref mh, .int (iI v9)] : List Value).toArray s 0 0 A) 0 0 (wMod z mh xT xD xP xR xC xW xA xH xU xB xI xN xM xY xK xL xE xS m_ra m_ca tp m_fa m_at m_wr m_va m_pl m_st m_lo m_bl m_bc m_fo m_yl m_yw m_nu m_nl m_lu m_ll m_ln kT kD gP kR kC kW kA kH kU kB kI kN kM kY kK kL kE kS) [(0, .ref mh), (1, .int (iI v9)), (2, .int (iI k))] [] 3 := by
    intro fu9
    induction fu9 with
    | zero => intro k tp gP hk h9; exact absurd h9 (Nat.not_lt_zero _)
    | succ fu9 ih3 =>
      intro k tp gP hk hm3
      refine zz_iload_n C 2 dX10_four_3 rfl rfl ?_
      refine zz_if_lt (tgt := 39) C dX10_four_4 (by decide) (by unfold rI; omega) (fun c4 => ?_) (fun c4 => ?_)
      · skip
        obtain ⟨rfl, rfl⟩ : tp = m_tp + 4 ∧ gP = mFour kP m_tp v9 := by rcases hk with h | h | h | h | h <;> first | (exfalso; omega) | exact h.2
        exact zz_vret C hr dX10_four_39 ⟨rfl, rfl⟩
      · skip
        refine zz_aload_n C 0 dX10_four_7 rfl rfl ?_
        refine zz_get C 0 (ci := 10) (k := 4) rfl rfl in_X10 (by decide) qw_930 rfl rfl dX10_four_8 ?_
        refine zz_aload_n C 0 dX10_four_11 rfl rfl ?_
        refine zz_get C 0 (ci := 10) (k := 5) rfl rfl in_X10 (by decide) qw_931 rfl rfl dX10_four_12 ?_
        refine zz_iload_n C 1 dX10_four_15 rfl rfl ?_
        refine zz_iload_n C 2 dX10_four_16 rfl rfl ?_
        refine zz_ishr C (by unfold rI; omega) (by omega) dX10_four_17 ?_
        refine zz_sipush C dX10_four_18 (by decide +kernel) ?_
        refine zz_iand255 C dX10_four_21 ?_
        refine zz_iast (ws' := wMod z mh xT xD xP xR xC xW xA xH xU xB xI xN xM xY xK xL xE xS m_ra m_ca tp m_fa m_at m_wr m_va m_pl m_st m_lo m_bl m_bc m_fo m_yl m_yw m_nu m_nl m_lu m_ll m_ln kT kD (zup gP tp ((v9 / 2 ^ k.toNat) % 256)) kR kC kW kA kH kU kB kI kN kM kY kK kL kE kS) C 3 rfl (by omega) (by omega) (by decide) rfl dX10_four_22 ?_
        refine zz_aload_n C 0 dX10_four_23 rfl rfl ?_
        refine zz_dup C dX10_four_24 rfl ?_
        refine zz_get C 0 (ci := 10) (k := 5) rfl rfl in_X10 (by decide) qw_931 rfl rfl dX10_four_25 ?_
        refine zz_iconst C dX10_four_28 ?_
        refine zz_iadd C dX10_four_29 ?_
        refine zz_put (ty := .int) (ws' := wMod z mh xT xD xP xR xC xW xA xH xU xB xI xN xM xY xK xL xE xS m_ra m_ca (tp + 1) m_fa m_at m_wr m_va m_pl m_st m_lo m_bl m_bc m_fo m_yl m_yw m_nu m_nl m_lu m_ll m_ln kT kD (zup gP tp ((v9 / 2 ^ k.toNat) % 256)) kR kC kW kA kH kU kB kI kN kM kY kK kL kE kS) C 0 (ci := 10) (k := 5) rfl rfl in_X10 tyX10 tyX10_ok nmX10 (by decide) qw_931 rfl rfl (by decide +kernel) rfl rfl (Nat.le_of_ble_eq_true rfl) rfl dX10_four_30 ?_
        refine zz_iinc (ls' := [(2, .int (iI (k + (-8)))), (0, .ref mh), (1, .int (iI v9))]) C 2 dX10_four_33 rfl (by decide) rfl ?_
        refine zz_goto (tgt := 3) C dX10_four_36 (by decide) ?_
        refine zz_loc (ls' := [(0, .ref mh), (1, .int (iI v9)), (2, .int (iI (k + (-8))))]) [1, 2, 0] rfl ?_
        exact ih3 (k + (-8)) (tp + 1) (zup gP tp ((v9 / 2 ^ k.toNat) % 256)) (four_step hk c4) (by omega)
  refine zz_loc (ls' := [(0, .ref mh), (1, .int (iI v9)), (2, .int (iI 24))]) [1, 2, 0] rfl ?_
  exact Lp3 _ 24 m_tp kP (Or.inl ⟨rfl, rfl, rfl⟩) (Nat.lt_succ_self _)
abbrev po_X10_feed (z : zC) (mh : Nat) (xT : Nat) (xD : Nat) (xP : Nat) (xR : Nat) (xC : Nat) (xW : Nat) (xA : Nat) (xH : Nat) (xU : Nat) (xB : Nat) (xI : Nat) (xN : Nat) (xM : Nat) (xY : Nat) (xK : Nat) (xL : Nat) (xE : Nat) (xS : Nat) (m_ra : Int) (m_ca : Int) (m_tp : Int) (m_fa : Int) (m_at : Int) (m_wr : Int) (m_va : Int) (m_pl : Int) (m_st : Int) (m_lo : Int) (m_bl : Int) (m_bc : Int) (m_fo : Int) (m_yl : Int) (m_yw : Int) (m_nu : Int) (m_nl : Int) (m_lu : Int) (m_ll : Int) (m_ln : Int) (kT : Int → Int) (kD : Int → Int) (kP : Int → Int) (kR : Int → Int) (kC : Int → Int) (kW : Int → Int) (kA : Int → Int) (kH : Int → Int) (kU : Int → Int) (kB : Int → Int) (kI : Int → Int) (kN : Int → Int) (kM : Int → Int) (kY : Int → Int) (kK : Int → Int) (kL : Int → Int) (kE : Int → Int) (kS : Int → Int) (a1 : Int) (a2 : Int) (a3 : Int) (a4 : Int) (a5 : Int) : Option Value → va_W → Prop := fun v w => ∃ (q : Int), ∃ (gc : Int), ∃ (gP : Int → Int), ((m_tp + 20 ≤ 300 ∧ q = m_tp + 20 ∧ gc = m_tp + 20 ∧ gP = mFeed kP m_tp a1 a2 a3 a4 a5) ∨ (300 < m_tp + 20 ∧ q = -1 ∧ gc = m_tp ∧ gP = kP)) ∧ v = some (Value.int (iI q)) ∧ w = wMod z mh xT xD xP xR xC xW xA xH xU xB xI xN xM xY xK xL xE xS 0 m_ca gc m_fa m_at m_wr m_va m_pl m_st m_lo m_bl m_bc m_fo m_yl m_yw m_nu m_nl m_lu m_ll m_ln kT kD gP kR kC kW kA kH kU kB kI kN kM kY kK kL kE kS
abbrev rm_X10_feed : Room := { frames := 2, cells := 0, slots := 0, locals := 62 }
set_option maxHeartbeats 4000000 in
set_option maxRecDepth 100000 in
theorem cc_X10_feed (l : Launch) (z : zC) (mh : Nat) (xT : Nat) (xD : Nat) (xP : Nat) (xR : Nat) (xC : Nat) (xW : Nat) (xA : Nat) (xH : Nat) (xU : Nat) (xB : Nat) (xI : Nat) (xN : Nat) (xM : Nat) (xY : Nat) (xK : Nat) (xL : Nat) (xE : Nat) (xS : Nat) (m_ra : Int) (m_ca : Int) (m_tp : Int) (m_fa : Int) (m_at : Int) (m_wr : Int) (m_va : Int) (m_pl : Int) (m_st : Int) (m_lo : Int) (m_bl : Int) (m_bc : Int) (m_fo : Int) (m_yl : Int) (m_yw : Int) (m_nu : Int) (m_nl : Int) (m_lu : Int) (m_ll : Int) (m_ln : Int) (kT : Int → Int) (kD : Int → Int) (kP : Int → Int) (kR : Int → Int) (kC : Int → Int) (kW : Int → Int) (kA : Int → Int) (kH : Int → Int) (kU : Int → Int) (kB : Int → Int) (kI : Int → Int) (kN : Int → Int) (kM : Int → Int) (kY : Int → Int) (kK : Int → Int) (kL : Int → Int) (kE : Int → Int) (kS : Int → Int) (a1 : Int) (a2 : Int) (a3 : Int) (a4 : Int) (a5 : Int) (htp : 0 ≤ m_tp ∧ m_tp ≤ 300) (ha1 : -2147483648 ≤ a1 ∧ a1 < 2147483648) (ha2 : -2147483648 ≤ a2 ∧ a2 < 2147483648) (ha3 : -2147483648 ≤ a3 ∧ a3 < 2147483648) (ha4 : -2147483648 ≤ a4 ∧ a4 < 2147483648) (ha5 : -2147483648 ≤ a5 ∧ a5 < 2147483648) : zzMet l yX10_feed cX10_feed 6 (Option.some .int) rm_X10_feed z [.ref mh, .int (iI a1), .int (iI a2), .int (iI a3), .int (iI a4), .int (iI a5)] (wMod z mh xT xD xP xR xC xW xA xH xU xB xI xN xM xY xK xL xE xS m_ra m_ca m_tp m_fa m_at m_wr m_va m_pl m_st m_lo m_bl m_bc m_fo m_yl m_yw m_nu m_nl m_lu m_ll m_ln kT kD kP kR kC kW kA kH kU kB kI kN kM kY kK kL kE kS) (po_X10_feed z mh xT xD xP xR xC xW xA xH xU xB xI xN xM xY xK xL xE xS m_ra m_ca m_tp m_fa m_at m_wr m_va m_pl m_st m_lo m_bl m_bc m_fo m_yl m_yw m_nu m_nl m_lu m_ll m_ln kT kD kP kR kC kW kA kH kU kB kI kN kM kY kK kL kE kS a1 a2 a3 a4 a5) := by
  refine zzMet.of (own := RX10) (ls0 := [(0, .ref mh), (1, .int (iI a1)), (2, .int (iI a2)), (3, .int (iI a3)), (4, .int (iI a4)), (5, .int (iI a5))]) (by decide) rfl (Nat.le_of_ble_eq_true rfl) rfl ?_
  intro p e s m below meth c A C hr hnm
  refine zz_aload_n C 0 dX10_feed_0 rfl rfl ?_
  refine zz_iconst C dX10_feed_1 ?_
  refine zz_put (ty := .int) (ws' := wMod z mh xT xD xP xR xC xW xA xH xU xB xI xN xM xY xK xL xE xS 0 m_ca m_tp m_fa m_at m_wr m_va m_pl m_st m_lo m_bl m_bc m_fo m_yl m_yw m_nu m_nl m_lu m_ll m_ln kT kD kP kR kC kW kA kH kU kB kI kN kM kY kK kL kE kS) C 0 (ci := 10) (k := 0) rfl rfl in_X10 tyX10 tyX10_ok nmX10 (by decide) qw_926 rfl rfl (by decide +kernel) rfl rfl (Nat.le_of_ble_eq_true rfl) rfl dX10_feed_2 ?_
  refine zz_aload_n C 0 dX10_feed_5 rfl rfl ?_
  refine zz_get C 0 (ci := 10) (k := 5) rfl rfl in_X10 (by decide) qw_931 rfl rfl dX10_feed_6 ?_
  refine zz_bipush C dX10_feed_9 (by decide +kernel) ?_
  refine zz_iadd C dX10_feed_11 ?_
  refine zz_sipush C dX10_feed_12 (by decide +kernel) ?_
  refine zz_icmp_le (tgt := 20) C dX10_feed_15 (by decide) (by unfold rI; omega) (by unfold rI; omega) (fun c15 => ?_) (fun c15 => ?_)
  · skip
    refine zz_aload_n C 0 dX10_feed_20 rfl rfl ?_
    refine zz_iload_n C 1 dX10_feed_21 rfl rfl ?_
    refine zz_callV (wr := ([] : va_W)) (st := []) C (cc_X10_four l z mh xT xD xP xR xC xW xA xH xU xB xI xN xM xY xK xL xE xS 0 m_ca m_tp m_fa m_at m_wr m_va m_pl m_st m_lo m_bl m_bc m_fo m_yl m_yw m_nu m_nl m_lu m_ll m_ln kT kD kP kR kC kW kA kH kU kB kI kN kM kY kK kL kE kS a1 (by omega) (by omega)) yk_X10_four qw_1116 ⟨by decide, by decide⟩ [0, 1, 2, 3, 4, 5, 6, 7, 8, 9, 10, 11, 12, 13, 14, 15, 16, 17, 18] [] rfl rfl rfl rfl (by decide) 0 10 rfl rfl rfl rfl (Nat.le_of_ble_eq_true rfl) dX10_feed_22 ⟨by decide, by decide⟩ ?_
    rintro _ _ ⟨rfl, rfl⟩
    refine zz_st (st' := []) rfl (zz_ws (ws' := wMod z mh xT xD xP xR xC xW xA xH xU xB xI xN xM xY xK xL xE xS 0 m_ca (m_tp + 4) m_fa m_at m_wr m_va m_pl m_st m_lo m_bl m_bc m_fo m_yl m_yw m_nu m_nl m_lu m_ll m_ln kT kD (mFour kP m_tp a1) kR kC kW kA kH kU kB kI kN kM kY kK kL kE kS) rfl ?_)
    refine zz_aload_n C 0 dX10_feed_25 rfl rfl ?_
    refine zz_iload_n C 2 dX10_feed_26 rfl rfl ?_
    refine zz_callV (wr := ([] : va_W)) (st := []) C (cc_X10_four l z mh xT xD xP xR xC xW xA xH xU xB xI xN xM xY xK xL xE xS 0 m_ca (m_tp + 4) m_fa m_at m_wr m_va m_pl m_st m_lo m_bl m_bc m_fo m_yl m_yw m_nu m_nl m_lu m_ll m_ln kT kD (mFour kP m_tp a1) kR kC kW kA kH kU kB kI kN kM kY kK kL kE kS a2 (by omega) (by omega)) yk_X10_four qw_1116 ⟨by decide, by decide⟩ [0, 1, 2, 3, 4, 5, 6, 7, 8, 9, 10, 11, 12, 13, 14, 15, 16, 17, 18] [] rfl rfl rfl rfl (by decide) 0 10 rfl rfl rfl rfl (Nat.le_of_ble_eq_true rfl) dX10_feed_27 ⟨by decide, by decide⟩ ?_
    rintro _ _ ⟨rfl, rfl⟩
    refine zz_st (st' := []) rfl (zz_ws (ws' := wMod z mh xT xD xP xR xC xW xA xH xU xB xI xN xM xY xK xL xE xS 0 m_ca ((m_tp + 4) + 4) m_fa m_at m_wr m_va m_pl m_st m_lo m_bl m_bc m_fo m_yl m_yw m_nu m_nl m_lu m_ll m_ln kT kD (mFour (mFour kP m_tp a1) (m_tp + 4) a2) kR kC kW kA kH kU kB kI kN kM kY kK kL kE kS) rfl ?_)
    refine zz_aload_n C 0 dX10_feed_30 rfl rfl ?_
    refine zz_iload_n C 3 dX10_feed_31 rfl rfl ?_
    refine zz_callV (wr := ([] : va_W)) (st := []) C (cc_X10_four l z mh xT xD xP xR xC xW xA xH xU xB xI xN xM xY xK xL xE xS 0 m_ca ((m_tp + 4) + 4) m_fa m_at m_wr m_va m_pl m_st m_lo m_bl m_bc m_fo m_yl m_yw m_nu m_nl m_lu m_ll m_ln kT kD (mFour (mFour kP m_tp a1) (m_tp + 4) a2) kR kC kW kA kH kU kB kI kN kM kY kK kL kE kS a3 (by omega) (by omega)) yk_X10_four qw_1116 ⟨by decide, by decide⟩ [0, 1, 2, 3, 4, 5, 6, 7, 8, 9, 10, 11, 12, 13, 14, 15, 16, 17, 18] [] rfl rfl rfl rfl (by decide) 0 10 rfl rfl rfl rfl (Nat.le_of_ble_eq_true rfl) dX10_feed_32 ⟨by decide, by decide⟩ ?_
    rintro _ _ ⟨rfl, rfl⟩
    refine zz_st (st' := []) rfl (zz_ws (ws' := wMod z mh xT xD xP xR xC xW xA xH xU xB xI xN xM xY xK xL xE xS 0 m_ca (((m_tp + 4) + 4) + 4) m_fa m_at m_wr m_va m_pl m_st m_lo m_bl m_bc m_fo m_yl m_yw m_nu m_nl m_lu m_ll m_ln kT kD (mFour (mFour (mFour kP m_tp a1) (m_tp + 4) a2) ((m_tp + 4) + 4) a3) kR kC kW kA kH kU kB kI kN kM kY kK kL kE kS) rfl ?_)
    refine zz_aload_n C 0 dX10_feed_35 rfl rfl ?_
    refine zz_iload C 4 dX10_feed_36 rfl ?_
    refine zz_callV (wr := ([] : va_W)) (st := []) C (cc_X10_four l z mh xT xD xP xR xC xW xA xH xU xB xI xN xM xY xK xL xE xS 0 m_ca (((m_tp + 4) + 4) + 4) m_fa m_at m_wr m_va m_pl m_st m_lo m_bl m_bc m_fo m_yl m_yw m_nu m_nl m_lu m_ll m_ln kT kD (mFour (mFour (mFour kP m_tp a1) (m_tp + 4) a2) ((m_tp + 4) + 4) a3) kR kC kW kA kH kU kB kI kN kM kY kK kL kE kS a4 (by omega) (by omega)) yk_X10_four qw_1116 ⟨by decide, by decide⟩ [0, 1, 2, 3, 4, 5, 6, 7, 8, 9, 10, 11, 12, 13, 14, 15, 16, 17, 18] [] rfl rfl rfl rfl (by decide) 0 10 rfl rfl rfl rfl (Nat.le_of_ble_eq_true rfl) dX10_feed_38 ⟨by decide, by decide⟩ ?_
    rintro _ _ ⟨rfl, rfl⟩
    refine zz_st (st' := []) rfl (zz_ws (ws' := wMod z mh xT xD xP xR xC xW xA xH xU xB xI xN xM xY xK xL xE xS 0 m_ca ((((m_tp + 4) + 4) + 4) + 4) m_fa m_at m_wr m_va m_pl m_st m_lo m_bl m_bc m_fo m_yl m_yw m_nu m_nl m_lu m_ll m_ln kT kD (mFour (mFour (mFour (mFour kP m_tp a1) (m_tp + 4) a2) ((m_tp + 4) + 4) a3) (((m_tp + 4) + 4) + 4) a4) kR kC kW kA kH kU kB kI kN kM kY kK kL kE kS) rfl ?_)
    refine zz_aload_n C 0 dX10_feed_41 rfl rfl ?_
    refine zz_iload C 5 dX10_feed_42 rfl ?_
    refine zz_callV (wr := ([] : va_W)) (st := []) C (cc_X10_four l z mh xT xD xP xR xC xW xA xH xU xB xI xN xM xY xK xL xE xS 0 m_ca ((((m_tp + 4) + 4) + 4) + 4) m_fa m_at m_wr m_va m_pl m_st m_lo m_bl m_bc m_fo m_yl m_yw m_nu m_nl m_lu m_ll m_ln kT kD (mFour (mFour (mFour (mFour kP m_tp a1) (m_tp + 4) a2) ((m_tp + 4) + 4) a3) (((m_tp + 4) + 4) + 4) a4) kR kC kW kA kH kU kB kI kN kM kY kK kL kE kS a5 (by omega) (by omega)) yk_X10_four qw_1116 ⟨by decide, by decide⟩ [0, 1, 2, 3, 4, 5, 6, 7, 8, 9, 10, 11, 12, 13, 14, 15, 16, 17, 18] [] rfl rfl rfl rfl (by decide) 0 10 rfl rfl rfl rfl (Nat.le_of_ble_eq_true rfl) dX10_feed_44 ⟨by decide, by decide⟩ ?_
    rintro _ _ ⟨rfl, rfl⟩
    refine zz_st (st' := []) rfl (zz_ws (ws' := wMod z mh xT xD xP xR xC xW xA xH xU xB xI xN xM xY xK xL xE xS 0 m_ca (((((m_tp + 4) + 4) + 4) + 4) + 4) m_fa m_at m_wr m_va m_pl m_st m_lo m_bl m_bc m_fo m_yl m_yw m_nu m_nl m_lu m_ll m_ln kT kD (mFour (mFour (mFour (mFour (mFour kP m_tp a1) (m_tp + 4) a2) ((m_tp + 4) + 4) a3) (((m_tp + 4) + 4) + 4) a4) ((((m_tp + 4) + 4) + 4) + 4) a5) kR kC kW kA kH kU kB kI kN kM kY kK kL kE kS) rfl ?_)
    refine zz_aload_n C 0 dX10_feed_47 rfl rfl ?_
    refine zz_get C 0 (ci := 10) (k := 5) rfl rfl in_X10 (by decide) qw_931 rfl rfl dX10_feed_48 ?_
    exact zz_iret C hr dX10_feed_51 ⟨_, _, _, Or.inl ⟨by omega, by omega, by omega, feed_eq kP m_tp a1 a2 a3 a4 a5⟩, rfl, rfl⟩
  · skip
    refine zz_iconst C dX10_feed_18 ?_
    exact zz_iret C hr dX10_feed_19 ⟨-1, _, _, Or.inr ⟨by omega, rfl, rfl, rfl⟩, rfl, rfl⟩
