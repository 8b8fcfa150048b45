def mG (kT : Int → Int) (d : Int) : Int := 20 + kT (7 + d)
def mNet (kT row : Int → Int) (d : Int) : Int := -kT (2 + d) + zsum (fun b => row b * mYield kT b d) (kT 1)
def mHeld (kT : Int → Int) (b : Int) : Int := kT (42 + b)
def mBal (kT row : Int → Int) (start : Int) : Int → Int := bal start (mG kT) (mNet kT row)
def mCar (kT : Int → Int) (a j : Int) : Int := p20 a * grw (mG kT) a j
/-- the rates are 6 at most, what is held or bought 200 -/
def mOk2 (kT : Int → Int) : Prop := ∀ d : Int, 1 ≤ d → d ≤ 4 → 0 ≤ kT (7 + d) ∧ kT (7 + d) ≤ 6
theorem mYield_rng {kT : Int → Int} (h : mOk kT) {b : Int} (hb : 0 ≤ b ∧ b < 5) (d : Int) : 0 ≤ mYield kT b d ∧ mYield kT b d ≤ 400 := by
  have h1 := h.2.2 (12 + b) (by omega) (by omega)
  have h2 := h.2.2 (17 + b) (by omega) (by omega)
  unfold mYield
  repeat' split
  all_goals omega
theorem grw_rng {g : Int → Int} {a n : Int} (hg : ∀ i : Int, a < i → i ≤ n → 20 ≤ g i ∧ g i ≤ 26) (h0 : 0 ≤ a) {j : Int} (h1 : a ≤ j) (h2 : j ≤ n) (h4 : n ≤ 4) : 1 ≤ p20 a * grw g a j ∧ p20 a * grw g a j ≤ 456976 := by
  have e : ∀ (g' : Int → Int) (m : Nat), (a + (m : Int) ≤ n) → (∀ i : Int, a < i → i ≤ n → g' i = g i) → grwN g' a m = grwN g a m := by
    intro g' m
    induction m with
    | zero => intro _ _; rfl
    | succ m ih =>
      intro hm hq
      show grwN g' a m * g' (a + (m : Int) + 1) = grwN g a m * g (a + (m : Int) + 1)
      rw [ih (by omega) hq, hq _ (by omega) (by omega)]
  have h := carr_rng (g := fun i => if a < i ∧ i ≤ n then g i else 20) (fun i => by
    show 20 ≤ (if a < i ∧ i ≤ n then g i else 20) ∧ (if a < i ∧ i ≤ n then g i else 20) ≤ 26
    split
    · rename_i q; exact hg i q.1 q.2
    · omega) h0 h1 (by omega)
  unfold grw at h ⊢
  rw [e _ _ (by omega) (fun i q1 q2 => if_pos ⟨q1, q2⟩)] at h
  exact h
theorem bal_congr {start : Int} {g g' net net' : Int → Int} {n : Int} (hg : ∀ i : Int, 1 ≤ i → i ≤ n → g i = g' i) (hn : ∀ i : Int, 1 ≤ i → i ≤ n → net i = net' i) {k : Int} (h0 : 0 ≤ k) (h1 : k ≤ n) : bal start g net k = bal start g' net' k := by
  have key : ∀ m : Nat, (m : Int) ≤ n → balN start g net m = balN start g' net' m := by
    intro m
    induction m with
    | zero => intro _; rfl
    | succ m ih =>
      intro hm
      show balN start g net m * g ((m : Int) + 1) + 20 ^ (m + 1) * net ((m : Int) + 1) = balN start g' net' m * g' ((m : Int) + 1) + 20 ^ (m + 1) * net' ((m : Int) + 1)
      rw [ih (by omega), hg _ (by omega) (by omega), hn _ (by omega) (by omega)]
  exact key k.toNat (by omega)
theorem grw_congr {g g' : Int → Int} {a n j : Int} (hg : ∀ i : Int, a < i → i ≤ n → g i = g' i) (h1 : a ≤ j) (h2 : j ≤ n) : grw g a j = grw g' a j := by
  have e : ∀ m : Nat, (a + (m : Int) ≤ n) → grwN g a m = grwN g' a m := by
    intro m
    induction m with
    | zero => intro _; rfl
    | succ m ih =>
      intro hm
      show grwN g a m * g (a + (m : Int) + 1) = grwN g' a m * g' (a + (m : Int) + 1)
      rw [ih (by omega), hg _ (by omega) (by omega)]
  exact e _ (by omega)
/-- the balances stay in bounds where the dates do -/
theorem bal_rng2 {start : Int} {g net : Int → Int} {n : Int} (hs : 0 ≤ start ∧ start ≤ 9999) (hg : ∀ i : Int, 1 ≤ i → i ≤ n → 20 ≤ g i ∧ g i ≤ 26) (hn : ∀ i : Int, 1 ≤ i → i ≤ n → -1000000 ≤ net i ∧ net i ≤ 1000000) (h4 : n ≤ 4) {k : Int} (h0 : 0 ≤ k) (h1 : k ≤ n) : -1300000000000 ≤ bal start g net k ∧ bal start g net k ≤ 1300000000000 := by
  rw [bal_congr (g' := fun i => if 1 ≤ i ∧ i ≤ n then g i else 20) (net' := fun i => if 1 ≤ i ∧ i ≤ n then net i else 0) (n := n) (fun i a b => (if_pos ⟨a, b⟩).symm) (fun i a b => (if_pos ⟨a, b⟩).symm) h0 h1]
  refine bal_rng hs (fun i => ?_) (fun i => ?_) h0 (by omega)
  · show 0 ≤ (if 1 ≤ i ∧ i ≤ n then g i else 20) ∧ (if 1 ≤ i ∧ i ≤ n then g i else 20) ≤ 26
    split
    · rename_i q; have := hg i q.1 q.2; omega
    · omega
  · show -1000000 ≤ (if 1 ≤ i ∧ i ≤ n then net i else 0) ∧ (if 1 ≤ i ∧ i ≤ n then net i else 0) ≤ 1000000
    split
    · rename_i q; exact hn i q.1 q.2
    · omega
theorem sumN_rng2 {f : Int → Int} {lo hi : Int} : ∀ n : Nat, (∀ i : Int, 0 ≤ i → i < (n : Int) → lo ≤ f i ∧ f i ≤ hi) → (n : Int) * lo ≤ sumN f n ∧ sumN f n ≤ (n : Int) * hi
  | 0, _ => by simp [sumN]
  | n + 1, h => by
    have h1 := sumN_rng2 n (fun i a b => h i a (by omega))
    have h2 := h (n : Int) (by omega) (by omega)
    have e : sumN f (n + 1) = sumN f n + f (n : Int) := rfl
    rw [e, Int.natCast_succ, Int.add_mul, Int.add_mul]
    omega
theorem zsum_rng2 {f : Int → Int} {lo hi n : Int} (hn : 0 ≤ n) (h : ∀ i : Int, 0 ≤ i → i < n → lo ≤ f i ∧ f i ≤ hi) : n * lo ≤ zsum f n ∧ zsum f n ≤ n * hi := by
  have := sumN_rng2 n.toNat (fun i a b => h i a (by omega))
  rw [Int.toNat_of_nonneg hn] at this
  exact this
theorem mNet_rng {kT row : Int → Int} (h : mOk kT) (hr : ∀ b : Int, 0 ≤ b → b < 5 → 0 ≤ row b ∧ row b ≤ 200) {d : Int} (hd : 1 ≤ d ∧ d ≤ 4) : -1000000 ≤ mNet kT row d ∧ mNet kT row d ≤ 1000000 := by
  unfold mNet
  have h1 := h.2.2 (2 + d) (by omega) (by omega)
  have h2 := h.2.1
  have h3 := zsum_rng2 (f := fun b => row b * mYield kT b d) (lo := 0) (hi := 80000) h2.1 (fun i a b => mul_pos_rng (hr i a (by omega)) (mYield_rng h ⟨a, by omega⟩ d))
  have h4 : kT 1 * 80000 ≤ 400000 := by omega
  omega
theorem mBal_rng {kT row : Int → Int} {start : Int} (h : mOk kT) (h2 : mOk2 kT) (hr : ∀ b : Int, 0 ≤ b → b < 5 → 0 ≤ row b ∧ row b ≤ 200) (hs : 0 ≤ start ∧ start ≤ 9999) {k : Int} (h0 : 0 ≤ k) (h1 : k ≤ kT 0) : -1300000000000 ≤ mBal kT row start k ∧ mBal kT row start k ≤ 1300000000000 :=
  bal_rng2 hs (fun i a b => by have := h2 i a (by have := h.1; omega); unfold mG; omega) (fun i a b => mNet_rng h hr ⟨a, by have := h.1; omega⟩) h.1.2 h0 h1
theorem mCar_rng {kT : Int → Int} (h : mOk kT) (h2 : mOk2 kT) {a j : Int} (h0 : 0 ≤ a) (h1 : a ≤ j) (h3 : j ≤ kT 0) : 1 ≤ mCar kT a j ∧ mCar kT a j ≤ 456976 :=
  grw_rng (n := kT 0) (fun i q1 q2 => by have := h2 i (by omega) (by have := h.1; omega); unfold mG; omega) h0 h1 h3 h.1.2
theorem mHeld_rng {kT : Int → Int} (h : mOk kT) : ∀ b : Int, 0 ≤ b → b < 5 → 0 ≤ mHeld kT b ∧ mHeld kT b ≤ 200 := fun b a c => h.2.2 (42 + b) (by omega) (by omega)
/-- the answers of balance -/
def isBal (B : Int → Int) (n t un q : Int) : Prop := ∃ f : Int, fstNeg B n f ∧ (((0 ≤ t ∧ t ≤ n) ∧ (f = 0 ∨ t < f) ∧ q = ltm (B t) (p20 t) un) ∨ (¬ ((0 ≤ t ∧ t ≤ n) ∧ (f = 0 ∨ t < f)) ∧ q = -1))
theorem fstNeg_at {B : Int → Int} {n f t : Int} (h : fstNeg B n f) (h0 : 0 ≤ B 0) (ht : 0 ≤ t ∧ t ≤ n) (hf : f = 0 ∨ t < f) : 0 ≤ B t := by
  by_cases e : t = 0
  · rw [e]; exact h0
  · rcases h with ⟨h1, h2⟩ | ⟨h1, h2, h3, h4⟩
    · exact h2 t (by omega) ht.2
    · exact h4 t (by omega) (by omega)
theorem fstNeg_congr {B B' : Int → Int} {n f : Int} (h : fstNeg B n f) (e : ∀ k : Int, 0 ≤ k → k ≤ n → B k = B' k) : fstNeg B' n f := by
  rcases h with ⟨h1, h2⟩ | ⟨h1, h2, h3, h4⟩
  · exact Or.inl ⟨h1, fun k a b => by rw [← e k (by omega) b]; exact h2 k a b⟩
  · exact Or.inr ⟨h1, h2, by rw [← e f (by omega) h2]; exact h3, fun k a b => by rw [← e k (by omega) (by omega)]; exact h4 k a b⟩
/-- of need and lack -/
def isNeed (B cr : Int → Int) (a n un q : Int) : Prop := ∃ rn rd : Int, isLack B cr a n rn rd ∧ q = ltm rn rd un
def isLak (B cr : Int → Int) (n d un q : Int) : Prop := ∃ f : Int, fstNeg B n f ∧ (((0 ≤ d ∧ d ≤ n) ∧ ¬ (0 < f ∧ f < d) ∧ isNeed B cr d n un q) ∨ (¬ ((0 ≤ d ∧ d ≤ n) ∧ ¬ (0 < f ∧ f < d)) ∧ q = -1))
theorem isLack_congr {B B' cr cr' : Int → Int} {a n rn rd : Int} (h : isLack B cr a n rn rd) (e : ∀ k : Int, a ≤ k → k ≤ n → B k = B' k) (e2 : ∀ k : Int, a ≤ k → k ≤ n → cr k = cr' k) : isLack B' cr' a n rn rd := by
  obtain ⟨h1, h2, h3, h4⟩ := h
  refine ⟨h1, h2, fun j p q => by rw [← e j p q, ← e2 j p q]; exact h3 j p q, ?_⟩
  rcases h4 with h4 | ⟨j, p, q, r, s⟩
  · exact Or.inl h4
  · exact Or.inr ⟨j, p, q, by rw [← e j p q]; exact r, by rw [← e2 j p q]; exact s⟩
theorem isCmp_gt2 {a b c d r : Int} (h : isCmp a b c d r) : (0 < r ↔ c * b < a * d) := by
  rcases h with ⟨h1, h2⟩ | ⟨h1, h2⟩ | ⟨h1, h2⟩ <;> omega
theorem mBal_step {kT row gS : Int → Int} {start k : Int} (hk : 1 ≤ k) (hS : gS (k - 1) = mBal kT row start (k - 1)) : (20 + kT (7 + k)) * gS (k - 1) + p20 k * (-kT (2 + k) + zsum (fun b => row b * mYield kT b k) (kT 1)) = mBal kT row start k := by
  have h1 := bal_succ start (mG kT) (mNet kT row) (k := k - 1) (by omega)
  rw [show k - 1 + 1 = k by omega] at h1
  unfold mBal at hS ⊢
  rw [h1, hS, Int.mul_comm (20 + kT (7 + k))]
  rfl
theorem fstNeg_rng {B : Int → Int} {n f : Int} (h : fstNeg B n f) (hn : n ≤ 4) : 0 ≤ f ∧ f ≤ 4 := by
  rcases h with ⟨h1, h2⟩ | ⟨h1, h2, h3, h4⟩ <;> omega
theorem needs_keep {b q n c : Int} (hb : 0 ≤ b) (hq : 1 ≤ q) (hn : 0 ≤ n) (hc : 1 ≤ c) : -b * q ≤ n * c := by
  have h1 : 0 ≤ b * q := Int.mul_nonneg hb (by omega)
  have h2 : 0 ≤ n * c := Int.mul_nonneg hn (by omega)
  rw [Int.neg_mul]
  omega

abbrev po_X10_power (z : zC) (mh : Nat) (xT : Nat) (xD : Nat) (xP : Nat) (xR : Nat) (xC : Nat) (xW : Nat) (xA : Nat) (xH : Nat) (xU : Nat) (xB : Nat) (xI : Nat) (xN : Nat) (xM : Nat) (xY : Nat) (xK : Nat) (xL : Nat) (xE : Nat) (xS : Nat) (m_ra : Int) (m_ca : Int) (m_tp : Int) (m_fa : Int) (m_at : Int) (m_wr : Int) (m_va : Int) (m_pl : Int) (m_st : Int) (m_lo : Int) (m_bl : Int) (m_bc : Int) (m_fo : Int) (m_yl : Int) (m_yw : Int) (m_nu : Int) (m_nl : Int) (m_lu : Int) (m_ll : Int) (m_ln : Int) (kT : Int → Int) (kD : Int → Int) (kP : Int → Int) (kR : Int → Int) (kC : Int → Int) (kW : Int → Int) (kA : Int → Int) (kH : Int → Int) (kU : Int → Int) (kB : Int → Int) (kI : Int → Int) (kN : Int → Int) (kM : Int → Int) (kY : Int → Int) (kK : Int → Int) (kL : Int → Int) (kE : Int → Int) (kS : Int → Int) (n9 : Int) : Option Value → va_W → Prop := fun v w => v = some (Value.long (iL (p20 n9))) ∧ w = wMod z mh xT xD xP xR xC xW xA xH xU xB xI xN xM xY xK xL xE xS m_ra m_ca m_tp m_fa m_at m_wr m_va m_pl m_st m_lo m_bl m_bc m_fo m_yl m_yw m_nu m_nl m_lu m_ll m_ln kT kD kP kR kC kW kA kH kU kB kI kN kM kY kK kL kE kS
abbrev rm_X10_power : Room := { frames := 1, cells := 0, slots := 0, locals := 40 }
set_option maxHeartbeats 4000000 in
set_option maxRecDepth 100000 in
theorem cc_X10_power (l : Launch) (z : zC) (mh : Nat) (xT : Nat) (xD : Nat) (xP : Nat) (xR : Nat) (xC : Nat) (xW : Nat) (xA : Nat) (xH : Nat) (xU : Nat) (xB : Nat) (xI : Nat) (xN : Nat) (xM : Nat) (xY : Nat) (xK : Nat) (xL : Nat) (xE : Nat) (xS : Nat) (m_ra : Int) (m_ca : Int) (m_tp : Int) (m_fa : Int) (m_at : Int) (m_wr : Int) (m_va : Int) (m_pl : Int) (m_st : Int) (m_lo : Int) (m_bl : Int) (m_bc : Int) (m_fo : Int) (m_yl : Int) (m_yw : Int) (m_nu : Int) (m_nl : Int) (m_lu : Int) (m_ll : Int) (m_ln : Int) (kT : Int → Int) (kD : Int → Int) (kP : Int → Int) (kR : Int → Int) (kC : Int → Int) (kW : Int → Int) (kA : Int → Int) (kH : Int → Int) (kU : Int → Int) (kB : Int → Int) (kI : Int → Int) (kN : Int → Int) (kM : Int → Int) (kY : Int → Int) (kK : Int → Int) (kL : Int → Int) (kE : Int → Int) (kS : Int → Int) (n9 : Int) (hn9 : 0 ≤ n9 ∧ n9 ≤ 4) : zzMet l yX10_power cX10_power 5 (Option.some .long) rm_X10_power z [.ref mh, .int (iI n9)] (wMod z mh xT xD xP xR xC xW xA xH xU xB xI xN xM xY xK xL xE xS m_ra m_ca m_tp m_fa m_at m_wr m_va m_pl m_st m_lo m_bl m_bc m_fo m_yl m_yw m_nu m_nl m_lu m_ll m_ln kT kD kP kR kC kW kA kH kU kB kI kN kM kY kK kL kE kS) (po_X10_power z mh xT xD xP xR xC xW xA xH xU xB xI xN xM xY xK xL xE xS m_ra m_ca m_tp m_fa m_at m_wr m_va m_pl m_st m_lo m_bl m_bc m_fo m_yl m_yw m_nu m_nl m_lu m_ll m_ln kT kD kP kR kC kW kA kH kU kB kI kN kM kY kK kL kE kS n9) := by
  refine zzMet.of (own := RX10) (ls0 := [(0, .ref mh), (1, .int (iI n9))]) (by decide) rfl (Nat.le_of_ble_eq_true rfl) rfl ?_
  intro p e s m below meth c A C hr hnm
  refine zz_lconst (a := 1) C dX10_power_0 (by decide +kernel) ?_
  refine zz_lstore_n (ls' := [(2, .long (iL 1)), (0, .ref mh), (1, .int (iI n9))]) C dX10_power_1 rfl (by decide) rfl ?_
  refine zz_iconst C dX10_power_2 ?_
  refine zz_istore (ls' := [(4, .int (iI 0)), (2, .long (iL 1)), (0, .ref mh), (1, .int (iI n9))]) C dX10_power_3 (by decide) rfl ?_
  have Lp5 : ∀ (fu9 : Nat) (k : Int) (v : Int), (0 ≤ k ∧ k ≤ n9) → (v = p20 k) → (n9 - k).toNat < fu9 → zzW p l e rm_X10_power s m ([.ref mh, .int (iI n9)] : List Value).toArray below meth c z A 5 (MQ below (zQ z A (po_X10_power z mh xT xD xP xR xC xW xA xH xU xB xI xN xM xY xK xL xE xS m_ra m_ca m_tp m_fa m_at m_wr m_va m_pl m_st m_lo m_bl m_bc m_fo m_yl m_yw m_nu m_nl m_lu m_ll m_ln kT kD kP kR kC kW kA kH kU kB kI kN kM kY kK kL kE kS n9)) ([.ref mh, .int (iI n9)] : List Value).toArray s 0 0 A) 0 0 (wMod z mh xT xD xP xR xC xW xA xH xU xB xI xN xM xY xK xL xE xS m_ra m_ca m_tp m_fa m_at m_wr m_va m_pl m_st m_lo m_bl m_bc m_fo m_yl m_yw m_nu m_nl m_lu m_ll m_ln kT kD kP kR kC kW kA kH kU kB kI kN kM kY kK kL kE kS) [(0, .ref mh), (1, .int (iI n9)), (2, .long (iL v)), (4, .int (iI k))] [] 5 := by
    intro fu9
    induction fu9 with
    | zero => intro k v hk hv h9; exact absurd h9 (Nat.not_lt_zero _)
    | succ fu9 ih5 =>
      intro k v hk hv hm5
      refine zz_iload C 3 dX10_power_5 rfl ?_
      refine zz_iload_n C 1 dX10_power_7 rfl rfl ?_
      refine zz_icmp_ge (tgt := 23) C dX10_power_8 (by decide) (by unfold rI; omega) (by unfold rI; omega) (fun c8 => ?_) (fun c8 => ?_)
      · skip
        refine zz_lload_n C 2 dX10_power_23 rfl rfl ?_
        have hk5 : k = n9 := by omega
        subst hk5
        exact zz_lret C hr dX10_power_24 ⟨zz_vL hv, rfl⟩
      · skip
        refine zz_lload_n C 2 dX10_power_11 rfl rfl ?_
        refine zz_ldc2 (a := 20) C qw_1196 (by decide +kernel) dX10_power_12 ?_
        refine zz_lmul C dX10_power_15 ?_
        refine zz_lstore_n (ls' := [(2, .long (iL (v * 20))), (0, .ref mh), (1, .int (iI n9)), (4, .int (iI k))]) C dX10_power_16 rfl (by decide) rfl ?_
        refine zz_iinc (ls' := [(4, .int (iI (k + 1))), (2, .long (iL (v * 20))), (0, .ref mh), (1, .int (iI n9))]) C 3 dX10_power_17 rfl (by decide) rfl ?_
        refine zz_goto (tgt := 5) C dX10_power_20 (by decide) ?_
        refine zz_loc (ls' := [(0, .ref mh), (1, .int (iI n9)), (2, .long (iL (v * 20))), (4, .int (iI (k + 1)))]) [2, 3, 1, 0] rfl ?_
        exact ih5 (k + 1) (v * 20) (by omega) (by rw [hv, p20_succ hk.1]) (by omega)
  refine zz_loc (ls' := [(0, .ref mh), (1, .int (iI n9)), (2, .long (iL 1)), (4, .int (iI 0))]) [2, 3, 1, 0] rfl ?_
  exact Lp5 _ 0 1 (by omega) rfl (Nat.lt_succ_self _)
abbrev po_X10_grows (z : zC) (mh : Nat) (xT : Nat) (xD : Nat) (xP : Nat) (xR : Nat) (xC : Nat) (xW : Nat) (xA : Nat) (xH : Nat) (xU : Nat) (xB : Nat) (xI : Nat) (xN : Nat) (xM : Nat) (xY : Nat) (xK : Nat) (xL : Nat) (xE : Nat) (xS : Nat) (m_ra : Int) (m_ca : Int) (m_tp : Int) (m_fa : Int) (m_at : Int) (m_wr : Int) (m_va : Int) (m_pl : Int) (m_st : Int) (m_lo : Int) (m_bl : Int) (m_bc : Int) (m_fo : Int) (m_yl : Int) (m_yw : Int) (m_nu : Int) (m_nl : Int) (m_lu : Int) (m_ll : Int) (m_ln : Int) (kT : Int → Int) (kD : Int → Int) (kP : Int → Int) (kR : Int → Int) (kC : Int → Int) (kW : Int → Int) (kA : Int → Int) (kH : Int → Int) (kU : Int → Int) (kB : Int → Int) (kI : Int → Int) (kN : Int → Int) (kM : Int → Int) (kY : Int → Int) (kK : Int → Int) (kL : Int → Int) (kE : Int → Int) (kS : Int → Int) (a9 : Int) (b9 : Int) : Option Value → va_W → Prop := fun v w => v = some (Value.long (iL (grw (mG kT) a9 b9))) ∧ w = wMod z mh xT xD xP xR xC xW xA xH xU xB xI xN xM xY xK xL xE xS m_ra m_ca m_tp m_fa m_at m_wr m_va m_pl m_st m_lo m_bl m_bc m_fo m_yl m_yw m_nu m_nl m_lu m_ll m_ln kT kD kP kR kC kW kA kH kU kB kI kN kM kY kK kL kE kS
abbrev rm_X10_grows : Room := { frames := 1, cells := 0, slots := 0, locals := 40 }
set_option maxHeartbeats 4000000 in
set_option maxRecDepth 100000 in
theorem cc_X10_grows (l : Launch) (z : zC) (mh : Nat) (xT : Nat) (xD : Nat) (xP : Nat) (xR : Nat) (xC : Nat) (xW : Nat) (xA : Nat) (xH : Nat) (xU : Nat) (xB : Nat) (xI : Nat) (xN : Nat) (xM : Nat) (xY : Nat) (xK : Nat) (xL : Nat) (xE : Nat) (xS : Nat) (m_ra : Int) (m_ca : Int) (m_tp : Int) (m_fa : Int) (m_at : Int) (m_wr : Int) (m_va : Int) (m_pl : Int) (m_st : Int) (m_lo : Int) (m_bl : Int) (m_bc : Int) (m_fo : Int) (m_yl : Int) (m_yw : Int) (m_nu : Int) (m_nl : Int) (m_lu : Int) (m_ll : Int) (m_ln : Int) (kT : Int → Int) (kD : Int → Int) (kP : Int → Int) (kR : Int → Int) (kC : Int → Int) (kW : Int → Int) (kA : Int → Int) (kH : Int → Int) (kU : Int → Int) (kB : Int → Int) (kI : Int → Int) (kN : Int → Int) (kM : Int → Int) (kY : Int → Int) (kK : Int → Int) (kL : Int → Int) (kE : Int → Int) (kS : Int → Int) (a9 : Int) (b9 : Int) (hkT : mOk kT) (ha9 : 0 ≤ a9 ∧ a9 ≤ b9 ∧ b9 ≤ kT 0) : zzMet l yX10_grows cX10_grows 6 (Option.some .long) rm_X10_grows z [.ref mh, .int (iI a9), .int (iI b9)] (wMod z mh xT xD xP xR xC xW xA xH xU xB xI xN xM xY xK xL xE xS m_ra m_ca m_tp m_fa m_at m_wr m_va m_pl m_st m_lo m_bl m_bc m_fo m_yl m_yw m_nu m_nl m_lu m_ll m_ln kT kD kP kR kC kW kA kH kU kB kI kN kM kY kK kL kE kS) (po_X10_grows z mh xT xD xP xR xC xW xA xH xU xB xI xN xM xY xK xL xE xS m_ra m_ca m_tp m_fa m_at m_wr m_va m_pl m_st m_lo m_bl m_bc m_fo m_yl m_yw m_nu m_nl m_lu m_ll m_ln kT kD kP kR kC kW kA kH kU kB kI kN kM kY kK kL kE kS a9 b9) := by
  refine zzMet.of (own := RX10) (ls0 := [(0, .ref mh), (1, .int (iI a9)), (2, .int (iI b9))]) (by decide) rfl (Nat.le_of_ble_eq_true rfl) rfl ?_
  intro p e s m below meth c A C hr hnm
  have hk0 := hkT.1
  have hk1 := hkT.2.1
  refine zz_lconst (a := 1) C dX10_grows_0 (by decide +kernel) ?_
  refine zz_lstore_n (ls' := [(3, .long (iL 1)), (0, .ref mh), (1, .int (iI a9)), (2, .int (iI b9))]) C dX10_grows_1 rfl (by decide) rfl ?_
  refine zz_iload_n C 2 dX10_grows_2 rfl rfl ?_
  refine zz_iconst C dX10_grows_3 ?_
  refine zz_iadd C dX10_grows_4 ?_
  refine zz_istore (ls' := [(5, .int (iI (a9 + 1))), (3, .long (iL 1)), (0, .ref mh), (1, .int (iI a9)), (2, .int (iI b9))]) C dX10_grows_5 (by decide) rfl ?_
  have Lp7 : ∀ (fu9 : Nat) (k : Int) (v : Int), (a9 < k ∧ k ≤ b9 + 1) → (v = grw (mG kT) a9 (k - 1)) → (b9 + 1 - k).toNat < fu9 → zzW p l e rm_X10_grows s m ([.ref mh, .int (iI a9), .int (iI b9)] : List Value).toArray below meth c z A 6 (MQ below (zQ z A (po_X10_grows z mh xT xD xP xR xC xW xA xH xU xB xI xN xM xY xK xL xE xS m_ra m_ca m_tp m_fa m_at m_wr m_va m_pl m_st m_lo m_bl m_bc m_fo m_yl m_yw m_nu m_nl m_lu m_ll m_ln kT kD kP kR kC kW kA kH kU kB kI kN kM kY kK kL kE kS a9 b9)) ([.ref mh, .int (iI a9), .int (iI b9)] : List Value).toArray s 0 0 A) 0 0 (wMod z mh xT xD xP xR xC xW xA xH xU xB xI xN xM xY xK xL xE xS m_ra m_ca m_tp m_fa m_at m_wr m_va m_pl m_st m_lo m_bl m_bc m_fo m_yl m_yw m_nu m_nl m_lu m_ll m_ln kT kD kP kR kC kW kA kH kU kB kI kN kM kY kK kL kE kS) [(0, .ref mh), (1, .int (iI a9)), (2, .int (iI b9)), (3, .long (iL v)), (5, .int (iI k))] [] 7 := by
    intro fu9
    induction fu9 with
    | zero => intro k v hk hv h9; exact absurd h9 (Nat.not_lt_zero _)
    | succ fu9 ih7 =>
      intro k v hk hv hm7
      refine zz_iload C 4 dX10_grows_7 rfl ?_
      refine zz_iload_n C 2 dX10_grows_9 rfl rfl ?_
      refine zz_icmp_gt (tgt := 37) C dX10_grows_10 (by decide) (by unfold rI; omega) (by unfold rI; omega) (fun c10 => ?_) (fun c10 => ?_)
      · skip
        refine zz_lload_n C 3 dX10_grows_37 rfl rfl ?_
        have hk5 : k = b9 + 1 := by omega
        subst hk5
        exact zz_lret C hr dX10_grows_38 ⟨zz_vL (by rw [hv, show b9 + 1 - 1 = b9 by omega]), rfl⟩
      · skip
        refine zz_lload_n C 3 dX10_grows_13 rfl rfl ?_
        refine zz_ldc2 (a := 20) C qw_1196 (by decide +kernel) dX10_grows_14 ?_
        refine zz_aload_n C 0 dX10_grows_17 rfl rfl ?_
        refine zz_get C 0 (ci := 10) (k := 1) rfl rfl in_X10 (by decide) qw_927 rfl rfl dX10_grows_18 ?_
        refine zz_bipush C dX10_grows_21 (by decide +kernel) ?_
        refine zz_iload C 4 dX10_grows_23 rfl ?_
        refine zz_iadd C dX10_grows_25 ?_
        refine zz_iald C 1 rfl (by omega) (by omega) (by decide) dX10_grows_26 ?_
        have hr27 := hkT.2.2 (7 + k) (by omega) (by omega)
        refine zz_i2l C dX10_grows_27 (by unfold rI; omega) ?_
        refine zz_ladd C dX10_grows_28 ?_
        refine zz_lmul C dX10_grows_29 ?_
        refine zz_lstore_n (ls' := [(3, .long (iL (v * (20 + (kT (7 + k)))))), (0, .ref mh), (1, .int (iI a9)), (2, .int (iI b9)), (5, .int (iI k))]) C dX10_grows_30 rfl (by decide) rfl ?_
        refine zz_iinc (ls' := [(5, .int (iI (k + 1))), (3, .long (iL (v * (20 + (kT (7 + k)))))), (0, .ref mh), (1, .int (iI a9)), (2, .int (iI b9))]) C 4 dX10_grows_31 rfl (by decide) rfl ?_
        refine zz_goto (tgt := 7) C dX10_grows_34 (by decide) ?_
        refine zz_loc (ls' := [(0, .ref mh), (1, .int (iI a9)), (2, .int (iI b9)), (3, .long (iL (v * (20 + (kT (7 + k)))))), (5, .int (iI (k + 1)))]) [2, 3, 4, 1, 0] rfl ?_
        exact ih7 (k + 1) (v * (20 + (kT (7 + k)))) (by omega) (by rw [hv, show k + 1 - 1 = k - 1 + 1 by omega, grw_succ _ (by omega), show k - 1 + 1 = k by omega]; rfl) (by omega)
  refine zz_loc (ls' := [(0, .ref mh), (1, .int (iI a9)), (2, .int (iI b9)), (3, .long (iL 1)), (5, .int (iI (a9 + 1)))]) [2, 3, 4, 1, 0] rfl ?_
  exact Lp7 _ (a9 + 1) 1 (by omega) (by rw [show a9 + 1 - 1 = a9 by omega, grw_self]) (Nat.lt_succ_self _)
abbrev po_X10_runs_h (z : zC) (mh : Nat) (xT : Nat) (xD : Nat) (xP : Nat) (xR : Nat) (xC : Nat) (xW : Nat) (xA : Nat) (xH : Nat) (xU : Nat) (xB : Nat) (xI : Nat) (xN : Nat) (xM : Nat) (xY : Nat) (xK : Nat) (xL : Nat) (xE : Nat) (xS : Nat) (m_ra : Int) (m_ca : Int) (m_tp : Int) (m_fa : Int) (m_at : Int) (m_wr : Int) (m_va : Int) (m_pl : Int) (m_st : Int) (m_lo : Int) (m_bl : Int) (m_bc : Int) (m_fo : Int) (m_yl : Int) (m_yw : Int) (m_nu : Int) (m_nl : Int) (m_lu : Int) (m_ll : Int) (m_ln : Int) (kT : Int → Int) (kD : Int → Int) (kP : Int → Int) (kR : Int → Int) (kC : Int → Int) (kW : Int → Int) (kA : Int → Int) (kH : Int → Int) (kU : Int → Int) (kB : Int → Int) (kI : Int → Int) (kN : Int → Int) (kM : Int → Int) (kY : Int → Int) (kK : Int → Int) (kL : Int → Int) (kE : Int → Int) (kS : Int → Int) (su : Int) : Option Value → va_W → Prop := fun v w => ∃ (gS : Int → Int), (∀ j : Int, 0 ≤ j → j ≤ kT 0 → gS j = mBal kT (mHeld kT) su j) ∧ v = none ∧ w = wMod z mh xT xD xP xR xC xW xA xH xU xB xI xN xM xY xK xL xE xS m_ra m_ca m_tp m_fa m_at m_wr m_va m_pl m_st m_lo m_bl m_bc m_fo m_yl m_yw m_nu m_nl m_lu m_ll m_ln kT kD kP kR kC kW kA kH kU kB kI kN kM kY kK kL kE gS
abbrev rm_X10_runs_h : Room := { frames := 2, cells := 0, slots := 0, locals := 64 }
set_option maxHeartbeats 4000000 in
set_option maxRecDepth 100000 in
theorem cc_X10_runs_h (l : Launch) (z : zC) (mh : Nat) (xT : Nat) (xD : Nat) (xP : Nat) (xR : Nat) (xC : Nat) (xW : Nat) (xA : Nat) (xH : Nat) (xU : Nat) (xB : Nat) (xI : Nat) (xN : Nat) (xM : Nat) (xY : Nat) (xK : Nat) (xL : Nat) (xE : Nat) (xS : Nat) (m_ra : Int) (m_ca : Int) (m_tp : Int) (m_fa : Int) (m_at : Int) (m_wr : Int) (m_va : Int) (m_pl : Int) (m_st : Int) (m_lo : Int) (m_bl : Int) (m_bc : Int) (m_fo : Int) (m_yl : Int) (m_yw : Int) (m_nu : Int) (m_nl : Int) (m_lu : Int) (m_ll : Int) (m_ln : Int) (kT : Int → Int) (kD : Int → Int) (kP : Int → Int) (kR : Int → Int) (kC : Int → Int) (kW : Int → Int) (kA : Int → Int) (kH : Int → Int) (kU : Int → Int) (kB : Int → Int) (kI : Int → Int) (kN : Int → Int) (kM : Int → Int) (kY : Int → Int) (kK : Int → Int) (kL : Int → Int) (kE : Int → Int) (kS : Int → Int) (su : Int) (hkT : mOk kT) (hsu : 0 ≤ su ∧ su ≤ 9999) : zzMet l yX10_runs cX10_runs 8 none rm_X10_runs_h z [.ref mh, .ref xT, .int (iI 42), .int (iI su)] (wMod z mh xT xD xP xR xC xW xA xH xU xB xI xN xM xY xK xL xE xS m_ra m_ca m_tp m_fa m_at m_wr m_va m_pl m_st m_lo m_bl m_bc m_fo m_yl m_yw m_nu m_nl m_lu m_ll m_ln kT kD kP kR kC kW kA kH kU kB kI kN kM kY kK kL kE kS) (po_X10_runs_h z mh xT xD xP xR xC xW xA xH xU xB xI xN xM xY xK xL xE xS m_ra m_ca m_tp m_fa m_at m_wr m_va m_pl m_st m_lo m_bl m_bc m_fo m_yl m_yw m_nu m_nl m_lu m_ll m_ln kT kD kP kR kC kW kA kH kU kB kI kN kM kY kK kL kE kS su) := by
  refine zzMet.of (own := RX10) (ls0 := [(0, .ref mh), (1, .ref xT), (2, .int (iI 42)), (3, .int (iI su))]) (by decide) rfl (Nat.le_of_ble_eq_true rfl) rfl ?_
  intro p e s m below meth c A C hr hnm
  have hk0 := hkT.1
  have hk1 := hkT.2.1
  refine zz_aload_n C 0 dX10_runs_0 rfl rfl ?_
  refine zz_get C 0 (ci := 10) (k := 34) rfl rfl in_X10 (by decide) qw_960 rfl rfl dX10_runs_1 ?_
  refine zz_iconst C dX10_runs_4 ?_
  refine zz_iload_n C 3 dX10_runs_5 rfl rfl ?_
  refine zz_i2l C dX10_runs_6 (by unfold rI; omega) ?_
  refine zz_last (ws' := wMod z mh xT xD xP xR xC xW xA xH xU xB xI xN xM xY xK xL xE xS m_ra m_ca m_tp m_fa m_at m_wr m_va m_pl m_st m_lo m_bl m_bc m_fo m_yl m_yw m_nu m_nl m_lu m_ll m_ln kT kD kP kR kC kW kA kH kU kB kI kN kM kY kK kL kE (zup kS 0 su)) C 18 rfl (by omega) (by omega) (by decide) rfl dX10_runs_7 ?_
  refine zz_iconst C dX10_runs_8 ?_
  refine zz_istore (ls' := [(4, .int (iI 1)), (0, .ref mh), (1, .ref xT), (2, .int (iI 42)), (3, .int (iI su))]) C dX10_runs_9 (by decide) rfl ?_
  have Lp11 : ∀ (fu9 : Nat) (k : Int) (gS : Int → Int), (1 ≤ k ∧ k ≤ kT 0 + 1) → (∀ j : Int, 0 ≤ j → j < k → gS j = mBal kT (mHeld kT) su j) → (kT 0 + 1 - k).toNat < fu9 → zzW p l e rm_X10_runs_h s m ([.ref mh, .ref xT, .int (iI 42), .int (iI su)] : List Value).toArray below meth c z A 8 (MQ below (zQ z A (po_X10_runs_h z mh xT xD xP xR xC xW xA xH xU xB xI xN xM xY xK xL xE xS m_ra m_ca m_tp m_fa m_at m_wr m_va m_pl m_st m_lo m_bl m_bc m_fo m_yl m_yw m_nu m_nl m_lu m_ll m_ln kT kD kP kR kC kW kA kH kU kB kI kN kM kY kK kL kE kS su)) ([.ref mh, .ref xT, .int (iI 42), .int (iI su)] : List Value).toArray s 0 0 A) 0 0 (wMod z mh xT xD xP xR xC xW xA xH xU xB xI xN xM xY xK xL xE xS m_ra m_ca m_tp m_fa m_at m_wr m_va m_pl m_st m_lo m_bl m_bc m_fo m_yl m_yw m_nu m_nl m_lu m_ll m_ln kT kD kP kR kC kW kA kH kU kB kI kN kM kY kK kL kE gS) [(0, .ref mh), (1, .ref xT), (2, .int (iI 42)), (3, .int (iI su)), (4, .int (iI k))] [] 11 := by
    intro fu9
    induction fu9 with
    | zero => intro k gS hk hgS h9; exact absurd h9 (Nat.not_lt_zero _)
    | succ fu9 ih11 =>
      intro k gS hk hgS hm11
      refine zz_iload C 4 dX10_runs_11 rfl ?_
      refine zz_aload_n C 0 dX10_runs_13 rfl rfl ?_
      refine zz_get C 0 (ci := 10) (k := 1) rfl rfl in_X10 (by decide) qw_927 rfl rfl dX10_runs_14 ?_
      refine zz_iconst C dX10_runs_17 ?_
      refine zz_iald C 1 rfl (by omega) (by omega) (by decide) dX10_runs_18 ?_
      refine zz_icmp_gt (tgt := 125) C dX10_runs_19 (by decide) (by unfold rI; omega) (by unfold rI; omega) (fun c19 => ?_) (fun c19 => ?_)
      · skip
        have hk5 : k = kT 0 + 1 := by omega
        subst hk5
        exact zz_vret C hr dX10_runs_125 ⟨gS, fun j h1 h2 => hgS j h1 (by omega), rfl, rfl⟩
      · skip
        refine zz_aload_n C 0 dX10_runs_22 rfl rfl ?_
        refine zz_get C 0 (ci := 10) (k := 1) rfl rfl in_X10 (by decide) qw_927 rfl rfl dX10_runs_23 ?_
        refine zz_iconst C dX10_runs_26 ?_
        refine zz_iload C 4 dX10_runs_27 rfl ?_
        refine zz_iadd C dX10_runs_29 ?_
        refine zz_iald C 1 rfl (by omega) (by omega) (by decide) dX10_runs_30 ?_
        have hr31 := hkT.2.2 (2 + k) (by omega) (by omega)
        refine zz_ineg C dX10_runs_31 ?_
        refine zz_i2l C dX10_runs_32 (by unfold rI; omega) ?_
        refine zz_lstore (ls' := [(5, .long (iL (-(kT (2 + k))))), (0, .ref mh), (1, .ref xT), (2, .int (iI 42)), (3, .int (iI su)), (4, .int (iI k))]) C dX10_runs_33 (by decide) rfl ?_
        refine zz_iconst C dX10_runs_35 ?_
        refine zz_istore (ls' := [(7, .int (iI 0)), (5, .long (iL (-(kT (2 + k))))), (0, .ref mh), (1, .ref xT), (2, .int (iI 42)), (3, .int (iI su)), (4, .int (iI k))]) C dX10_runs_36 (by decide) rfl ?_
        have Lp38 : ∀ (fu9 : Nat) (b7 : Int) (nt : Int), (0 ≤ b7 ∧ b7 ≤ kT 1) → (nt = -kT (2 + k) + zsum (fun b => mHeld kT b * mYield kT b k) b7) → (kT 1 - b7).toNat < fu9 → zzW p l e rm_X10_runs_h s m ([.ref mh, .ref xT, .int (iI 42), .int (iI su)] : List Value).toArray below meth c z A 8 (MQ below (zQ z A (po_X10_runs_h z mh xT xD xP xR xC xW xA xH xU xB xI xN xM xY xK xL xE xS m_ra m_ca m_tp m_fa m_at m_wr m_va m_pl m_st m_lo m_bl m_bc m_fo m_yl m_yw m_nu m_nl m_lu m_ll m_ln kT kD kP kR kC kW kA kH kU kB kI kN kM kY kK kL kE kS su)) ([.ref mh, .ref xT, .int (iI 42), .int (iI su)] : List Value).toArray s 0 0 A) 0 0 (wMod z mh xT xD xP xR xC xW xA xH xU xB xI xN xM xY xK xL xE xS m_ra m_ca m_tp m_fa m_at m_wr m_va m_pl m_st m_lo m_bl m_bc m_fo m_yl m_yw m_nu m_nl m_lu m_ll m_ln kT kD kP kR kC kW kA kH kU kB kI kN kM kY kK kL kE gS) [(0, .ref mh), (1, .ref xT), (2, .int (iI 42)), (3, .int (iI su)), (4, .int (iI k)), (5, .long (iL nt)), (7, .int (iI b7))] [] 38 := by
          intro fu9
          induction fu9 with
          | zero => intro b7 nt hb7 hnt h9; exact absurd h9 (Nat.not_lt_zero _)
          | succ fu9 ih38 =>
            intro b7 nt hb7 hnt hm38
            refine zz_iload C 6 dX10_runs_38 rfl ?_
            refine zz_aload_n C 0 dX10_runs_40 rfl rfl ?_
            refine zz_get C 0 (ci := 10) (k := 1) rfl rfl in_X10 (by decide) qw_927 rfl rfl dX10_runs_41 ?_
            refine zz_iconst C dX10_runs_44 ?_
            refine zz_iald C 1 rfl (by omega) (by omega) (by decide) dX10_runs_45 ?_
            refine zz_icmp_ge (tgt := 77) C dX10_runs_46 (by decide) (by unfold rI; omega) (by unfold rI; omega) (fun c46 => ?_) (fun c46 => ?_)
            · skip
              have hb5 : b7 = kT 1 := by omega
              have hr77 := hkT.2.2 (7 + k) (by omega) (by omega)
              have hs9 : (20 + kT (7 + k)) * gS (k - 1) + p20 k * nt = mBal kT (mHeld kT) su k := by rw [hnt, hb5]; exact mBal_step (by omega) (hgS (k - 1) (by omega) (by omega))
              refine zz_aload_n C 0 dX10_runs_77 rfl rfl ?_
              refine zz_get C 0 (ci := 10) (k := 34) rfl rfl in_X10 (by decide) qw_960 rfl rfl dX10_runs_78 ?_
              refine zz_iload C 4 dX10_runs_81 rfl ?_
              refine zz_ldc2 (a := 20) C qw_1196 (by decide +kernel) dX10_runs_83 ?_
              refine zz_aload_n C 0 dX10_runs_86 rfl rfl ?_
              refine zz_get C 0 (ci := 10) (k := 1) rfl rfl in_X10 (by decide) qw_927 rfl rfl dX10_runs_87 ?_
              refine zz_bipush C dX10_runs_90 (by decide +kernel) ?_
              refine zz_iload C 4 dX10_runs_92 rfl ?_
              refine zz_iadd C dX10_runs_94 ?_
              refine zz_iald C 1 rfl (by omega) (by omega) (by decide) dX10_runs_95 ?_
              refine zz_i2l C dX10_runs_96 (by unfold rI; omega) ?_
              refine zz_ladd C dX10_runs_97 ?_
              refine zz_aload_n C 0 dX10_runs_98 rfl rfl ?_
              refine zz_get C 0 (ci := 10) (k := 34) rfl rfl in_X10 (by decide) qw_960 rfl rfl dX10_runs_99 ?_
              refine zz_iload C 4 dX10_runs_102 rfl ?_
              refine zz_iconst C dX10_runs_104 ?_
              refine zz_isub C dX10_runs_105 ?_
              refine zz_lald C 18 rfl (by omega) (by omega) (by decide) dX10_runs_106 ?_
              refine zz_lmul C dX10_runs_107 ?_
              refine zz_aload_n C 0 dX10_runs_108 rfl rfl ?_
              refine zz_iload C 4 dX10_runs_109 rfl ?_
              refine zz_callV (wr := ([] : va_W)) (st := [.long (iL ((20 + (kT (7 + k))) * (gS (k - 1)))), .int (iI k), .ref xS]) C (cc_X10_power l z mh xT xD xP xR xC xW xA xH xU xB xI xN xM xY xK xL xE xS m_ra m_ca m_tp m_fa m_at m_wr m_va m_pl m_st m_lo m_bl m_bc m_fo m_yl m_yw m_nu m_nl m_lu m_ll m_ln kT kD kP kR kC kW kA kH kU kB kI kN kM kY kK kL kE gS k (by omega)) yk_X10_power qw_1295 ⟨by decide, by decide⟩ [0, 1, 2, 3, 4, 5, 6, 7, 8, 9, 10, 11, 12, 13, 14, 15, 16, 17, 18] [] rfl rfl rfl rfl (by decide) 0 10 rfl rfl rfl rfl (Nat.le_of_ble_eq_true rfl) dX10_runs_111 ⟨by decide, by decide⟩ ?_
              rintro _ _ ⟨rfl, rfl⟩
              refine zz_st (st' := [.long (iL (p20 k)), .long (iL ((20 + (kT (7 + k))) * (gS (k - 1)))), .int (iI k), .ref xS]) rfl (zz_ws (ws' := wMod z mh xT xD xP xR xC xW xA xH xU xB xI xN xM xY xK xL xE xS m_ra m_ca m_tp m_fa m_at m_wr m_va m_pl m_st m_lo m_bl m_bc m_fo m_yl m_yw m_nu m_nl m_lu m_ll m_ln kT kD kP kR kC kW kA kH kU kB kI kN kM kY kK kL kE gS) rfl ?_)
              refine zz_lload C 5 dX10_runs_114 rfl ?_
              refine zz_lmul C dX10_runs_116 ?_
              refine zz_ladd C dX10_runs_117 ?_
              refine zz_last (ws' := wMod z mh xT xD xP xR xC xW xA xH xU xB xI xN xM xY xK xL xE xS m_ra m_ca m_tp m_fa m_at m_wr m_va m_pl m_st m_lo m_bl m_bc m_fo m_yl m_yw m_nu m_nl m_lu m_ll m_ln kT kD kP kR kC kW kA kH kU kB kI kN kM kY kK kL kE (zup gS k (((20 + (kT (7 + k))) * (gS (k - 1))) + ((p20 k) * nt)))) C 18 rfl (by omega) (by omega) (by decide) rfl dX10_runs_118 ?_
              refine zz_iinc (ls' := [(4, .int (iI (k + 1))), (0, .ref mh), (1, .ref xT), (2, .int (iI 42)), (3, .int (iI su)), (5, .long (iL nt)), (7, .int (iI b7))]) C 4 dX10_runs_119 rfl (by decide) rfl ?_
              refine zz_goto (tgt := 11) C dX10_runs_122 (by decide) ?_
              refine zz_loc (ls' := [(0, .ref mh), (1, .ref xT), (2, .int (iI 42)), (3, .int (iI su)), (4, .int (iI (k + 1)))]) [1, 2, 3, 4, 0] rfl ?_
              exact ih11 (k + 1) (zup gS k (((20 + (kT (7 + k))) * (gS (k - 1))) + ((p20 k) * nt))) (by omega) (zup_all hgS hs9) (by omega)
            · skip
              refine zz_lload C 5 dX10_runs_49 rfl ?_
              refine zz_aload_n C 1 dX10_runs_51 rfl rfl ?_
              refine zz_iload_n C 2 dX10_runs_52 rfl rfl ?_
              refine zz_iload C 6 dX10_runs_53 rfl ?_
              refine zz_iadd C dX10_runs_55 ?_
              refine zz_iald C 1 rfl (by omega) (by omega) (by decide) dX10_runs_56 ?_
              have hr57 := mHeld_rng hkT b7 (by omega) (by omega)
              unfold mHeld at hr57
              refine zz_i2l C dX10_runs_57 (by unfold rI; omega) ?_
              refine zz_aload_n C 0 dX10_runs_58 rfl rfl ?_
              refine zz_iload C 6 dX10_runs_59 rfl ?_
              refine zz_iload C 4 dX10_runs_61 rfl ?_
              refine zz_callV (wr := ([] : va_W)) (st := [.long (iL (kT (42 + b7))), .long (iL nt)]) C (cc_X10_yields l z mh xT xD xP xR xC xW xA xH xU xB xI xN xM xY xK xL xE xS m_ra m_ca m_tp m_fa m_at m_wr m_va m_pl m_st m_lo m_bl m_bc m_fo m_yl m_yw m_nu m_nl m_lu m_ll m_ln kT kD kP kR kC kW kA kH kU kB kI kN kM kY kK kL kE gS b7 k (by omega) (by omega) (by omega)) yk_X10_yields qw_1180 ⟨by decide, by decide⟩ [0, 1, 2, 3, 4, 5, 6, 7, 8, 9, 10, 11, 12, 13, 14, 15, 16, 17, 18] [] rfl rfl rfl rfl (by decide) 0 10 rfl rfl rfl rfl (Nat.le_of_ble_eq_true rfl) dX10_runs_63 ⟨by decide, by decide⟩ ?_
              rintro _ _ ⟨rfl, rfl⟩
              refine zz_st (st' := [.int (iI (mYield kT b7 k)), .long (iL (kT (42 + b7))), .long (iL nt)]) rfl (zz_ws (ws' := wMod z mh xT xD xP xR xC xW xA xH xU xB xI xN xM xY xK xL xE xS m_ra m_ca m_tp m_fa m_at m_wr m_va m_pl m_st m_lo m_bl m_bc m_fo m_yl m_yw m_nu m_nl m_lu m_ll m_ln kT kD kP kR kC kW kA kH kU kB kI kN kM kY kK kL kE gS) rfl ?_)
              have hr66 := mYield_rng hkT (b := b7) (by omega) k
              refine zz_i2l C dX10_runs_66 (by unfold rI; omega) ?_
              refine zz_lmul C dX10_runs_67 ?_
              refine zz_ladd C dX10_runs_68 ?_
              refine zz_lstore (ls' := [(5, .long (iL (nt + ((kT (42 + b7)) * (mYield kT b7 k))))), (0, .ref mh), (1, .ref xT), (2, .int (iI 42)), (3, .int (iI su)), (4, .int (iI k)), (7, .int (iI b7))]) C dX10_runs_69 (by decide) rfl ?_
              refine zz_iinc (ls' := [(7, .int (iI (b7 + 1))), (5, .long (iL (nt + ((kT (42 + b7)) * (mYield kT b7 k))))), (0, .ref mh), (1, .ref xT), (2, .int (iI 42)), (3, .int (iI su)), (4, .int (iI k))]) C 6 dX10_runs_71 rfl (by decide) rfl ?_
              refine zz_goto (tgt := 38) C dX10_runs_74 (by decide) ?_
              refine zz_loc (ls' := [(0, .ref mh), (1, .ref xT), (2, .int (iI 42)), (3, .int (iI su)), (4, .int (iI k)), (5, .long (iL (nt + ((kT (42 + b7)) * (mYield kT b7 k))))), (7, .int (iI (b7 + 1)))]) [2, 3, 4, 5, 6, 1, 0] rfl ?_
              exact ih38 (b7 + 1) (nt + ((kT (42 + b7)) * (mYield kT b7 k))) (by omega) (by rw [zsum_succ _ hb7.1, hnt]; first | rfl | (unfold mHeld; omega) | (rw [Int.zero_add]; omega)) (by omega)
        refine zz_loc (ls' := [(0, .ref mh), (1, .ref xT), (2, .int (iI 42)), (3, .int (iI su)), (4, .int (iI k)), (5, .long (iL (-(kT (2 + k))))), (7, .int (iI 0))]) [2, 3, 4, 5, 6, 1, 0] rfl ?_
        exact Lp38 _ 0 (-(kT (2 + k))) (by omega) (by rw [zsum_0]; omega) (Nat.lt_succ_self _)
  refine zz_loc (ls' := [(0, .ref mh), (1, .ref xT), (2, .int (iI 42)), (3, .int (iI su)), (4, .int (iI 1))]) [1, 2, 3, 4, 0] rfl ?_
  exact Lp11 _ 1 (zup kS 0 su) (by omega) (fun j h1 h2 => by rw [show j = 0 by omega, zup_eq]; rfl) (Nat.lt_succ_self _)
abbrev po_X10_runs_l (z : zC) (mh : Nat) (xT : Nat) (xD : Nat) (xP : Nat) (xR : Nat) (xC : Nat) (xW : Nat) (xA : Nat) (xH : Nat) (xU : Nat) (xB : Nat) (xI : Nat) (xN : Nat) (xM : Nat) (xY : Nat) (xK : Nat) (xL : Nat) (xE : Nat) (xS : Nat) (m_ra : Int) (m_ca : Int) (m_tp : Int) (m_fa : Int) (m_at : Int) (m_wr : Int) (m_va : Int) (m_pl : Int) (m_st : Int) (m_lo : Int) (m_bl : Int) (m_bc : Int) (m_fo : Int) (m_yl : Int) (m_yw : Int) (m_nu : Int) (m_nl : Int) (m_lu : Int) (m_ll : Int) (m_ln : Int) (kT : Int → Int) (kD : Int → Int) (kP : Int → Int) (kR : Int → Int) (kC : Int → Int) (kW : Int → Int) (kA : Int → Int) (kH : Int → Int) (kU : Int → Int) (kB : Int → Int) (kI : Int → Int) (kN : Int → Int) (kM : Int → Int) (kY : Int → Int) (kK : Int → Int) (kL : Int → Int) (kE : Int → Int) (kS : Int → Int) : Option Value → va_W → Prop := fun v w => ∃ (gS : Int → Int), (∀ j : Int, 0 ≤ j → j ≤ kT 0 → gS j = mBal kT kL 0 j) ∧ v = none ∧ w = wMod z mh xT xD xP xR xC xW xA xH xU xB xI xN xM xY xK xL xE xS m_ra m_ca m_tp m_fa m_at m_wr m_va m_pl m_st m_lo m_bl m_bc m_fo m_yl m_yw m_nu m_nl m_lu m_ll m_ln kT kD kP kR kC kW kA kH kU kB kI kN kM kY kK kL kE gS
abbrev rm_X10_runs_l : Room := { frames := 2, cells := 0, slots := 0, locals := 64 }
set_option maxHeartbeats 4000000 in
set_option maxRecDepth 100000 in
theorem cc_X10_runs_l (l : Launch) (z : zC) (mh : Nat) (xT : Nat) (xD : Nat) (xP : Nat) (xR : Nat) (xC : Nat) (xW : Nat) (xA : Nat) (xH : Nat) (xU : Nat) (xB : Nat) (xI : Nat) (xN : Nat) (xM : Nat) (xY : Nat) (xK : Nat) (xL : Nat) (xE : Nat) (xS : Nat) (m_ra : Int) (m_ca : Int) (m_tp : Int) (m_fa : Int) (m_at : Int) (m_wr : Int) (m_va : Int) (m_pl : Int) (m_st : Int) (m_lo : Int) (m_bl : Int) (m_bc : Int) (m_fo : Int) (m_yl : Int) (m_yw : Int) (m_nu : Int) (m_nl : Int) (m_lu : Int) (m_ll : Int) (m_ln : Int) (kT : Int → Int) (kD : Int → Int) (kP : Int → Int) (kR : Int → Int) (kC : Int → Int) (kW : Int → Int) (kA : Int → Int) (kH : Int → Int) (kU : Int → Int) (kB : Int → Int) (kI : Int → Int) (kN : Int → Int) (kM : Int → Int) (kY : Int → Int) (kK : Int → Int) (kL : Int → Int) (kE : Int → Int) (kS : Int → Int) (hkT : mOk kT) (hkL : ∀ b : Int, 0 ≤ b → b < 5 → 0 ≤ kL b ∧ kL b ≤ 200) : zzMet l yX10_runs cX10_runs 8 none rm_X10_runs_l z [.ref mh, .ref xL, .int (iI 0), .int (iI 0)] (wMod z mh xT xD xP xR xC xW xA xH xU xB xI xN xM xY xK xL xE xS m_ra m_ca m_tp m_fa m_at m_wr m_va m_pl m_st m_lo m_bl m_bc m_fo m_yl m_yw m_nu m_nl m_lu m_ll m_ln kT kD kP kR kC kW kA kH kU kB kI kN kM kY kK kL kE kS) (po_X10_runs_l z mh xT xD xP xR xC xW xA xH xU xB xI xN xM xY xK xL xE xS m_ra m_ca m_tp m_fa m_at m_wr m_va m_pl m_st m_lo m_bl m_bc m_fo m_yl m_yw m_nu m_nl m_lu m_ll m_ln kT kD kP kR kC kW kA kH kU kB kI kN kM kY kK kL kE kS) := by
  refine zzMet.of (own := RX10) (ls0 := [(0, .ref mh), (1, .ref xL), (2, .int (iI 0)), (3, .int (iI 0))]) (by decide) rfl (Nat.le_of_ble_eq_true rfl) rfl ?_
  intro p e s m below meth c A C hr hnm
  have hk0 := hkT.1
  have hk1 := hkT.2.1
  refine zz_aload_n C 0 dX10_runs_0 rfl rfl ?_
  refine zz_get C 0 (ci := 10) (k := 34) rfl rfl in_X10 (by decide) qw_960 rfl rfl dX10_runs_1 ?_
  refine zz_iconst C dX10_runs_4 ?_
  refine zz_iload_n C 3 dX10_runs_5 rfl rfl ?_
  refine zz_i2l C dX10_runs_6 (by unfold rI; omega) ?_
  refine zz_last (ws' := wMod z mh xT xD xP xR xC xW xA xH xU xB xI xN xM xY xK xL xE xS m_ra m_ca m_tp m_fa m_at m_wr m_va m_pl m_st m_lo m_bl m_bc m_fo m_yl m_yw m_nu m_nl m_lu m_ll m_ln kT kD kP kR kC kW kA kH kU kB kI kN kM kY kK kL kE (zup kS 0 0)) C 18 rfl (by omega) (by omega) (by decide) rfl dX10_runs_7 ?_
  refine zz_iconst C dX10_runs_8 ?_
  refine zz_istore (ls' := [(4, .int (iI 1)), (0, .ref mh), (1, .ref xL), (2, .int (iI 0)), (3, .int (iI 0))]) C dX10_runs_9 (by decide) rfl ?_
  have Lp11 : ∀ (fu9 : Nat) (k : Int) (gS : Int → Int), (1 ≤ k ∧ k ≤ kT 0 + 1) → (∀ j : Int, 0 ≤ j → j < k → gS j = mBal kT kL 0 j) → (kT 0 + 1 - k).toNat < fu9 → zzW p l e rm_X10_runs_l s m ([.ref mh, .ref xL, .int (iI 0), .int (iI 0)] : List Value).toArray below meth c z A 8 (MQ below (zQ z A (po_X10_runs_l z mh xT xD xP xR xC xW xA xH xU xB xI xN xM xY xK xL xE xS m_ra m_ca m_tp m_fa m_at m_wr m_va m_pl m_st m_lo m_bl m_bc m_fo m_yl m_yw m_nu m_nl m_lu m_ll m_ln kT kD kP kR kC kW kA kH kU kB kI kN kM kY kK kL kE kS)) ([.ref mh, .ref xL, .int (iI 0), .int (iI 0)] : List Value).toArray s 0 0 A) 0 0 (wMod z mh xT xD xP xR xC xW xA xH xU xB xI xN xM xY xK xL xE xS m_ra m_ca m_tp m_fa m_at m_wr m_va m_pl m_st m_lo m_bl m_bc m_fo m_yl m_yw m_nu m_nl m_lu m_ll m_ln kT kD kP kR kC kW kA kH kU kB kI kN kM kY kK kL kE gS) [(0, .ref mh), (1, .ref xL), (2, .int (iI 0)), (3, .int (iI 0)), (4, .int (iI k))] [] 11 := by
    intro fu9
    induction fu9 with
    | zero => intro k gS hk hgS h9; exact absurd h9 (Nat.not_lt_zero _)
    | succ fu9 ih11 =>
      intro k gS hk hgS hm11
      refine zz_iload C 4 dX10_runs_11 rfl ?_
      refine zz_aload_n C 0 dX10_runs_13 rfl rfl ?_
      refine zz_get C 0 (ci := 10) (k := 1) rfl rfl in_X10 (by decide) qw_927 rfl rfl dX10_runs_14 ?_
      refine zz_iconst C dX10_runs_17 ?_
      refine zz_iald C 1 rfl (by omega) (by omega) (by decide) dX10_runs_18 ?_
      refine zz_icmp_gt (tgt := 125) C dX10_runs_19 (by decide) (by unfold rI; omega) (by unfold rI; omega) (fun c19 => ?_) (fun c19 => ?_)
      · skip
        have hk5 : k = kT 0 + 1 := by omega
        subst hk5
        exact zz_vret C hr dX10_runs_125 ⟨gS, fun j h1 h2 => hgS j h1 (by omega), rfl, rfl⟩
      · skip
        refine zz_aload_n C 0 dX10_runs_22 rfl rfl ?_
        refine zz_get C 0 (ci := 10) (k := 1) rfl rfl in_X10 (by decide) qw_927 rfl rfl dX10_runs_23 ?_
        refine zz_iconst C dX10_runs_26 ?_
        refine zz_iload C 4 dX10_runs_27 rfl ?_
        refine zz_iadd C dX10_runs_29 ?_
        refine zz_iald C 1 rfl (by omega) (by omega) (by decide) dX10_runs_30 ?_
        have hr31 := hkT.2.2 (2 + k) (by omega) (by omega)
        refine zz_ineg C dX10_runs_31 ?_
        refine zz_i2l C dX10_runs_32 (by unfold rI; omega) ?_
        refine zz_lstore (ls' := [(5, .long (iL (-(kT (2 + k))))), (0, .ref mh), (1, .ref xL), (2, .int (iI 0)), (3, .int (iI 0)), (4, .int (iI k))]) C dX10_runs_33 (by decide) rfl ?_
        refine zz_iconst C dX10_runs_35 ?_
        refine zz_istore (ls' := [(7, .int (iI 0)), (5, .long (iL (-(kT (2 + k))))), (0, .ref mh), (1, .ref xL), (2, .int (iI 0)), (3, .int (iI 0)), (4, .int (iI k))]) C dX10_runs_36 (by decide) rfl ?_
        have Lp38 : ∀ (fu9 : Nat) (b7 : Int) (nt : Int), (0 ≤ b7 ∧ b7 ≤ kT 1) → (nt = -kT (2 + k) + zsum (fun b => kL b * mYield kT b k) b7) → (kT 1 - b7).toNat < fu9 → zzW p l e rm_X10_runs_l s m ([.ref mh, .ref xL, .int (iI 0), .int (iI 0)] : List Value).toArray below meth c z A 8 (MQ below (zQ z A (po_X10_runs_l z mh xT xD xP xR xC xW xA xH xU xB xI xN xM xY xK xL xE xS m_ra m_ca m_tp m_fa m_at m_wr m_va m_pl m_st m_lo m_bl m_bc m_fo m_yl m_yw m_nu m_nl m_lu m_ll m_ln kT kD kP kR kC kW kA kH kU kB kI kN kM kY kK kL kE kS)) ([.ref mh, .ref xL, .int (iI 0), .int (iI 0)] : List Value).toArray s 0 0 A) 0 0 (wMod z mh xT xD xP xR xC xW xA xH xU xB xI xN xM xY xK xL xE xS m_ra m_ca m_tp m_fa m_at m_wr m_va m_pl m_st m_lo m_bl m_bc m_fo m_yl m_yw m_nu m_nl m_lu m_ll m_ln kT kD kP kR kC kW kA kH kU kB kI kN kM kY kK kL kE gS) [(0, .ref mh), (1, .ref xL), (2, .int (iI 0)), (3, .int (iI 0)), (4, .int (iI k)), (5, .long (iL nt)), (7, .int (iI b7))] [] 38 := by
          intro fu9
          induction fu9 with
          | zero => intro b7 nt hb7 hnt h9; exact absurd h9 (Nat.not_lt_zero _)
          | succ fu9 ih38 =>
            intro b7 nt hb7 hnt hm38
            refine zz_iload C 6 dX10_runs_38 rfl ?_
            refine zz_aload_n C 0 dX10_runs_40 rfl rfl ?_
            refine zz_get C 0 (ci := 10) (k := 1) rfl rfl in_X10 (by decide) qw_927 rfl rfl dX10_runs_41 ?_
            refine zz_iconst C dX10_runs_44 ?_
            refine zz_iald C 1 rfl (by omega) (by omega) (by decide) dX10_runs_45 ?_
            refine zz_icmp_ge (tgt := 77) C dX10_runs_46 (by decide) (by unfold rI; omega) (by unfold rI; omega) (fun c46 => ?_) (fun c46 => ?_)
            · skip
              have hb5 : b7 = kT 1 := by omega
              have hr77 := hkT.2.2 (7 + k) (by omega) (by omega)
              have hs9 : (20 + kT (7 + k)) * gS (k - 1) + p20 k * nt = mBal kT kL 0 k := by rw [hnt, hb5]; exact mBal_step (by omega) (hgS (k - 1) (by omega) (by omega))
              refine zz_aload_n C 0 dX10_runs_77 rfl rfl ?_
              refine zz_get C 0 (ci := 10) (k := 34) rfl rfl in_X10 (by decide) qw_960 rfl rfl dX10_runs_78 ?_
              refine zz_iload C 4 dX10_runs_81 rfl ?_
              refine zz_ldc2 (a := 20) C qw_1196 (by decide +kernel) dX10_runs_83 ?_
              refine zz_aload_n C 0 dX10_runs_86 rfl rfl ?_
              refine zz_get C 0 (ci := 10) (k := 1) rfl rfl in_X10 (by decide) qw_927 rfl rfl dX10_runs_87 ?_
              refine zz_bipush C dX10_runs_90 (by decide +kernel) ?_
              refine zz_iload C 4 dX10_runs_92 rfl ?_
              refine zz_iadd C dX10_runs_94 ?_
              refine zz_iald C 1 rfl (by omega) (by omega) (by decide) dX10_runs_95 ?_
              refine zz_i2l C dX10_runs_96 (by unfold rI; omega) ?_
              refine zz_ladd C dX10_runs_97 ?_
              refine zz_aload_n C 0 dX10_runs_98 rfl rfl ?_
              refine zz_get C 0 (ci := 10) (k := 34) rfl rfl in_X10 (by decide) qw_960 rfl rfl dX10_runs_99 ?_
              refine zz_iload C 4 dX10_runs_102 rfl ?_
              refine zz_iconst C dX10_runs_104 ?_
              refine zz_isub C dX10_runs_105 ?_
              refine zz_lald C 18 rfl (by omega) (by omega) (by decide) dX10_runs_106 ?_
              refine zz_lmul C dX10_runs_107 ?_
              refine zz_aload_n C 0 dX10_runs_108 rfl rfl ?_
              refine zz_iload C 4 dX10_runs_109 rfl ?_
              refine zz_callV (wr := ([] : va_W)) (st := [.long (iL ((20 + (kT (7 + k))) * (gS (k - 1)))), .int (iI k), .ref xS]) C (cc_X10_power l z mh xT xD xP xR xC xW xA xH xU xB xI xN xM xY xK xL xE xS m_ra m_ca m_tp m_fa m_at m_wr m_va m_pl m_st m_lo m_bl m_bc m_fo m_yl m_yw m_nu m_nl m_lu m_ll m_ln kT kD kP kR kC kW kA kH kU kB kI kN kM kY kK kL kE gS k (by omega)) yk_X10_power qw_1295 ⟨by decide, by decide⟩ [0, 1, 2, 3, 4, 5, 6, 7, 8, 9, 10, 11, 12, 13, 14, 15, 16, 17, 18] [] rfl rfl rfl rfl (by decide) 0 10 rfl rfl rfl rfl (Nat.le_of_ble_eq_true rfl) dX10_runs_111 ⟨by decide, by decide⟩ ?_
              rintro _ _ ⟨rfl, rfl⟩
              refine zz_st (st' := [.long (iL (p20 k)), .long (iL ((20 + (kT (7 + k))) * (gS (k - 1)))), .int (iI k), .ref xS]) rfl (zz_ws (ws' := wMod z mh xT xD xP xR xC xW xA xH xU xB xI xN xM xY xK xL xE xS m_ra m_ca m_tp m_fa m_at m_wr m_va m_pl m_st m_lo m_bl m_bc m_fo m_yl m_yw m_nu m_nl m_lu m_ll m_ln kT kD kP kR kC kW kA kH kU kB kI kN kM kY kK kL kE gS) rfl ?_)
              refine zz_lload C 5 dX10_runs_114 rfl ?_
              refine zz_lmul C dX10_runs_116 ?_
              refine zz_ladd C dX10_runs_117 ?_
              refine zz_last (ws' := wMod z mh xT xD xP xR xC xW xA xH xU xB xI xN xM xY xK xL xE xS m_ra m_ca m_tp m_fa m_at m_wr m_va m_pl m_st m_lo m_bl m_bc m_fo m_yl m_yw m_nu m_nl m_lu m_ll m_ln kT kD kP kR kC kW kA kH kU kB kI kN kM kY kK kL kE (zup gS k (((20 + (kT (7 + k))) * (gS (k - 1))) + ((p20 k) * nt)))) C 18 rfl (by omega) (by omega) (by decide) rfl dX10_runs_118 ?_
              refine zz_iinc (ls' := [(4, .int (iI (k + 1))), (0, .ref mh), (1, .ref xL), (2, .int (iI 0)), (3, .int (iI 0)), (5, .long (iL nt)), (7, .int (iI b7))]) C 4 dX10_runs_119 rfl (by decide) rfl ?_
              refine zz_goto (tgt := 11) C dX10_runs_122 (by decide) ?_
              refine zz_loc (ls' := [(0, .ref mh), (1, .ref xL), (2, .int (iI 0)), (3, .int (iI 0)), (4, .int (iI (k + 1)))]) [1, 2, 3, 4, 0] rfl ?_
              exact ih11 (k + 1) (zup gS k (((20 + (kT (7 + k))) * (gS (k - 1))) + ((p20 k) * nt))) (by omega) (zup_all hgS hs9) (by omega)
            · skip
              refine zz_lload C 5 dX10_runs_49 rfl ?_
              refine zz_aload_n C 1 dX10_runs_51 rfl rfl ?_
              refine zz_iload_n C 2 dX10_runs_52 rfl rfl ?_
              refine zz_iload C 6 dX10_runs_53 rfl ?_
              refine zz_iadd C dX10_runs_55 ?_
              refine zz_iald C 16 rfl (by omega) (by omega) (by decide) dX10_runs_56 ?_
              have hr57 := hkL b7 (by omega) (by omega)
              rw [show b7 = 0 + b7 by omega] at hr57
              refine zz_i2l C dX10_runs_57 (by unfold rI; omega) ?_
              refine zz_aload_n C 0 dX10_runs_58 rfl rfl ?_
              refine zz_iload C 6 dX10_runs_59 rfl ?_
              refine zz_iload C 4 dX10_runs_61 rfl ?_
              refine zz_callV (wr := ([] : va_W)) (st := [.long (iL (kL (0 + b7))), .long (iL nt)]) C (cc_X10_yields l z mh xT xD xP xR xC xW xA xH xU xB xI xN xM xY xK xL xE xS m_ra m_ca m_tp m_fa m_at m_wr m_va m_pl m_st m_lo m_bl m_bc m_fo m_yl m_yw m_nu m_nl m_lu m_ll m_ln kT kD kP kR kC kW kA kH kU kB kI kN kM kY kK kL kE gS b7 k (by omega) (by omega) (by omega)) yk_X10_yields qw_1180 ⟨by decide, by decide⟩ [0, 1, 2, 3, 4, 5, 6, 7, 8, 9, 10, 11, 12, 13, 14, 15, 16, 17, 18] [] rfl rfl rfl rfl (by decide) 0 10 rfl rfl rfl rfl (Nat.le_of_ble_eq_true rfl) dX10_runs_63 ⟨by decide, by decide⟩ ?_
              rintro _ _ ⟨rfl, rfl⟩
              refine zz_st (st' := [.int (iI (mYield kT b7 k)), .long (iL (kL (0 + b7))), .long (iL nt)]) rfl (zz_ws (ws' := wMod z mh xT xD xP xR xC xW xA xH xU xB xI xN xM xY xK xL xE xS m_ra m_ca m_tp m_fa m_at m_wr m_va m_pl m_st m_lo m_bl m_bc m_fo m_yl m_yw m_nu m_nl m_lu m_ll m_ln kT kD kP kR kC kW kA kH kU kB kI kN kM kY kK kL kE gS) rfl ?_)
              have hr66 := mYield_rng hkT (b := b7) (by omega) k
              refine zz_i2l C dX10_runs_66 (by unfold rI; omega) ?_
              refine zz_lmul C dX10_runs_67 ?_
              refine zz_ladd C dX10_runs_68 ?_
              refine zz_lstore (ls' := [(5, .long (iL (nt + ((kL (0 + b7)) * (mYield kT b7 k))))), (0, .ref mh), (1, .ref xL), (2, .int (iI 0)), (3, .int (iI 0)), (4, .int (iI k)), (7, .int (iI b7))]) C dX10_runs_69 (by decide) rfl ?_
              refine zz_iinc (ls' := [(7, .int (iI (b7 + 1))), (5, .long (iL (nt + ((kL (0 + b7)) * (mYield kT b7 k))))), (0, .ref mh), (1, .ref xL), (2, .int (iI 0)), (3, .int (iI 0)), (4, .int (iI k))]) C 6 dX10_runs_71 rfl (by decide) rfl ?_
              refine zz_goto (tgt := 38) C dX10_runs_74 (by decide) ?_
              refine zz_loc (ls' := [(0, .ref mh), (1, .ref xL), (2, .int (iI 0)), (3, .int (iI 0)), (4, .int (iI k)), (5, .long (iL (nt + ((kL (0 + b7)) * (mYield kT b7 k))))), (7, .int (iI (b7 + 1)))]) [2, 3, 4, 5, 6, 1, 0] rfl ?_
              exact ih38 (b7 + 1) (nt + ((kL (0 + b7)) * (mYield kT b7 k))) (by omega) (by rw [zsum_succ _ hb7.1, hnt]; first | rfl | (unfold mHeld; omega) | (rw [Int.zero_add]; omega)) (by omega)
        refine zz_loc (ls' := [(0, .ref mh), (1, .ref xL), (2, .int (iI 0)), (3, .int (iI 0)), (4, .int (iI k)), (5, .long (iL (-(kT (2 + k))))), (7, .int (iI 0))]) [2, 3, 4, 5, 6, 1, 0] rfl ?_
        exact Lp38 _ 0 (-(kT (2 + k))) (by omega) (by rw [zsum_0]; omega) (Nat.lt_succ_self _)
  refine zz_loc (ls' := [(0, .ref mh), (1, .ref xL), (2, .int (iI 0)), (3, .int (iI 0)), (4, .int (iI 1))]) [1, 2, 3, 4, 0] rfl ?_
  exact Lp11 _ 1 (zup kS 0 0) (by omega) (fun j h1 h2 => by rw [show j = 0 by omega, zup_eq]; rfl) (Nat.lt_succ_self _)
abbrev po_X10_failsAt (z : zC) (mh : Nat) (xT : Nat) (xD : Nat) (xP : Nat) (xR : Nat) (xC : Nat) (xW : Nat) (xA : Nat) (xH : Nat) (xU : Nat) (xB : Nat) (xI : Nat) (xN : Nat) (xM : Nat) (xY : Nat) (xK : Nat) (xL : Nat) (xE : Nat) (xS : Nat) (m_ra : Int) (m_ca : Int) (m_tp : Int) (m_fa : Int) (m_at : Int) (m_wr : Int) (m_va : Int) (m_pl : Int) (m_st : Int) (m_lo : Int) (m_bl : Int) (m_bc : Int) (m_fo : Int) (m_yl : Int) (m_yw : Int) (m_nu : Int) (m_nl : Int) (m_lu : Int) (m_ll : Int) (m_ln : Int) (kT : Int → Int) (kD : Int → Int) (kP : Int → Int) (kR : Int → Int) (kC : Int → Int) (kW : Int → Int) (kA : Int → Int) (kH : Int → Int) (kU : Int → Int) (kB : Int → Int) (kI : Int → Int) (kN : Int → Int) (kM : Int → Int) (kY : Int → Int) (kK : Int → Int) (kL : Int → Int) (kE : Int → Int) (kS : Int → Int) (B9 : Int → Int) : Option Value → va_W → Prop := fun v w => ∃ (q : Int), (fstNeg B9 (kT 0) q) ∧ v = some (Value.int (iI q)) ∧ w = wMod z mh xT xD xP xR xC xW xA xH xU xB xI xN xM xY xK xL xE xS m_ra m_ca m_tp m_fa m_at m_wr m_va m_pl m_st m_lo m_bl m_bc m_fo m_yl m_yw m_nu m_nl m_lu m_ll m_ln kT kD kP kR kC kW kA kH kU kB kI kN kM kY kK kL kE kS
abbrev rm_X10_failsAt : Room := { frames := 1, cells := 0, slots := 0, locals := 40 }
set_option maxHeartbeats 4000000 in
set_option maxRecDepth 100000 in
theorem cc_X10_failsAt (l : Launch) (z : zC) (mh : Nat) (xT : Nat) (xD : Nat) (xP : Nat) (xR : Nat) (xC : Nat) (xW : Nat) (xA : Nat) (xH : Nat) (xU : Nat) (xB : Nat) (xI : Nat) (xN : Nat) (xM : Nat) (xY : Nat) (xK : Nat) (xL : Nat) (xE : Nat) (xS : Nat) (m_ra : Int) (m_ca : Int) (m_tp : Int) (m_fa : Int) (m_at : Int) (m_wr : Int) (m_va : Int) (m_pl : Int) (m_st : Int) (m_lo : Int) (m_bl : Int) (m_bc : Int) (m_fo : Int) (m_yl : Int) (m_yw : Int) (m_nu : Int) (m_nl : Int) (m_lu : Int) (m_ll : Int) (m_ln : Int) (kT : Int → Int) (kD : Int → Int) (kP : Int → Int) (kR : Int → Int) (kC : Int → Int) (kW : Int → Int) (kA : Int → Int) (kH : Int → Int) (kU : Int → Int) (kB : Int → Int) (kI : Int → Int) (kN : Int → Int) (kM : Int → Int) (kY : Int → Int) (kK : Int → Int) (kL : Int → Int) (kE : Int → Int) (kS : Int → Int) (B9 : Int → Int) (hkT : mOk kT) (hS : ∀ j : Int, 0 ≤ j → j ≤ kT 0 → kS j = B9 j) (hB : ∀ j : Int, 0 ≤ j → j ≤ kT 0 → -1300000000000 ≤ B9 j ∧ B9 j ≤ 1300000000000) : zzMet l yX10_failsAt cX10_failsAt 2 (Option.some .int) rm_X10_failsAt z [.ref mh] (wMod z mh xT xD xP xR xC xW xA xH xU xB xI xN xM xY xK xL xE xS m_ra m_ca m_tp m_fa m_at m_wr m_va m_pl m_st m_lo m_bl m_bc m_fo m_yl m_yw m_nu m_nl m_lu m_ll m_ln kT kD kP kR kC kW kA kH kU kB kI kN kM kY kK kL kE kS) (po_X10_failsAt z mh xT xD xP xR xC xW xA xH xU xB xI xN xM xY xK xL xE xS m_ra m_ca m_tp m_fa m_at m_wr m_va m_pl m_st m_lo m_bl m_bc m_fo m_yl m_yw m_nu m_nl m_lu m_ll m_ln kT kD kP kR kC kW kA kH kU kB kI kN kM kY kK kL kE kS B9) := by
  refine zzMet.of (own := RX10) (ls0 := [(0, .ref mh)]) (by decide) rfl (Nat.le_of_ble_eq_true rfl) rfl ?_
  intro p e s m below meth c A C hr hnm
  have hk0 := hkT.1
  have hk1 := hkT.2.1
  refine zz_iconst C dX10_failsAt_0 ?_
  refine zz_istore_n (ls' := [(1, .int (iI 1)), (0, .ref mh)]) C dX10_failsAt_1 rfl (by decide) rfl ?_
  have Lp2 : ∀ (fu9 : Nat) (k : Int), (1 ≤ k ∧ k ≤ kT 0 + 1) → (∀ j : Int, 1 ≤ j → j < k → 0 ≤ B9 j) → (kT 0 + 1 - k).toNat < fu9 → zzW p l e rm_X10_failsAt s m ([.ref mh] : List Value).toArray below meth c z A 2 (MQ below (zQ z A (po_X10_failsAt z mh xT xD xP xR xC xW xA xH xU xB xI xN xM xY xK xL xE xS m_ra m_ca m_tp m_fa m_at m_wr m_va m_pl m_st m_lo m_bl m_bc m_fo m_yl m_yw m_nu m_nl m_lu m_ll m_ln kT kD kP kR kC kW kA kH kU kB kI kN kM kY kK kL kE kS B9)) ([.ref mh] : List Value).toArray s 0 0 A) 0 0 (wMod z mh xT xD xP xR xC xW xA xH xU xB xI xN xM xY xK xL xE xS m_ra m_ca m_tp m_fa m_at m_wr m_va m_pl m_st m_lo m_bl m_bc m_fo m_yl m_yw m_nu m_nl m_lu m_ll m_ln kT kD kP kR kC kW kA kH kU kB kI kN kM kY kK kL kE kS) [(0, .ref mh), (1, .int (iI k))] [] 2 := by
    intro fu9
    induction fu9 with
    | zero => intro k hk hf h9; exact absurd h9 (Nat.not_lt_zero _)
    | succ fu9 ih2 =>
      intro k hk hf hm2
      refine zz_iload_n C 1 dX10_failsAt_2 rfl rfl ?_
      refine zz_aload_n C 0 dX10_failsAt_3 rfl rfl ?_
      refine zz_get C 0 (ci := 10) (k := 1) rfl rfl in_X10 (by decide) qw_927 rfl rfl dX10_failsAt_4 ?_
      refine zz_iconst C dX10_failsAt_7 ?_
      refine zz_iald C 1 rfl (by omega) (by omega) (by decide) dX10_failsAt_8 ?_
      refine zz_icmp_gt (tgt := 31) C dX10_failsAt_9 (by decide) (by unfold rI; omega) (by unfold rI; omega) (fun c9 => ?_) (fun c9 => ?_)
      · skip
        refine zz_iconst C dX10_failsAt_31 ?_
        exact zz_iret C hr dX10_failsAt_32 ⟨0, Or.inl ⟨rfl, fun j h1 h2 => hf j h1 (by omega)⟩, rfl, rfl⟩
      · skip
        have hs9 := hS k (by omega) (by omega)
        have hb9 := hB k (by omega) (by omega)
        refine zz_aload_n C 0 dX10_failsAt_12 rfl rfl ?_
        refine zz_get C 0 (ci := 10) (k := 34) rfl rfl in_X10 (by decide) qw_960 rfl rfl dX10_failsAt_13 ?_
        refine zz_iload_n C 1 dX10_failsAt_16 rfl rfl ?_
        refine zz_lald C 18 rfl (by omega) (by omega) (by decide) dX10_failsAt_17 ?_
        refine zz_lconst (a := 0) C dX10_failsAt_18 (by decide +kernel) ?_
        refine zz_lcmp_ge (tgt := 25) C dX10_failsAt_19 dX10_failsAt_20 (by decide) (by rw [hs9]; unfold rL; omega) (by unfold rL; omega) (fun c19 => ?_) (fun c19 => ?_)
        · skip
          refine zz_iinc (ls' := [(1, .int (iI (k + 1))), (0, .ref mh)]) C 1 dX10_failsAt_25 rfl (by decide) rfl ?_
          refine zz_goto (tgt := 2) C dX10_failsAt_28 (by decide) ?_
          refine zz_loc (ls' := [(0, .ref mh), (1, .int (iI (k + 1)))]) [1, 0] rfl ?_
          exact ih2 (k + 1) (by omega) (fun j h1 h2 => by rcases (show j = k ∨ j < k by omega) with e9 | e9; exact e9 ▸ (hs9 ▸ c19); exact hf j h1 e9) (by omega)
        · skip
          refine zz_iload_n C 1 dX10_failsAt_23 rfl rfl ?_
          exact zz_iret C hr dX10_failsAt_24 ⟨k, Or.inr ⟨by omega, by omega, by rw [← hs9]; exact c19, hf⟩, rfl, rfl⟩
  refine zz_loc (ls' := [(0, .ref mh), (1, .int (iI 1))]) [1, 0] rfl ?_
  exact Lp2 _ 1 (by omega) (fun j h1 h2 => by omega) (Nat.lt_succ_self _)
abbrev po_X10_needs (z : zC) (mh : Nat) (xT : Nat) (xD : Nat) (xP : Nat) (xR : Nat) (xC : Nat) (xW : Nat) (xA : Nat) (xH : Nat) (xU : Nat) (xB : Nat) (xI : Nat) (xN : Nat) (xM : Nat) (xY : Nat) (xK : Nat) (xL : Nat) (xE : Nat) (xS : Nat) (m_ra : Int) (m_ca : Int) (m_tp : Int) (m_fa : Int) (m_at : Int) (m_wr : Int) (m_va : Int) (m_pl : Int) (m_st : Int) (m_lo : Int) (m_bl : Int) (m_bc : Int) (m_fo : Int) (m_yl : Int) (m_yw : Int) (m_nu : Int) (m_nl : Int) (m_lu : Int) (m_ll : Int) (m_ln : Int) (kT : Int → Int) (kD : Int → Int) (kP : Int → Int) (kR : Int → Int) (kC : Int → Int) (kW : Int → Int) (kA : Int → Int) (kH : Int → Int) (kU : Int → Int) (kB : Int → Int) (kI : Int → Int) (kN : Int → Int) (kM : Int → Int) (kY : Int → Int) (kK : Int → Int) (kL : Int → Int) (kE : Int → Int) (kS : Int → Int) (B9 : Int → Int) (a9 : Int) : Option Value → va_W → Prop := fun v w => ∃ (qn : Int), ∃ (qd : Int), (isLack B9 (mCar kT a9) a9 (kT 0) qn qd) ∧ (1 ≤ qd ∧ qd ≤ 456976) ∧ (0 ≤ qn ∧ qn ≤ 1300000000000) ∧ v = none ∧ w = wMod z mh xT xD xP xR xC xW xA xH xU xB xI xN xM xY xK xL xE xS m_ra m_ca m_tp m_fa m_at m_wr m_va m_pl m_st m_lo m_bl m_bc m_fo m_yl m_yw qn qd m_lu m_ll m_ln kT kD kP kR kC kW kA kH kU kB kI kN kM kY kK kL kE kS
abbrev rm_X10_needs : Room := { frames := 2, cells := 0, slots := 0, locals := 84 }
set_option maxHeartbeats 4000000 in
set_option maxRecDepth 100000 in
theorem cc_X10_needs (l : Launch) (z : zC) (mh : Nat) (xT : Nat) (xD : Nat) (xP : Nat) (xR : Nat) (xC : Nat) (xW : Nat) (xA : Nat) (xH : Nat) (xU : Nat) (xB : Nat) (xI : Nat) (xN : Nat) (xM : Nat) (xY : Nat) (xK : Nat) (xL : Nat) (xE : Nat) (xS : Nat) (m_ra : Int) (m_ca : Int) (m_tp : Int) (m_fa : Int) (m_at : Int) (m_wr : Int) (m_va : Int) (m_pl : Int) (m_st : Int) (m_lo : Int) (m_bl : Int) (m_bc : Int) (m_fo : Int) (m_yl : Int) (m_yw : Int) (m_nu : Int) (m_nl : Int) (m_lu : Int) (m_ll : Int) (m_ln : Int) (kT : Int → Int) (kD : Int → Int) (kP : Int → Int) (kR : Int → Int) (kC : Int → Int) (kW : Int → Int) (kA : Int → Int) (kH : Int → Int) (kU : Int → Int) (kB : Int → Int) (kI : Int → Int) (kN : Int → Int) (kM : Int → Int) (kY : Int → Int) (kK : Int → Int) (kL : Int → Int) (kE : Int → Int) (kS : Int → Int) (B9 : Int → Int) (a9 : Int) (hkT : mOk kT) (hk2 : mOk2 kT) (ha9 : 0 ≤ a9 ∧ a9 ≤ kT 0) (hS : ∀ j : Int, 0 ≤ j → j ≤ kT 0 → kS j = B9 j) (hB : ∀ j : Int, 0 ≤ j → j ≤ kT 0 → -1300000000000 ≤ B9 j ∧ B9 j ≤ 1300000000000) : zzMet l yX10_needs cX10_needs 5 none rm_X10_needs z [.ref mh, .int (iI a9)] (wMod z mh xT xD xP xR xC xW xA xH xU xB xI xN xM xY xK xL xE xS m_ra m_ca m_tp m_fa m_at m_wr m_va m_pl m_st m_lo m_bl m_bc m_fo m_yl m_yw m_nu m_nl m_lu m_ll m_ln kT kD kP kR kC kW kA kH kU kB kI kN kM kY kK kL kE kS) (po_X10_needs z mh xT xD xP xR xC xW xA xH xU xB xI xN xM xY xK xL xE xS m_ra m_ca m_tp m_fa m_at m_wr m_va m_pl m_st m_lo m_bl m_bc m_fo m_yl m_yw m_nu m_nl m_lu m_ll m_ln kT kD kP kR kC kW kA kH kU kB kI kN kM kY kK kL kE kS B9 a9) := by
  refine zzMet.of (own := RX10) (ls0 := [(0, .ref mh), (1, .int (iI a9))]) (by decide) rfl (Nat.le_of_ble_eq_true rfl) rfl ?_
  intro p e s m below meth c A C hr hnm
  have hk0 := hkT.1
  have hk1 := hkT.2.1
  refine zz_aload_n C 0 dX10_needs_0 rfl rfl ?_
  refine zz_lconst (a := 0) C dX10_needs_1 (by decide +kernel) ?_
  refine zz_put (ty := .long) (ws' := wMod z mh xT xD xP xR xC xW xA xH xU xB xI xN xM xY xK xL xE xS m_ra m_ca m_tp m_fa m_at m_wr m_va m_pl m_st m_lo m_bl m_bc m_fo m_yl m_yw 0 m_nl m_lu m_ll m_ln kT kD kP kR kC kW kA kH kU kB kI kN kM kY kK kL kE kS) C 0 (ci := 10) (k := 32) rfl rfl in_X10 tyX10 tyX10_ok nmX10 (by decide) qw_958 rfl rfl (by decide +kernel) rfl rfl (Nat.le_of_ble_eq_true rfl) rfl dX10_needs_2 ?_
  refine zz_aload_n C 0 dX10_needs_5 rfl rfl ?_
  refine zz_lconst (a := 1) C dX10_needs_6 (by decide +kernel) ?_
  refine zz_put (ty := .long) (ws' := wMod z mh xT xD xP xR xC xW xA xH xU xB xI xN xM xY xK xL xE xS m_ra m_ca m_tp m_fa m_at m_wr m_va m_pl m_st m_lo m_bl m_bc m_fo m_yl m_yw 0 1 m_lu m_ll m_ln kT kD kP kR kC kW kA kH kU kB kI kN kM kY kK kL kE kS) C 0 (ci := 10) (k := 33) rfl rfl in_X10 tyX10 tyX10_ok nmX10 (by decide) qw_959 rfl rfl (by decide +kernel) rfl rfl (Nat.le_of_ble_eq_true rfl) rfl dX10_needs_7 ?_
  refine zz_iload_n C 1 dX10_needs_10 rfl rfl ?_
  refine zz_istore_n (ls' := [(2, .int (iI a9)), (0, .ref mh), (1, .int (iI a9))]) C dX10_needs_11 rfl (by decide) rfl ?_
  have Lp12 : ∀ (fu9 : Nat) (k : Int) (qn : Int) (qd : Int), (a9 ≤ k ∧ k ≤ kT 0 + 1) → (isLack B9 (mCar kT a9) a9 (k - 1) qn qd) → (1 ≤ qd ∧ qd ≤ 456976) → (0 ≤ qn ∧ qn ≤ 1300000000000) → (kT 0 + 1 - k).toNat < fu9 → zzW p l e rm_X10_needs s m ([.ref mh, .int (iI a9)] : List Value).toArray below meth c z A 5 (MQ below (zQ z A (po_X10_needs z mh xT xD xP xR xC xW xA xH xU xB xI xN xM xY xK xL xE xS m_ra m_ca m_tp m_fa m_at m_wr m_va m_pl m_st m_lo m_bl m_bc m_fo m_yl m_yw m_nu m_nl m_lu m_ll m_ln kT kD kP kR kC kW kA kH kU kB kI kN kM kY kK kL kE kS B9 a9)) ([.ref mh, .int (iI a9)] : List Value).toArray s 0 0 A) 0 0 (wMod z mh xT xD xP xR xC xW xA xH xU xB xI xN xM xY xK xL xE xS m_ra m_ca m_tp m_fa m_at m_wr m_va m_pl m_st m_lo m_bl m_bc m_fo m_yl m_yw qn qd m_lu m_ll m_ln kT kD kP kR kC kW kA kH kU kB kI kN kM kY kK kL kE kS) [(0, .ref mh), (1, .int (iI a9)), (2, .int (iI k))] [] 12 := by
    intro fu9
    induction fu9 with
    | zero => intro k qn qd hk hlk hqd hqn h9; exact absurd h9 (Nat.not_lt_zero _)
    | succ fu9 ih12 =>
      intro k qn qd hk hlk hqd hqn hm12
      refine zz_iload_n C 2 dX10_needs_12 rfl rfl ?_
      refine zz_aload_n C 0 dX10_needs_13 rfl rfl ?_
      refine zz_get C 0 (ci := 10) (k := 1) rfl rfl in_X10 (by decide) qw_927 rfl rfl dX10_needs_14 ?_
      refine zz_iconst C dX10_needs_17 ?_
      refine zz_iald C 1 rfl (by omega) (by omega) (by decide) dX10_needs_18 ?_
      refine zz_icmp_gt (tgt := 90) C dX10_needs_19 (by decide) (by unfold rI; omega) (by unfold rI; omega) (fun c19 => ?_) (fun c19 => ?_)
      · skip
        have hk5 : k = kT 0 + 1 := by omega
        subst hk5
        rw [show kT 0 + 1 - 1 = kT 0 by omega] at hlk
        exact zz_vret C hr dX10_needs_90 ⟨qn, qd, hlk, hqd, hqn, rfl, rfl⟩
      · skip
        refine zz_aload_n C 0 dX10_needs_22 rfl rfl ?_
        refine zz_iload_n C 1 dX10_needs_23 rfl rfl ?_
        refine zz_callV (wr := ([] : va_W)) (st := []) C (cc_X10_power l z mh xT xD xP xR xC xW xA xH xU xB xI xN xM xY xK xL xE xS m_ra m_ca m_tp m_fa m_at m_wr m_va m_pl m_st m_lo m_bl m_bc m_fo m_yl m_yw qn qd m_lu m_ll m_ln kT kD kP kR kC kW kA kH kU kB kI kN kM kY kK kL kE kS a9 (by omega)) yk_X10_power qw_1295 ⟨by decide, by decide⟩ [0, 1, 2, 3, 4, 5, 6, 7, 8, 9, 10, 11, 12, 13, 14, 15, 16, 17, 18] [] rfl rfl rfl rfl (by decide) 0 10 rfl rfl rfl rfl (Nat.le_of_ble_eq_true rfl) dX10_needs_24 ⟨by decide, by decide⟩ ?_
        rintro _ _ ⟨rfl, rfl⟩
        refine zz_st (st' := [.long (iL (p20 a9))]) rfl (zz_ws (ws' := wMod z mh xT xD xP xR xC xW xA xH xU xB xI xN xM xY xK xL xE xS m_ra m_ca m_tp m_fa m_at m_wr m_va m_pl m_st m_lo m_bl m_bc m_fo m_yl m_yw qn qd m_lu m_ll m_ln kT kD kP kR kC kW kA kH kU kB kI kN kM kY kK kL kE kS) rfl ?_)
        refine zz_aload_n C 0 dX10_needs_27 rfl rfl ?_
        refine zz_iload_n C 1 dX10_needs_28 rfl rfl ?_
        refine zz_iload_n C 2 dX10_needs_29 rfl rfl ?_
        refine zz_callV (wr := ([] : va_W)) (st := [.long (iL (p20 a9))]) C (cc_X10_grows l z mh xT xD xP xR xC xW xA xH xU xB xI xN xM xY xK xL xE xS m_ra m_ca m_tp m_fa m_at m_wr m_va m_pl m_st m_lo m_bl m_bc m_fo m_yl m_yw qn qd m_lu m_ll m_ln kT kD kP kR kC kW kA kH kU kB kI kN kM kY kK kL kE kS a9 k (by omega) (by omega)) yk_X10_grows qw_1303 ⟨by decide, by decide⟩ [0, 1, 2, 3, 4, 5, 6, 7, 8, 9, 10, 11, 12, 13, 14, 15, 16, 17, 18] [] rfl rfl rfl rfl (by decide) 0 10 rfl rfl rfl rfl (Nat.le_of_ble_eq_true rfl) dX10_needs_30 ⟨by decide, by decide⟩ ?_
        rintro _ _ ⟨rfl, rfl⟩
        refine zz_st (st' := [.long (iL (grw (mG kT) a9 k)), .long (iL (p20 a9))]) rfl (zz_ws (ws' := wMod z mh xT xD xP xR xC xW xA xH xU xB xI xN xM xY xK xL xE xS m_ra m_ca m_tp m_fa m_at m_wr m_va m_pl m_st m_lo m_bl m_bc m_fo m_yl m_yw qn qd m_lu m_ll m_ln kT kD kP kR kC kW kA kH kU kB kI kN kM kY kK kL kE kS) rfl ?_)
        refine zz_lmul C dX10_needs_33 ?_
        refine zz_lstore_n (ls' := [(3, .long (iL ((p20 a9) * (grw (mG kT) a9 k)))), (0, .ref mh), (1, .int (iI a9)), (2, .int (iI k))]) C dX10_needs_34 rfl (by decide) rfl ?_
        have hs9 := hS k (by omega) (by omega)
        have hb9 := hB k (by omega) (by omega)
        have hr9 := mCar_rng hkT hk2 (a := a9) (j := k) (by omega) (by omega) (by omega)
        have hr8 : mCar kT a9 k = p20 a9 * grw (mG kT) a9 k := rfl
        refine zz_aload_n C 1 dX10_needs_35 rfl rfl ?_
        refine zz_get C 0 (ci := 10) (k := 34) rfl rfl in_X10 (by decide) qw_960 rfl rfl dX10_needs_36 ?_
        refine zz_iload_n C 3 dX10_needs_39 rfl rfl ?_
        refine zz_lald C 18 rfl (by omega) (by omega) (by decide) dX10_needs_40 ?_
        refine zz_lconst (a := 0) C dX10_needs_41 (by decide +kernel) ?_
        refine zz_lcmp_ge (tgt := 84) C dX10_needs_42 dX10_needs_43 (by decide) (by rw [hs9]; unfold rL; omega) (by unfold rL; omega) (fun c42 => ?_) (fun c42 => ?_)
        · skip
          rw [hs9] at c42
          have hl2 := isLack_keep (n := k + 1 - 1) hlk (by omega) (needs_keep (by omega) (by omega) (by omega) (by omega))
          refine zz_iinc (ls' := [(2, .int (iI (k + 1))), (3, .long (iL ((p20 a9) * (grw (mG kT) a9 k)))), (0, .ref mh), (1, .int (iI a9))]) C 3 dX10_needs_84 rfl (by decide) rfl ?_
          refine zz_goto (tgt := 12) C dX10_needs_87 (by decide) ?_
          refine zz_loc (ls' := [(0, .ref mh), (1, .int (iI a9)), (2, .int (iI (k + 1)))]) [2, 3, 0] rfl ?_
          exact ih12 (k + 1) qn qd (by omega) hl2 (by omega) (by omega) (by omega)
        · skip
          refine zz_aload_n C 1 dX10_needs_46 rfl rfl ?_
          refine zz_get C 0 (ci := 10) (k := 34) rfl rfl in_X10 (by decide) qw_960 rfl rfl dX10_needs_47 ?_
          refine zz_iload_n C 3 dX10_needs_50 rfl rfl ?_
          refine zz_lald C 18 rfl (by omega) (by omega) (by decide) dX10_needs_51 ?_
          refine zz_lneg C dX10_needs_52 ?_
          refine zz_lload_n C 0 dX10_needs_53 rfl rfl ?_
          refine zz_aload_n C 1 dX10_needs_54 rfl rfl ?_
          refine zz_get C 0 (ci := 10) (k := 32) rfl rfl in_X10 (by decide) qw_958 rfl rfl dX10_needs_55 ?_
          refine zz_aload_n C 1 dX10_needs_58 rfl rfl ?_
          refine zz_get C 0 (ci := 10) (k := 33) rfl rfl in_X10 (by decide) qw_959 rfl rfl dX10_needs_59 ?_
          refine zz_callS (wr := wMod z mh xT xD xP xR xC xW xA xH xU xB xI xN xM xY xK xL xE xS m_ra m_ca m_tp m_fa m_at m_wr m_va m_pl m_st m_lo m_bl m_bc m_fo m_yl m_yw qn qd m_lu m_ll m_ln kT kD kP kR kC kW kA kH kU kB kI kN kM kY kK kL kE kS) (st := []) C (cc_X10_compares l z (-(kS k)) ((p20 a9) * (grw (mG kT) a9 k)) qn qd (by omega) (by omega) (by omega) (by omega)) yk_X10_compares qw_1226 ⟨by decide, by decide⟩ [] [0, 1, 2, 3, 4, 5, 6, 7, 8, 9, 10, 11, 12, 13, 14, 15, 16, 17, 18] rfl rfl rfl rfl (by decide) rfl rfl (Nat.le_of_ble_eq_true rfl) dX10_needs_62 ⟨by decide, by decide⟩ ?_
          rintro _ _ ⟨q_62, hq_62, rfl, rfl⟩
          refine zz_st (st' := [.int (iI q_62)]) rfl (zz_ws (ws' := wMod z mh xT xD xP xR xC xW xA xH xU xB xI xN xM xY xK xL xE xS m_ra m_ca m_tp m_fa m_at m_wr m_va m_pl m_st m_lo m_bl m_bc m_fo m_yl m_yw qn qd m_lu m_ll m_ln kT kD kP kR kC kW kA kH kU kB kI kN kM kY kK kL kE kS) rfl ?_)
          refine zz_if_le (tgt := 84) C dX10_needs_65 (by decide) (by rcases hq_62 with h9 | h9 | h9 <;> (unfold rI; omega)) (fun c65 => ?_) (fun c65 => ?_)
          · skip
            have hl2 := isLack_keep (n := k + 1 - 1) hlk (by omega) (by have h7 := isCmp_gt2 hq_62; rw [hs9] at h7; rw [hr8]; omega)
            refine zz_iinc (ls' := [(2, .int (iI (k + 1))), (3, .long (iL ((p20 a9) * (grw (mG kT) a9 k)))), (0, .ref mh), (1, .int (iI a9))]) C 3 dX10_needs_84 rfl (by decide) rfl ?_
            refine zz_goto (tgt := 12) C dX10_needs_87 (by decide) ?_
            refine zz_loc (ls' := [(0, .ref mh), (1, .int (iI a9)), (2, .int (iI (k + 1)))]) [2, 3, 0] rfl ?_
            exact ih12 (k + 1) qn qd (by omega) hl2 (by omega) (by omega) (by omega)
          · skip
            have hl2 := isLack_new (n := k + 1 - 1) hlk (by omega) hk.1 (fun j h1 h2 => by have := mCar_rng hkT hk2 (a := a9) (j := j) (by omega) h1 (by omega); omega) (by have h7 := isCmp_gt2 hq_62; rw [hs9] at h7; rw [hr8]; omega)
            rw [← hs9, hr8] at hl2
            refine zz_aload_n C 1 dX10_needs_68 rfl rfl ?_
            refine zz_aload_n C 1 dX10_needs_69 rfl rfl ?_
            refine zz_get C 0 (ci := 10) (k := 34) rfl rfl in_X10 (by decide) qw_960 rfl rfl dX10_needs_70 ?_
            refine zz_iload_n C 3 dX10_needs_73 rfl rfl ?_
            refine zz_lald C 18 rfl (by omega) (by omega) (by decide) dX10_needs_74 ?_
            refine zz_lneg C dX10_needs_75 ?_
            refine zz_put (ty := .long) (ws' := wMod z mh xT xD xP xR xC xW xA xH xU xB xI xN xM xY xK xL xE xS m_ra m_ca m_tp m_fa m_at m_wr m_va m_pl m_st m_lo m_bl m_bc m_fo m_yl m_yw (-(kS k)) qd m_lu m_ll m_ln kT kD kP kR kC kW kA kH kU kB kI kN kM kY kK kL kE kS) C 0 (ci := 10) (k := 32) rfl rfl in_X10 tyX10 tyX10_ok nmX10 (by decide) qw_958 rfl rfl (by decide +kernel) rfl rfl (Nat.le_of_ble_eq_true rfl) rfl dX10_needs_76 ?_
            refine zz_aload_n C 1 dX10_needs_79 rfl rfl ?_
            refine zz_lload_n C 0 dX10_needs_80 rfl rfl ?_
            refine zz_put (ty := .long) (ws' := wMod z mh xT xD xP xR xC xW xA xH xU xB xI xN xM xY xK xL xE xS m_ra m_ca m_tp m_fa m_at m_wr m_va m_pl m_st m_lo m_bl m_bc m_fo m_yl m_yw (-(kS k)) ((p20 a9) * (grw (mG kT) a9 k)) m_lu m_ll m_ln kT kD kP kR kC kW kA kH kU kB kI kN kM kY kK kL kE kS) C 0 (ci := 10) (k := 33) rfl rfl in_X10 tyX10 tyX10_ok nmX10 (by decide) qw_959 rfl rfl (by decide +kernel) rfl rfl (Nat.le_of_ble_eq_true rfl) rfl dX10_needs_81 ?_
            refine zz_iinc (ls' := [(2, .int (iI (k + 1))), (3, .long (iL ((p20 a9) * (grw (mG kT) a9 k)))), (0, .ref mh), (1, .int (iI a9))]) C 3 dX10_needs_84 rfl (by decide) rfl ?_
            refine zz_goto (tgt := 12) C dX10_needs_87 (by decide) ?_
            refine zz_loc (ls' := [(0, .ref mh), (1, .int (iI a9)), (2, .int (iI (k + 1)))]) [2, 3, 0] rfl ?_
            exact ih12 (k + 1) (-(kS k)) ((p20 a9) * (grw (mG kT) a9 k)) (by omega) hl2 (by omega) (by omega) (by omega)
  refine zz_loc (ls' := [(0, .ref mh), (1, .int (iI a9)), (2, .int (iI a9))]) [1, 2, 0] rfl ?_
  exact Lp12 _ a9 0 1 (by omega) (isLack_0 _ _ (by omega)) (by omega) (by omega) (Nat.lt_succ_self _)
abbrev po_X10_fails_ (z : zC) (mh : Nat) (xT : Nat) (xD : Nat) (xP : Nat) (xR : Nat) (xC : Nat) (xW : Nat) (xA : Nat) (xH : Nat) (xU : Nat) (xB : Nat) (xI : Nat) (xN : Nat) (xM : Nat) (xY : Nat) (xK : Nat) (xL : Nat) (xE : Nat) (xS : Nat) (m_ra : Int) (m_ca : Int) (m_tp : Int) (m_fa : Int) (m_at : Int) (m_wr : Int) (m_va : Int) (m_pl : Int) (m_st : Int) (m_lo : Int) (m_bl : Int) (m_bc : Int) (m_fo : Int) (m_yl : Int) (m_yw : Int) (m_nu : Int) (m_nl : Int) (m_lu : Int) (m_ll : Int) (m_ln : Int) (kT : Int → Int) (kD : Int → Int) (kP : Int → Int) (kR : Int → Int) (kC : Int → Int) (kW : Int → Int) (kA : Int → Int) (kH : Int → Int) (kU : Int → Int) (kB : Int → Int) (kI : Int → Int) (kN : Int → Int) (kM : Int → Int) (kY : Int → Int) (kK : Int → Int) (kL : Int → Int) (kE : Int → Int) (kS : Int → Int) : Option Value → va_W → Prop := fun v w => ∃ (q : Int), ∃ (gS : Int → Int), (fstNeg (mBal kT (mHeld kT) m_ca) (kT 0) q) ∧ v = some (Value.int (iI q)) ∧ w = wMod z mh xT xD xP xR xC xW xA xH xU xB xI xN xM xY xK xL xE xS 0 m_ca m_tp m_fa m_at m_wr m_va m_pl m_st m_lo m_bl m_bc m_fo m_yl m_yw m_nu m_nl m_lu m_ll m_ln kT kD kP kR kC kW kA kH kU kB kI kN kM kY kK kL kE gS
abbrev rm_X10_fails_ : Room := { frames := 3, cells := 0, slots := 0, locals := 91 }
set_option maxHeartbeats 4000000 in
set_option maxRecDepth 100000 in
theorem cc_X10_fails_ (l : Launch) (z : zC) (mh : Nat) (xT : Nat) (xD : Nat) (xP : Nat) (xR : Nat) (xC : Nat) (xW : Nat) (xA : Nat) (xH : Nat) (xU : Nat) (xB : Nat) (xI : Nat) (xN : Nat) (xM : Nat) (xY : Nat) (xK : Nat) (xL : Nat) (xE : Nat) (xS : Nat) (m_ra : Int) (m_ca : Int) (m_tp : Int) (m_fa : Int) (m_at : Int) (m_wr : Int) (m_va : Int) (m_pl : Int) (m_st : Int) (m_lo : Int) (m_bl : Int) (m_bc : Int) (m_fo : Int) (m_yl : Int) (m_yw : Int) (m_nu : Int) (m_nl : Int) (m_lu : Int) (m_ll : Int) (m_ln : Int) (kT : Int → Int) (kD : Int → Int) (kP : Int → Int) (kR : Int → Int) (kC : Int → Int) (kW : Int → Int) (kA : Int → Int) (kH : Int → Int) (kU : Int → Int) (kB : Int → Int) (kI : Int → Int) (kN : Int → Int) (kM : Int → Int) (kY : Int → Int) (kK : Int → Int) (kL : Int → Int) (kE : Int → Int) (kS : Int → Int) (hkT : mOk kT) (hk2 : mOk2 kT) (hca : 0 ≤ m_ca ∧ m_ca ≤ 9999) : zzMet l yX10_fails_ cX10_fails_ 1 (Option.some .int) rm_X10_fails_ z [.ref mh] (wMod z mh xT xD xP xR xC xW xA xH xU xB xI xN xM xY xK xL xE xS m_ra m_ca m_tp m_fa m_at m_wr m_va m_pl m_st m_lo m_bl m_bc m_fo m_yl m_yw m_nu m_nl m_lu m_ll m_ln kT kD kP kR kC kW kA kH kU kB kI kN kM kY kK kL kE kS) (po_X10_fails_ z mh xT xD xP xR xC xW xA xH xU xB xI xN xM xY xK xL xE xS m_ra m_ca m_tp m_fa m_at m_wr m_va m_pl m_st m_lo m_bl m_bc m_fo m_yl m_yw m_nu m_nl m_lu m_ll m_ln kT kD kP kR kC kW kA kH kU kB kI kN kM kY kK kL kE kS) := by
  refine zzMet.of (own := RX10) (ls0 := [(0, .ref mh)]) (by decide) rfl (Nat.le_of_ble_eq_true rfl) rfl ?_
  intro p e s m below meth c A C hr hnm
  refine zz_aload_n C 0 dX10_fails__0 rfl rfl ?_
  refine zz_iconst C dX10_fails__1 ?_
  refine zz_put (ty := .int) (ws' := wMod z mh xT xD xP xR xC xW xA xH xU xB xI xN xM xY xK xL xE xS 0 m_ca m_tp m_fa m_at m_wr m_va m_pl m_st m_lo m_bl m_bc m_fo m_yl m_yw m_nu m_nl m_lu m_ll m_ln kT kD kP kR kC kW kA kH kU kB kI kN kM kY kK kL kE kS) C 0 (ci := 10) (k := 0) rfl rfl in_X10 tyX10 tyX10_ok nmX10 (by decide) qw_926 rfl rfl (by decide +kernel) rfl rfl (Nat.le_of_ble_eq_true rfl) rfl dX10_fails__2 ?_
  refine zz_aload_n C 0 dX10_fails__5 rfl rfl ?_
  refine zz_aload_n C 0 dX10_fails__6 rfl rfl ?_
  refine zz_get C 0 (ci := 10) (k := 1) rfl rfl in_X10 (by decide) qw_927 rfl rfl dX10_fails__7 ?_
  refine zz_bipush C dX10_fails__10 (by decide +kernel) ?_
  refine zz_aload_n C 0 dX10_fails__12 rfl rfl ?_
  refine zz_get C 0 (ci := 10) (k := 3) rfl rfl in_X10 (by decide) qw_929 rfl rfl dX10_fails__13 ?_
  refine zz_callV (wr := ([] : va_W)) (st := []) C (cc_X10_runs_h l z mh xT xD xP xR xC xW xA xH xU xB xI xN xM xY xK xL xE xS 0 m_ca m_tp m_fa m_at m_wr m_va m_pl m_st m_lo m_bl m_bc m_fo m_yl m_yw m_nu m_nl m_lu m_ll m_ln kT kD kP kR kC kW kA kH kU kB kI kN kM kY kK kL kE kS m_ca (by omega) (by omega)) yk_X10_runs qw_1291 ⟨by decide, by decide⟩ [0, 1, 2, 3, 4, 5, 6, 7, 8, 9, 10, 11, 12, 13, 14, 15, 16, 17, 18] [] rfl rfl rfl rfl (by decide) 0 10 rfl rfl rfl rfl (Nat.le_of_ble_eq_true rfl) dX10_fails__16 ⟨by decide, by decide⟩ ?_
  rintro _ _ ⟨gS_16, hgS_16, rfl, rfl⟩
  refine zz_st (st' := []) rfl (zz_ws (ws' := wMod z mh xT xD xP xR xC xW xA xH xU xB xI xN xM xY xK xL xE xS 0 m_ca m_tp m_fa m_at m_wr m_va m_pl m_st m_lo m_bl m_bc m_fo m_yl m_yw m_nu m_nl m_lu m_ll m_ln kT kD kP kR kC kW kA kH kU kB kI kN kM kY kK kL kE gS_16) rfl ?_)
  refine zz_aload_n C 0 dX10_fails__19 rfl rfl ?_
  refine zz_callV (wr := ([] : va_W)) (st := []) C (cc_X10_failsAt l z mh xT xD xP xR xC xW xA xH xU xB xI xN xM xY xK xL xE xS 0 m_ca m_tp m_fa m_at m_wr m_va m_pl m_st m_lo m_bl m_bc m_fo m_yl m_yw m_nu m_nl m_lu m_ll m_ln kT kD kP kR kC kW kA kH kU kB kI kN kM kY kK kL kE gS_16 (mBal kT (mHeld kT) m_ca) (by omega) hgS_16 (fun j h1 h2 => mBal_rng hkT hk2 (mHeld_rng hkT) hca h1 h2)) yk_X10_failsAt qw_1319 ⟨by decide, by decide⟩ [0, 1, 2, 3, 4, 5, 6, 7, 8, 9, 10, 11, 12, 13, 14, 15, 16, 17, 18] [] rfl rfl rfl rfl (by decide) 0 10 rfl rfl rfl rfl (Nat.le_of_ble_eq_true rfl) dX10_fails__20 ⟨by decide, by decide⟩ ?_
  rintro _ _ ⟨q_20, hq_20, rfl, rfl⟩
  refine zz_st (st' := [.int (iI q_20)]) rfl (zz_ws (ws' := wMod z mh xT xD xP xR xC xW xA xH xU xB xI xN xM xY xK xL xE xS 0 m_ca m_tp m_fa m_at m_wr m_va m_pl m_st m_lo m_bl m_bc m_fo m_yl m_yw m_nu m_nl m_lu m_ll m_ln kT kD kP kR kC kW kA kH kU kB kI kN kM kY kK kL kE gS_16) rfl ?_)
  exact zz_iret C hr dX10_fails__23 ⟨q_20, gS_16, hq_20, rfl, rfl⟩
abbrev po_X10_balance (z : zC) (mh : Nat) (xT : Nat) (xD : Nat) (xP : Nat) (xR : Nat) (xC : Nat) (xW : Nat) (xA : Nat) (xH : Nat) (xU : Nat) (xB : Nat) (xI : Nat) (xN : Nat) (xM : Nat) (xY : Nat) (xK : Nat) (xL : Nat) (xE : Nat) (xS : Nat) (m_ra : Int) (m_ca : Int) (m_tp : Int) (m_fa : Int) (m_at : Int) (m_wr : Int) (m_va : Int) (m_pl : Int) (m_st : Int) (m_lo : Int) (m_bl : Int) (m_bc : Int) (m_fo : Int) (m_yl : Int) (m_yw : Int) (m_nu : Int) (m_nl : Int) (m_lu : Int) (m_ll : Int) (m_ln : Int) (kT : Int → Int) (kD : Int → Int) (kP : Int → Int) (kR : Int → Int) (kC : Int → Int) (kW : Int → Int) (kA : Int → Int) (kH : Int → Int) (kU : Int → Int) (kB : Int → Int) (kI : Int → Int) (kN : Int → Int) (kM : Int → Int) (kY : Int → Int) (kK : Int → Int) (kL : Int → Int) (kE : Int → Int) (kS : Int → Int) (t9 : Int) (un : Int) : Option Value → va_W → Prop := fun v w => ∃ (q : Int), ∃ (gS : Int → Int), (isBal (mBal kT (mHeld kT) m_ca) (kT 0) t9 un q) ∧ v = some (Value.long (iL q)) ∧ w = wMod z mh xT xD xP xR xC xW xA xH xU xB xI xN xM xY xK xL xE xS 0 m_ca m_tp m_fa m_at m_wr m_va m_pl m_st m_lo m_bl m_bc m_fo m_yl m_yw m_nu m_nl m_lu m_ll m_ln kT kD kP kR kC kW kA kH kU kB kI kN kM kY kK kL kE gS
abbrev rm_X10_balance : Room := { frames := 3, cells := 0, slots := 0, locals := 95 }
set_option maxHeartbeats 4000000 in
set_option maxRecDepth 100000 in
theorem cc_X10_balance (l : Launch) (z : zC) (mh : Nat) (xT : Nat) (xD : Nat) (xP : Nat) (xR : Nat) (xC : Nat) (xW : Nat) (xA : Nat) (xH : Nat) (xU : Nat) (xB : Nat) (xI : Nat) (xN : Nat) (xM : Nat) (xY : Nat) (xK : Nat) (xL : Nat) (xE : Nat) (xS : Nat) (m_ra : Int) (m_ca : Int) (m_tp : Int) (m_fa : Int) (m_at : Int) (m_wr : Int) (m_va : Int) (m_pl : Int) (m_st : Int) (m_lo : Int) (m_bl : Int) (m_bc : Int) (m_fo : Int) (m_yl : Int) (m_yw : Int) (m_nu : Int) (m_nl : Int) (m_lu : Int) (m_ll : Int) (m_ln : Int) (kT : Int → Int) (kD : Int → Int) (kP : Int → Int) (kR : Int → Int) (kC : Int → Int) (kW : Int → Int) (kA : Int → Int) (kH : Int → Int) (kU : Int → Int) (kB : Int → Int) (kI : Int → Int) (kN : Int → Int) (kM : Int → Int) (kY : Int → Int) (kK : Int → Int) (kL : Int → Int) (kE : Int → Int) (kS : Int → Int) (t9 : Int) (un : Int) (hkT : mOk kT) (hk2 : mOk2 kT) (hca : 0 ≤ m_ca ∧ m_ca ≤ 9999) (ht9 : -2147483648 ≤ t9 ∧ t9 < 2147483648) (hun : un = 0 ∨ un = 1) : zzMet l yX10_balance cX10_balance 4 (Option.some .long) rm_X10_balance z [.ref mh, .int (iI t9), .int (iI un)] (wMod z mh xT xD xP xR xC xW xA xH xU xB xI xN xM xY xK xL xE xS m_ra m_ca m_tp m_fa m_at m_wr m_va m_pl m_st m_lo m_bl m_bc m_fo m_yl m_yw m_nu m_nl m_lu m_ll m_ln kT kD kP kR kC kW kA kH kU kB kI kN kM kY kK kL kE kS) (po_X10_balance z mh xT xD xP xR xC xW xA xH xU xB xI xN xM xY xK xL xE xS m_ra m_ca m_tp m_fa m_at m_wr m_va m_pl m_st m_lo m_bl m_bc m_fo m_yl m_yw m_nu m_nl m_lu m_ll m_ln kT kD kP kR kC kW kA kH kU kB kI kN kM kY kK kL kE kS t9 un) := by
  refine zzMet.of (own := RX10) (ls0 := [(0, .ref mh), (1, .int (iI t9)), (2, .int (iI un))]) (by decide) rfl (Nat.le_of_ble_eq_true rfl) rfl ?_
  intro p e s m below meth c A C hr hnm
  have hk0 := hkT.1
  have hk1 := hkT.2.1
  refine zz_aload_n C 0 dX10_balance_0 rfl rfl ?_
  refine zz_iconst C dX10_balance_1 ?_
  refine zz_put (ty := .int) (ws' := wMod z mh xT xD xP xR xC xW xA xH xU xB xI xN xM xY xK xL xE xS 0 m_ca m_tp m_fa m_at m_wr m_va m_pl m_st m_lo m_bl m_bc m_fo m_yl m_yw m_nu m_nl m_lu m_ll m_ln kT kD kP kR kC kW kA kH kU kB kI kN kM kY kK kL kE kS) C 0 (ci := 10) (k := 0) rfl rfl in_X10 tyX10 tyX10_ok nmX10 (by decide) qw_926 rfl rfl (by decide +kernel) rfl rfl (Nat.le_of_ble_eq_true rfl) rfl dX10_balance_2 ?_
  refine zz_aload_n C 0 dX10_balance_5 rfl rfl ?_
  refine zz_aload_n C 0 dX10_balance_6 rfl rfl ?_
  refine zz_get C 0 (ci := 10) (k := 1) rfl rfl in_X10 (by decide) qw_927 rfl rfl dX10_balance_7 ?_
  refine zz_bipush C dX10_balance_10 (by decide +kernel) ?_
  refine zz_aload_n C 0 dX10_balance_12 rfl rfl ?_
  refine zz_get C 0 (ci := 10) (k := 3) rfl rfl in_X10 (by decide) qw_929 rfl rfl dX10_balance_13 ?_
  refine zz_callV (wr := ([] : va_W)) (st := []) C (cc_X10_runs_h l z mh xT xD xP xR xC xW xA xH xU xB xI xN xM xY xK xL xE xS 0 m_ca m_tp m_fa m_at m_wr m_va m_pl m_st m_lo m_bl m_bc m_fo m_yl m_yw m_nu m_nl m_lu m_ll m_ln kT kD kP kR kC kW kA kH kU kB kI kN kM kY kK kL kE kS m_ca (by omega) (by omega)) yk_X10_runs qw_1291 ⟨by decide, by decide⟩ [0, 1, 2, 3, 4, 5, 6, 7, 8, 9, 10, 11, 12, 13, 14, 15, 16, 17, 18] [] rfl rfl rfl rfl (by decide) 0 10 rfl rfl rfl rfl (Nat.le_of_ble_eq_true rfl) dX10_balance_16 ⟨by decide, by decide⟩ ?_
  rintro _ _ ⟨gS_16, hgS_16, rfl, rfl⟩
  refine zz_st (st' := []) rfl (zz_ws (ws' := wMod z mh xT xD xP xR xC xW xA xH xU xB xI xN xM xY xK xL xE xS 0 m_ca m_tp m_fa m_at m_wr m_va m_pl m_st m_lo m_bl m_bc m_fo m_yl m_yw m_nu m_nl m_lu m_ll m_ln kT kD kP kR kC kW kA kH kU kB kI kN kM kY kK kL kE gS_16) rfl ?_)
  refine zz_aload_n C 0 dX10_balance_19 rfl rfl ?_
  refine zz_callV (wr := ([] : va_W)) (st := []) C (cc_X10_failsAt l z mh xT xD xP xR xC xW xA xH xU xB xI xN xM xY xK xL xE xS 0 m_ca m_tp m_fa m_at m_wr m_va m_pl m_st m_lo m_bl m_bc m_fo m_yl m_yw m_nu m_nl m_lu m_ll m_ln kT kD kP kR kC kW kA kH kU kB kI kN kM kY kK kL kE gS_16 (mBal kT (mHeld kT) m_ca) (by omega) hgS_16 (fun j h1 h2 => mBal_rng hkT hk2 (mHeld_rng hkT) hca h1 h2)) yk_X10_failsAt qw_1319 ⟨by decide, by decide⟩ [0, 1, 2, 3, 4, 5, 6, 7, 8, 9, 10, 11, 12, 13, 14, 15, 16, 17, 18] [] rfl rfl rfl rfl (by decide) 0 10 rfl rfl rfl rfl (Nat.le_of_ble_eq_true rfl) dX10_balance_20 ⟨by decide, by decide⟩ ?_
  rintro _ _ ⟨q_20, hq_20, rfl, rfl⟩
  refine zz_st (st' := [.int (iI q_20)]) rfl (zz_ws (ws' := wMod z mh xT xD xP xR xC xW xA xH xU xB xI xN xM xY xK xL xE xS 0 m_ca m_tp m_fa m_at m_wr m_va m_pl m_st m_lo m_bl m_bc m_fo m_yl m_yw m_nu m_nl m_lu m_ll m_ln kT kD kP kR kC kW kA kH kU kB kI kN kM kY kK kL kE gS_16) rfl ?_)
  have hf20 := fstNeg_rng hq_20 hk0.2
  refine zz_istore_n (ls' := [(3, .int (iI q_20)), (0, .ref mh), (1, .int (iI t9)), (2, .int (iI un))]) C dX10_balance_23 rfl (by decide) rfl ?_
  refine zz_iload_n C 2 dX10_balance_24 rfl rfl ?_
  refine zz_iconst C dX10_balance_25 ?_
  refine zz_aload_n C 1 dX10_balance_26 rfl rfl ?_
  refine zz_get C 0 (ci := 10) (k := 1) rfl rfl in_X10 (by decide) qw_927 rfl rfl dX10_balance_27 ?_
  refine zz_iconst C dX10_balance_30 ?_
  refine zz_iald C 1 rfl (by omega) (by omega) (by decide) dX10_balance_31 ?_
  refine zz_callS (wr := wMod z mh xT xD xP xR xC xW xA xH xU xB xI xN xM xY xK xL xE xS 0 m_ca m_tp m_fa m_at m_wr m_va m_pl m_st m_lo m_bl m_bc m_fo m_yl m_yw m_nu m_nl m_lu m_ll m_ln kT kD kP kR kC kW kA kH kU kB kI kN kM kY kK kL kE gS_16) (st := []) C (cc_X10_in l z t9 0 (kT 0) (by omega) (by omega) (by omega)) yk_X10_in qw_1049 ⟨by decide, by decide⟩ [] [0, 1, 2, 3, 4, 5, 6, 7, 8, 9, 10, 11, 12, 13, 14, 15, 16, 17, 18] rfl rfl rfl rfl (by decide) rfl rfl (Nat.le_of_ble_eq_true rfl) dX10_balance_32 ⟨by decide, by decide⟩ ?_
  rintro _ _ ⟨q_32, hq_32, rfl, rfl⟩
  refine zz_st (st' := [.int (iI q_32)]) rfl (zz_ws (ws' := wMod z mh xT xD xP xR xC xW xA xH xU xB xI xN xM xY xK xL xE xS 0 m_ca m_tp m_fa m_at m_wr m_va m_pl m_st m_lo m_bl m_bc m_fo m_yl m_yw m_nu m_nl m_lu m_ll m_ln kT kD kP kR kC kW kA kH kU kB kI kN kM kY kK kL kE gS_16) rfl ?_)
  refine zz_if_eq (tgt := 65) C dX10_balance_35 (by decide) (by unfold rI; omega) (fun c35 => ?_) (fun c35 => ?_)
  · skip
    refine zz_ldc2 (a := (-1)) C qw_1150 (by decide +kernel) dX10_balance_65 ?_
    exact zz_lret C hr dX10_balance_68 ⟨_, gS_16, ⟨q_20, hq_20, by first | exact Or.inr ⟨by omega, rfl⟩ | exact Or.inl ⟨by omega, by omega, by rw [hs9]⟩⟩, rfl, rfl⟩
  · skip
    refine zz_iload_n C 0 dX10_balance_38 rfl rfl ?_
    refine zz_if_eq (tgt := 47) C dX10_balance_39 (by decide) (by unfold rI; omega) (fun c39 => ?_) (fun c39 => ?_)
    · skip
      have hs9 := hgS_16 t9 (by omega) (by omega)
      have hb9 := mBal_rng hkT hk2 (mHeld_rng hkT) hca (k := t9) (by omega) (by omega)
      have hz9 := fstNeg_at hq_20 (by show 0 ≤ m_ca; omega) (by omega) (show q_20 = 0 ∨ t9 < q_20 by omega)
      have hp9 := p20_rng (k := t9) (by omega) (by omega)
      refine zz_aload_n C 1 dX10_balance_47 rfl rfl ?_
      refine zz_get C 0 (ci := 10) (k := 34) rfl rfl in_X10 (by decide) qw_960 rfl rfl dX10_balance_48 ?_
      refine zz_iload_n C 2 dX10_balance_51 rfl rfl ?_
      refine zz_lald C 18 rfl (by omega) (by omega) (by decide) dX10_balance_52 ?_
      refine zz_aload_n C 1 dX10_balance_53 rfl rfl ?_
      refine zz_iload_n C 2 dX10_balance_54 rfl rfl ?_
      refine zz_callV (wr := ([] : va_W)) (st := [.long (iL (gS_16 t9))]) C (cc_X10_power l z mh xT xD xP xR xC xW xA xH xU xB xI xN xM xY xK xL xE xS 0 m_ca m_tp m_fa m_at m_wr m_va m_pl m_st m_lo m_bl m_bc m_fo m_yl m_yw m_nu m_nl m_lu m_ll m_ln kT kD kP kR kC kW kA kH kU kB kI kN kM kY kK kL kE gS_16 t9 (by omega)) yk_X10_power qw_1295 ⟨by decide, by decide⟩ [0, 1, 2, 3, 4, 5, 6, 7, 8, 9, 10, 11, 12, 13, 14, 15, 16, 17, 18] [] rfl rfl rfl rfl (by decide) 0 10 rfl rfl rfl rfl (Nat.le_of_ble_eq_true rfl) dX10_balance_55 ⟨by decide, by decide⟩ ?_
      rintro _ _ ⟨rfl, rfl⟩
      refine zz_st (st' := [.long (iL (p20 t9)), .long (iL (gS_16 t9))]) rfl (zz_ws (ws' := wMod z mh xT xD xP xR xC xW xA xH xU xB xI xN xM xY xK xL xE xS 0 m_ca m_tp m_fa m_at m_wr m_va m_pl m_st m_lo m_bl m_bc m_fo m_yl m_yw m_nu m_nl m_lu m_ll m_ln kT kD kP kR kC kW kA kH kU kB kI kN kM kY kK kL kE gS_16) rfl ?_)
      refine zz_iload_n C 3 dX10_balance_58 rfl rfl ?_
      refine zz_callS (wr := wMod z mh xT xD xP xR xC xW xA xH xU xB xI xN xM xY xK xL xE xS 0 m_ca m_tp m_fa m_at m_wr m_va m_pl m_st m_lo m_bl m_bc m_fo m_yl m_yw m_nu m_nl m_lu m_ll m_ln kT kD kP kR kC kW kA kH kU kB kI kN kM kY kK kL kE gS_16) (st := []) C (cc_X10_tells l z (gS_16 t9) (p20 t9) un (by omega) (by omega) (by omega)) yk_X10_tells qw_1233 ⟨by decide, by decide⟩ [] [0, 1, 2, 3, 4, 5, 6, 7, 8, 9, 10, 11, 12, 13, 14, 15, 16, 17, 18] rfl rfl rfl rfl (by decide) rfl rfl (Nat.le_of_ble_eq_true rfl) dX10_balance_59 ⟨by decide, by decide⟩ ?_
      rintro _ _ ⟨rfl, rfl⟩
      refine zz_st (st' := [.long (iL (ltm (gS_16 t9) (p20 t9) un))]) rfl (zz_ws (ws' := wMod z mh xT xD xP xR xC xW xA xH xU xB xI xN xM xY xK xL xE xS 0 m_ca m_tp m_fa m_at m_wr m_va m_pl m_st m_lo m_bl m_bc m_fo m_yl m_yw m_nu m_nl m_lu m_ll m_ln kT kD kP kR kC kW kA kH kU kB kI kN kM kY kK kL kE gS_16) rfl ?_)
      refine zz_goto (tgt := 68) C dX10_balance_62 (by decide) ?_
      exact zz_lret C hr dX10_balance_68 ⟨_, gS_16, ⟨q_20, hq_20, by first | exact Or.inr ⟨by omega, rfl⟩ | exact Or.inl ⟨by omega, by omega, by rw [hs9]⟩⟩, rfl, rfl⟩
    · skip
      refine zz_iload_n C 2 dX10_balance_42 rfl rfl ?_
      refine zz_iload_n C 0 dX10_balance_43 rfl rfl ?_
      refine zz_icmp_ge (tgt := 65) C dX10_balance_44 (by decide) (by unfold rI; omega) (by unfold rI; omega) (fun c44 => ?_) (fun c44 => ?_)
      · skip
        refine zz_ldc2 (a := (-1)) C qw_1150 (by decide +kernel) dX10_balance_65 ?_
        exact zz_lret C hr dX10_balance_68 ⟨_, gS_16, ⟨q_20, hq_20, by first | exact Or.inr ⟨by omega, rfl⟩ | exact Or.inl ⟨by omega, by omega, by rw [hs9]⟩⟩, rfl, rfl⟩
      · skip
        have hs9 := hgS_16 t9 (by omega) (by omega)
        have hb9 := mBal_rng hkT hk2 (mHeld_rng hkT) hca (k := t9) (by omega) (by omega)
        have hz9 := fstNeg_at hq_20 (by show 0 ≤ m_ca; omega) (by omega) (show q_20 = 0 ∨ t9 < q_20 by omega)
        have hp9 := p20_rng (k := t9) (by omega) (by omega)
        refine zz_aload_n C 1 dX10_balance_47 rfl rfl ?_
        refine zz_get C 0 (ci := 10) (k := 34) rfl rfl in_X10 (by decide) qw_960 rfl rfl dX10_balance_48 ?_
        refine zz_iload_n C 2 dX10_balance_51 rfl rfl ?_
        refine zz_lald C 18 rfl (by omega) (by omega) (by decide) dX10_balance_52 ?_
        refine zz_aload_n C 1 dX10_balance_53 rfl rfl ?_
        refine zz_iload_n C 2 dX10_balance_54 rfl rfl ?_
        refine zz_callV (wr := ([] : va_W)) (st := [.long (iL (gS_16 t9))]) C (cc_X10_power l z mh xT xD xP xR xC xW xA xH xU xB xI xN xM xY xK xL xE xS 0 m_ca m_tp m_fa m_at m_wr m_va m_pl m_st m_lo m_bl m_bc m_fo m_yl m_yw m_nu m_nl m_lu m_ll m_ln kT kD kP kR kC kW kA kH kU kB kI kN kM kY kK kL kE gS_16 t9 (by omega)) yk_X10_power qw_1295 ⟨by decide, by decide⟩ [0, 1, 2, 3, 4, 5, 6, 7, 8, 9, 10, 11, 12, 13, 14, 15, 16, 17, 18] [] rfl rfl rfl rfl (by decide) 0 10 rfl rfl rfl rfl (Nat.le_of_ble_eq_true rfl) dX10_balance_55 ⟨by decide, by decide⟩ ?_
        rintro _ _ ⟨rfl, rfl⟩
        refine zz_st (st' := [.long (iL (p20 t9)), .long (iL (gS_16 t9))]) rfl (zz_ws (ws' := wMod z mh xT xD xP xR xC xW xA xH xU xB xI xN xM xY xK xL xE xS 0 m_ca m_tp m_fa m_at m_wr m_va m_pl m_st m_lo m_bl m_bc m_fo m_yl m_yw m_nu m_nl m_lu m_ll m_ln kT kD kP kR kC kW kA kH kU kB kI kN kM kY kK kL kE gS_16) rfl ?_)
        refine zz_iload_n C 3 dX10_balance_58 rfl rfl ?_
        refine zz_callS (wr := wMod z mh xT xD xP xR xC xW xA xH xU xB xI xN xM xY xK xL xE xS 0 m_ca m_tp m_fa m_at m_wr m_va m_pl m_st m_lo m_bl m_bc m_fo m_yl m_yw m_nu m_nl m_lu m_ll m_ln kT kD kP kR kC kW kA kH kU kB kI kN kM kY kK kL kE gS_16) (st := []) C (cc_X10_tells l z (gS_16 t9) (p20 t9) un (by omega) (by omega) (by omega)) yk_X10_tells qw_1233 ⟨by decide, by decide⟩ [] [0, 1, 2, 3, 4, 5, 6, 7, 8, 9, 10, 11, 12, 13, 14, 15, 16, 17, 18] rfl rfl rfl rfl (by decide) rfl rfl (Nat.le_of_ble_eq_true rfl) dX10_balance_59 ⟨by decide, by decide⟩ ?_
        rintro _ _ ⟨rfl, rfl⟩
        refine zz_st (st' := [.long (iL (ltm (gS_16 t9) (p20 t9) un))]) rfl (zz_ws (ws' := wMod z mh xT xD xP xR xC xW xA xH xU xB xI xN xM xY xK xL xE xS 0 m_ca m_tp m_fa m_at m_wr m_va m_pl m_st m_lo m_bl m_bc m_fo m_yl m_yw m_nu m_nl m_lu m_ll m_ln kT kD kP kR kC kW kA kH kU kB kI kN kM kY kK kL kE gS_16) rfl ?_)
        refine zz_goto (tgt := 68) C dX10_balance_62 (by decide) ?_
        exact zz_lret C hr dX10_balance_68 ⟨_, gS_16, ⟨q_20, hq_20, by first | exact Or.inr ⟨by omega, rfl⟩ | exact Or.inl ⟨by omega, by omega, by rw [hs9]⟩⟩, rfl, rfl⟩
abbrev po_X10_need (z : zC) (mh : Nat) (xT : Nat) (xD : Nat) (xP : Nat) (xR : Nat) (xC : Nat) (xW : Nat) (xA : Nat) (xH : Nat) (xU : Nat) (xB : Nat) (xI : Nat) (xN : Nat) (xM : Nat) (xY : Nat) (xK : Nat) (xL : Nat) (xE : Nat) (xS : Nat) (m_ra : Int) (m_ca : Int) (m_tp : Int) (m_fa : Int) (m_at : Int) (m_wr : Int) (m_va : Int) (m_pl : Int) (m_st : Int) (m_lo : Int) (m_bl : Int) (m_bc : Int) (m_fo : Int) (m_yl : Int) (m_yw : Int) (m_nu : Int) (m_nl : Int) (m_lu : Int) (m_ll : Int) (m_ln : Int) (kT : Int → Int) (kD : Int → Int) (kP : Int → Int) (kR : Int → Int) (kC : Int → Int) (kW : Int → Int) (kA : Int → Int) (kH : Int → Int) (kU : Int → Int) (kB : Int → Int) (kI : Int → Int) (kN : Int → Int) (kM : Int → Int) (kY : Int → Int) (kK : Int → Int) (kL : Int → Int) (kE : Int → Int) (kS : Int → Int) (un : Int) : Option Value → va_W → Prop := fun v w => ∃ (q : Int), ∃ (gS : Int → Int), ∃ (gu : Int), ∃ (gl : Int), (isNeed (mBal kT (mHeld kT) 0) (mCar kT 0) 0 (kT 0) un q) ∧ v = some (Value.long (iL q)) ∧ w = wMod z mh xT xD xP xR xC xW xA xH xU xB xI xN xM xY xK xL xE xS 0 m_ca m_tp m_fa m_at m_wr m_va m_pl m_st m_lo m_bl m_bc m_fo m_yl m_yw gu gl m_lu m_ll m_ln kT kD kP kR kC kW kA kH kU kB kI kN kM kY kK kL kE gS
abbrev rm_X10_need : Room := { frames := 3, cells := 0, slots := 0, locals := 108 }
set_option maxHeartbeats 4000000 in
set_option maxRecDepth 100000 in
theorem cc_X10_need (l : Launch) (z : zC) (mh : Nat) (xT : Nat) (xD : Nat) (xP : Nat) (xR : Nat) (xC : Nat) (xW : Nat) (xA : Nat) (xH : Nat) (xU : Nat) (xB : Nat) (xI : Nat) (xN : Nat) (xM : Nat) (xY : Nat) (xK : Nat) (xL : Nat) (xE : Nat) (xS : Nat) (m_ra : Int) (m_ca : Int) (m_tp : Int) (m_fa : Int) (m_at : Int) (m_wr : Int) (m_va : Int) (m_pl : Int) (m_st : Int) (m_lo : Int) (m_bl : Int) (m_bc : Int) (m_fo : Int) (m_yl : Int) (m_yw : Int) (m_nu : Int) (m_nl : Int) (m_lu : Int) (m_ll : Int) (m_ln : Int) (kT : Int → Int) (kD : Int → Int) (kP : Int → Int) (kR : Int → Int) (kC : Int → Int) (kW : Int → Int) (kA : Int → Int) (kH : Int → Int) (kU : Int → Int) (kB : Int → Int) (kI : Int → Int) (kN : Int → Int) (kM : Int → Int) (kY : Int → Int) (kK : Int → Int) (kL : Int → Int) (kE : Int → Int) (kS : Int → Int) (un : Int) (hkT : mOk kT) (hk2 : mOk2 kT) (hun : un = 0 ∨ un = 1) : zzMet l yX10_need cX10_need 2 (Option.some .long) rm_X10_need z [.ref mh, .int (iI un)] (wMod z mh xT xD xP xR xC xW xA xH xU xB xI xN xM xY xK xL xE xS m_ra m_ca m_tp m_fa m_at m_wr m_va m_pl m_st m_lo m_bl m_bc m_fo m_yl m_yw m_nu m_nl m_lu m_ll m_ln kT kD kP kR kC kW kA kH kU kB kI kN kM kY kK kL kE kS) (po_X10_need z mh xT xD xP xR xC xW xA xH xU xB xI xN xM xY xK xL xE xS m_ra m_ca m_tp m_fa m_at m_wr m_va m_pl m_st m_lo m_bl m_bc m_fo m_yl m_yw m_nu m_nl m_lu m_ll m_ln kT kD kP kR kC kW kA kH kU kB kI kN kM kY kK kL kE kS un) := by
  refine zzMet.of (own := RX10) (ls0 := [(0, .ref mh), (1, .int (iI un))]) (by decide) rfl (Nat.le_of_ble_eq_true rfl) rfl ?_
  intro p e s m below meth c A C hr hnm
  have hk0 := hkT.1
  have hk1 := hkT.2.1
  refine zz_aload_n C 0 dX10_need_0 rfl rfl ?_
  refine zz_iconst C dX10_need_1 ?_
  refine zz_put (ty := .int) (ws' := wMod z mh xT xD xP xR xC xW xA xH xU xB xI xN xM xY xK xL xE xS 0 m_ca m_tp m_fa m_at m_wr m_va m_pl m_st m_lo m_bl m_bc m_fo m_yl m_yw m_nu m_nl m_lu m_ll m_ln kT kD kP kR kC kW kA kH kU kB kI kN kM kY kK kL kE kS) C 0 (ci := 10) (k := 0) rfl rfl in_X10 tyX10 tyX10_ok nmX10 (by decide) qw_926 rfl rfl (by decide +kernel) rfl rfl (Nat.le_of_ble_eq_true rfl) rfl dX10_need_2 ?_
  refine zz_aload_n C 0 dX10_need_5 rfl rfl ?_
  refine zz_aload_n C 0 dX10_need_6 rfl rfl ?_
  refine zz_get C 0 (ci := 10) (k := 1) rfl rfl in_X10 (by decide) qw_927 rfl rfl dX10_need_7 ?_
  refine zz_bipush C dX10_need_10 (by decide +kernel) ?_
  refine zz_iconst C dX10_need_12 ?_
  refine zz_callV (wr := ([] : va_W)) (st := []) C (cc_X10_runs_h l z mh xT xD xP xR xC xW xA xH xU xB xI xN xM xY xK xL xE xS 0 m_ca m_tp m_fa m_at m_wr m_va m_pl m_st m_lo m_bl m_bc m_fo m_yl m_yw m_nu m_nl m_lu m_ll m_ln kT kD kP kR kC kW kA kH kU kB kI kN kM kY kK kL kE kS 0 (by omega) (by omega)) yk_X10_runs qw_1291 ⟨by decide, by decide⟩ [0, 1, 2, 3, 4, 5, 6, 7, 8, 9, 10, 11, 12, 13, 14, 15, 16, 17, 18] [] rfl rfl rfl rfl (by decide) 0 10 rfl rfl rfl rfl (Nat.le_of_ble_eq_true rfl) dX10_need_13 ⟨by decide, by decide⟩ ?_
  rintro _ _ ⟨gS_13, hgS_13, rfl, rfl⟩
  refine zz_st (st' := []) rfl (zz_ws (ws' := wMod z mh xT xD xP xR xC xW xA xH xU xB xI xN xM xY xK xL xE xS 0 m_ca m_tp m_fa m_at m_wr m_va m_pl m_st m_lo m_bl m_bc m_fo m_yl m_yw m_nu m_nl m_lu m_ll m_ln kT kD kP kR kC kW kA kH kU kB kI kN kM kY kK kL kE gS_13) rfl ?_)
  refine zz_aload_n C 0 dX10_need_16 rfl rfl ?_
  refine zz_iconst C dX10_need_17 ?_
  refine zz_callV (wr := ([] : va_W)) (st := []) C (cc_X10_needs l z mh xT xD xP xR xC xW xA xH xU xB xI xN xM xY xK xL xE xS 0 m_ca m_tp m_fa m_at m_wr m_va m_pl m_st m_lo m_bl m_bc m_fo m_yl m_yw m_nu m_nl m_lu m_ll m_ln kT kD kP kR kC kW kA kH kU kB kI kN kM kY kK kL kE gS_13 (mBal kT (mHeld kT) 0) 0 (by omega) (by omega) (by omega) hgS_13 (fun j h1 h2 => mBal_rng hkT hk2 (mHeld_rng hkT) (by omega) h1 h2)) yk_X10_needs qw_1299 ⟨by decide, by decide⟩ [0, 1, 2, 3, 4, 5, 6, 7, 8, 9, 10, 11, 12, 13, 14, 15, 16, 17, 18] [] rfl rfl rfl rfl (by decide) 0 10 rfl rfl rfl rfl (Nat.le_of_ble_eq_true rfl) dX10_need_18 ⟨by decide, by decide⟩ ?_
  rintro _ _ ⟨qn_18, qd_18, hlk_18, hqd_18, hqn_18, rfl, rfl⟩
  refine zz_st (st' := []) rfl (zz_ws (ws' := wMod z mh xT xD xP xR xC xW xA xH xU xB xI xN xM xY xK xL xE xS 0 m_ca m_tp m_fa m_at m_wr m_va m_pl m_st m_lo m_bl m_bc m_fo m_yl m_yw qn_18 qd_18 m_lu m_ll m_ln kT kD kP kR kC kW kA kH kU kB kI kN kM kY kK kL kE gS_13) rfl ?_)
  refine zz_aload_n C 0 dX10_need_21 rfl rfl ?_
  refine zz_get C 0 (ci := 10) (k := 32) rfl rfl in_X10 (by decide) qw_958 rfl rfl dX10_need_22 ?_
  refine zz_aload_n C 0 dX10_need_25 rfl rfl ?_
  refine zz_get C 0 (ci := 10) (k := 33) rfl rfl in_X10 (by decide) qw_959 rfl rfl dX10_need_26 ?_
  refine zz_iload_n C 1 dX10_need_29 rfl rfl ?_
  refine zz_callS (wr := wMod z mh xT xD xP xR xC xW xA xH xU xB xI xN xM xY xK xL xE xS 0 m_ca m_tp m_fa m_at m_wr m_va m_pl m_st m_lo m_bl m_bc m_fo m_yl m_yw qn_18 qd_18 m_lu m_ll m_ln kT kD kP kR kC kW kA kH kU kB kI kN kM kY kK kL kE gS_13) (st := []) C (cc_X10_tells l z qn_18 qd_18 un (by omega) (by omega) (by omega)) yk_X10_tells qw_1233 ⟨by decide, by decide⟩ [] [0, 1, 2, 3, 4, 5, 6, 7, 8, 9, 10, 11, 12, 13, 14, 15, 16, 17, 18] rfl rfl rfl rfl (by decide) rfl rfl (Nat.le_of_ble_eq_true rfl) dX10_need_30 ⟨by decide, by decide⟩ ?_
  rintro _ _ ⟨rfl, rfl⟩
  refine zz_st (st' := [.long (iL (ltm qn_18 qd_18 un))]) rfl (zz_ws (ws' := wMod z mh xT xD xP xR xC xW xA xH xU xB xI xN xM xY xK xL xE xS 0 m_ca m_tp m_fa m_at m_wr m_va m_pl m_st m_lo m_bl m_bc m_fo m_yl m_yw qn_18 qd_18 m_lu m_ll m_ln kT kD kP kR kC kW kA kH kU kB kI kN kM kY kK kL kE gS_13) rfl ?_)
  exact zz_lret C hr dX10_need_33 ⟨_, gS_13, qn_18, qd_18, ⟨qn_18, qd_18, hlk_18, rfl⟩, rfl, rfl⟩
abbrev po_X10_lack (z : zC) (mh : Nat) (xT : Nat) (xD : Nat) (xP : Nat) (xR : Nat) (xC : Nat) (xW : Nat) (xA : Nat) (xH : Nat) (xU : Nat) (xB : Nat) (xI : Nat) (xN : Nat) (xM : Nat) (xY : Nat) (xK : Nat) (xL : Nat) (xE : Nat) (xS : Nat) (m_ra : Int) (m_ca : Int) (m_tp : Int) (m_fa : Int) (m_at : Int) (m_wr : Int) (m_va : Int) (m_pl : Int) (m_st : Int) (m_lo : Int) (m_bl : Int) (m_bc : Int) (m_fo : Int) (m_yl : Int) (m_yw : Int) (m_nu : Int) (m_nl : Int) (m_lu : Int) (m_ll : Int) (m_ln : Int) (kT : Int → Int) (kD : Int → Int) (kP : Int → Int) (kR : Int → Int) (kC : Int → Int) (kW : Int → Int) (kA : Int → Int) (kH : Int → Int) (kU : Int → Int) (kB : Int → Int) (kI : Int → Int) (kN : Int → Int) (kM : Int → Int) (kY : Int → Int) (kK : Int → Int) (kL : Int → Int) (kE : Int → Int) (kS : Int → Int) (d9 : Int) (un : Int) : Option Value → va_W → Prop := fun v w => ∃ (q : Int), ∃ (gS : Int → Int), ∃ (gu : Int), ∃ (gl : Int), (isLak (mBal kT (mHeld kT) m_ca) (mCar kT d9) (kT 0) d9 un q) ∧ v = some (Value.long (iL q)) ∧ w = wMod z mh xT xD xP xR xC xW xA xH xU xB xI xN xM xY xK xL xE xS 0 m_ca m_tp m_fa m_at m_wr m_va m_pl m_st m_lo m_bl m_bc m_fo m_yl m_yw gu gl m_lu m_ll m_ln kT kD kP kR kC kW kA kH kU kB kI kN kM kY kK kL kE gS
abbrev rm_X10_lack : Room := { frames := 3, cells := 0, slots := 0, locals := 108 }
set_option maxHeartbeats 4000000 in
set_option maxRecDepth 100000 in
theorem cc_X10_lack (l : Launch) (z : zC) (mh : Nat) (xT : Nat) (xD : Nat) (xP : Nat) (xR : Nat) (xC : Nat) (xW : Nat) (xA : Nat) (xH : Nat) (xU : Nat) (xB : Nat) (xI : Nat) (xN : Nat) (xM : Nat) (xY : Nat) (xK : Nat) (xL : Nat) (xE : Nat) (xS : Nat) (m_ra : Int) (m_ca : Int) (m_tp : Int) (m_fa : Int) (m_at : Int) (m_wr : Int) (m_va : Int) (m_pl : Int) (m_st : Int) (m_lo : Int) (m_bl : Int) (m_bc : Int) (m_fo : Int) (m_yl : Int) (m_yw : Int) (m_nu : Int) (m_nl : Int) (m_lu : Int) (m_ll : Int) (m_ln : Int) (kT : Int → Int) (kD : Int → Int) (kP : Int → Int) (kR : Int → Int) (kC : Int → Int) (kW : Int → Int) (kA : Int → Int) (kH : Int → Int) (kU : Int → Int) (kB : Int → Int) (kI : Int → Int) (kN : Int → Int) (kM : Int → Int) (kY : Int → Int) (kK : Int → Int) (kL : Int → Int) (kE : Int → Int) (kS : Int → Int) (d9 : Int) (un : Int) (hkT : mOk kT) (hk2 : mOk2 kT) (hca : 0 ≤ m_ca ∧ m_ca ≤ 9999) (hd9 : -2147483648 ≤ d9 ∧ d9 < 2147483648) (hun : un = 0 ∨ un = 1) : zzMet l yX10_lack cX10_lack 4 (Option.some .long) rm_X10_lack z [.ref mh, .int (iI d9), .int (iI un)] (wMod z mh xT xD xP xR xC xW xA xH xU xB xI xN xM xY xK xL xE xS m_ra m_ca m_tp m_fa m_at m_wr m_va m_pl m_st m_lo m_bl m_bc m_fo m_yl m_yw m_nu m_nl m_lu m_ll m_ln kT kD kP kR kC kW kA kH kU kB kI kN kM kY kK kL kE kS) (po_X10_lack z mh xT xD xP xR xC xW xA xH xU xB xI xN xM xY xK xL xE xS m_ra m_ca m_tp m_fa m_at m_wr m_va m_pl m_st m_lo m_bl m_bc m_fo m_yl m_yw m_nu m_nl m_lu m_ll m_ln kT kD kP kR kC kW kA kH kU kB kI kN kM kY kK kL kE kS d9 un) := by
  refine zzMet.of (own := RX10) (ls0 := [(0, .ref mh), (1, .int (iI d9)), (2, .int (iI un))]) (by decide) rfl (Nat.le_of_ble_eq_true rfl) rfl ?_
  intro p e s m below meth c A C hr hnm
  have hk0 := hkT.1
  have hk1 := hkT.2.1
  refine zz_aload_n C 0 dX10_lack_0 rfl rfl ?_
  refine zz_iconst C dX10_lack_1 ?_
  refine zz_put (ty := .int) (ws' := wMod z mh xT xD xP xR xC xW xA xH xU xB xI xN xM xY xK xL xE xS 0 m_ca m_tp m_fa m_at m_wr m_va m_pl m_st m_lo m_bl m_bc m_fo m_yl m_yw m_nu m_nl m_lu m_ll m_ln kT kD kP kR kC kW kA kH kU kB kI kN kM kY kK kL kE kS) C 0 (ci := 10) (k := 0) rfl rfl in_X10 tyX10 tyX10_ok nmX10 (by decide) qw_926 rfl rfl (by decide +kernel) rfl rfl (Nat.le_of_ble_eq_true rfl) rfl dX10_lack_2 ?_
  refine zz_aload_n C 0 dX10_lack_5 rfl rfl ?_
  refine zz_aload_n C 0 dX10_lack_6 rfl rfl ?_
  refine zz_get C 0 (ci := 10) (k := 1) rfl rfl in_X10 (by decide) qw_927 rfl rfl dX10_lack_7 ?_
  refine zz_bipush C dX10_lack_10 (by decide +kernel) ?_
  refine zz_aload_n C 0 dX10_lack_12 rfl rfl ?_
  refine zz_get C 0 (ci := 10) (k := 3) rfl rfl in_X10 (by decide) qw_929 rfl rfl dX10_lack_13 ?_
  refine zz_callV (wr := ([] : va_W)) (st := []) C (cc_X10_runs_h l z mh xT xD xP xR xC xW xA xH xU xB xI xN xM xY xK xL xE xS 0 m_ca m_tp m_fa m_at m_wr m_va m_pl m_st m_lo m_bl m_bc m_fo m_yl m_yw m_nu m_nl m_lu m_ll m_ln kT kD kP kR kC kW kA kH kU kB kI kN kM kY kK kL kE kS m_ca (by omega) (by omega)) yk_X10_runs qw_1291 ⟨by decide, by decide⟩ [0, 1, 2, 3, 4, 5, 6, 7, 8, 9, 10, 11, 12, 13, 14, 15, 16, 17, 18] [] rfl rfl rfl rfl (by decide) 0 10 rfl rfl rfl rfl (Nat.le_of_ble_eq_true rfl) dX10_lack_16 ⟨by decide, by decide⟩ ?_
  rintro _ _ ⟨gS_16, hgS_16, rfl, rfl⟩
  refine zz_st (st' := []) rfl (zz_ws (ws' := wMod z mh xT xD xP xR xC xW xA xH xU xB xI xN xM xY xK xL xE xS 0 m_ca m_tp m_fa m_at m_wr m_va m_pl m_st m_lo m_bl m_bc m_fo m_yl m_yw m_nu m_nl m_lu m_ll m_ln kT kD kP kR kC kW kA kH kU kB kI kN kM kY kK kL kE gS_16) rfl ?_)
  refine zz_aload_n C 0 dX10_lack_19 rfl rfl ?_
  refine zz_callV (wr := ([] : va_W)) (st := []) C (cc_X10_failsAt l z mh xT xD xP xR xC xW xA xH xU xB xI xN xM xY xK xL xE xS 0 m_ca m_tp m_fa m_at m_wr m_va m_pl m_st m_lo m_bl m_bc m_fo m_yl m_yw m_nu m_nl m_lu m_ll m_ln kT kD kP kR kC kW kA kH kU kB kI kN kM kY kK kL kE gS_16 (mBal kT (mHeld kT) m_ca) (by omega) hgS_16 (fun j h1 h2 => mBal_rng hkT hk2 (mHeld_rng hkT) hca h1 h2)) yk_X10_failsAt qw_1319 ⟨by decide, by decide⟩ [0, 1, 2, 3, 4, 5, 6, 7, 8, 9, 10, 11, 12, 13, 14, 15, 16, 17, 18] [] rfl rfl rfl rfl (by decide) 0 10 rfl rfl rfl rfl (Nat.le_of_ble_eq_true rfl) dX10_lack_20 ⟨by decide, by decide⟩ ?_
  rintro _ _ ⟨q_20, hq_20, rfl, rfl⟩
  refine zz_st (st' := [.int (iI q_20)]) rfl (zz_ws (ws' := wMod z mh xT xD xP xR xC xW xA xH xU xB xI xN xM xY xK xL xE xS 0 m_ca m_tp m_fa m_at m_wr m_va m_pl m_st m_lo m_bl m_bc m_fo m_yl m_yw m_nu m_nl m_lu m_ll m_ln kT kD kP kR kC kW kA kH kU kB kI kN kM kY kK kL kE gS_16) rfl ?_)
  have hf20 := fstNeg_rng hq_20 hk0.2
  refine zz_istore_n (ls' := [(3, .int (iI q_20)), (0, .ref mh), (1, .int (iI d9)), (2, .int (iI un))]) C dX10_lack_23 rfl (by decide) rfl ?_
  refine zz_iload_n C 2 dX10_lack_24 rfl rfl ?_
  refine zz_iconst C dX10_lack_25 ?_
  refine zz_aload_n C 1 dX10_lack_26 rfl rfl ?_
  refine zz_get C 0 (ci := 10) (k := 1) rfl rfl in_X10 (by decide) qw_927 rfl rfl dX10_lack_27 ?_
  refine zz_iconst C dX10_lack_30 ?_
  refine zz_iald C 1 rfl (by omega) (by omega) (by decide) dX10_lack_31 ?_
  refine zz_callS (wr := wMod z mh xT xD xP xR xC xW xA xH xU xB xI xN xM xY xK xL xE xS 0 m_ca m_tp m_fa m_at m_wr m_va m_pl m_st m_lo m_bl m_bc m_fo m_yl m_yw m_nu m_nl m_lu m_ll m_ln kT kD kP kR kC kW kA kH kU kB kI kN kM kY kK kL kE gS_16) (st := []) C (cc_X10_in l z d9 0 (kT 0) (by omega) (by omega) (by omega)) yk_X10_in qw_1049 ⟨by decide, by decide⟩ [] [0, 1, 2, 3, 4, 5, 6, 7, 8, 9, 10, 11, 12, 13, 14, 15, 16, 17, 18] rfl rfl rfl rfl (by decide) rfl rfl (Nat.le_of_ble_eq_true rfl) dX10_lack_32 ⟨by decide, by decide⟩ ?_
  rintro _ _ ⟨q_32, hq_32, rfl, rfl⟩
  refine zz_st (st' := [.int (iI q_32)]) rfl (zz_ws (ws' := wMod z mh xT xD xP xR xC xW xA xH xU xB xI xN xM xY xK xL xE xS 0 m_ca m_tp m_fa m_at m_wr m_va m_pl m_st m_lo m_bl m_bc m_fo m_yl m_yw m_nu m_nl m_lu m_ll m_ln kT kD kP kR kC kW kA kH kU kB kI kN kM kY kK kL kE gS_16) rfl ?_)
  refine zz_if_eq (tgt := 47) C dX10_lack_35 (by decide) (by unfold rI; omega) (fun c35 => ?_) (fun c35 => ?_)
  · skip
    refine zz_ldc2 (a := (-1)) C qw_1150 (by decide +kernel) dX10_lack_47 ?_
    exact zz_lret C hr dX10_lack_50 ⟨_, gS_16, m_nu, m_nl, ⟨q_20, hq_20, Or.inr ⟨by omega, rfl⟩⟩, rfl, rfl⟩
  · skip
    refine zz_iload_n C 0 dX10_lack_38 rfl rfl ?_
    refine zz_if_le (tgt := 51) C dX10_lack_39 (by decide) (by unfold rI; omega) (fun c39 => ?_) (fun c39 => ?_)
    · skip
      refine zz_aload_n C 1 dX10_lack_51 rfl rfl ?_
      refine zz_iload_n C 2 dX10_lack_52 rfl rfl ?_
      refine zz_callV (wr := ([] : va_W)) (st := []) C (cc_X10_needs l z mh xT xD xP xR xC xW xA xH xU xB xI xN xM xY xK xL xE xS 0 m_ca m_tp m_fa m_at m_wr m_va m_pl m_st m_lo m_bl m_bc m_fo m_yl m_yw m_nu m_nl m_lu m_ll m_ln kT kD kP kR kC kW kA kH kU kB kI kN kM kY kK kL kE gS_16 (mBal kT (mHeld kT) m_ca) d9 (by omega) (by omega) (by omega) hgS_16 (fun j h1 h2 => mBal_rng hkT hk2 (mHeld_rng hkT) hca h1 h2)) yk_X10_needs qw_1299 ⟨by decide, by decide⟩ [0, 1, 2, 3, 4, 5, 6, 7, 8, 9, 10, 11, 12, 13, 14, 15, 16, 17, 18] [] rfl rfl rfl rfl (by decide) 0 10 rfl rfl rfl rfl (Nat.le_of_ble_eq_true rfl) dX10_lack_53 ⟨by decide, by decide⟩ ?_
      rintro _ _ ⟨qn_53, qd_53, hlk_53, hqd_53, hqn_53, rfl, rfl⟩
      refine zz_st (st' := []) rfl (zz_ws (ws' := wMod z mh xT xD xP xR xC xW xA xH xU xB xI xN xM xY xK xL xE xS 0 m_ca m_tp m_fa m_at m_wr m_va m_pl m_st m_lo m_bl m_bc m_fo m_yl m_yw qn_53 qd_53 m_lu m_ll m_ln kT kD kP kR kC kW kA kH kU kB kI kN kM kY kK kL kE gS_16) rfl ?_)
      refine zz_aload_n C 1 dX10_lack_56 rfl rfl ?_
      refine zz_get C 0 (ci := 10) (k := 32) rfl rfl in_X10 (by decide) qw_958 rfl rfl dX10_lack_57 ?_
      refine zz_aload_n C 1 dX10_lack_60 rfl rfl ?_
      refine zz_get C 0 (ci := 10) (k := 33) rfl rfl in_X10 (by decide) qw_959 rfl rfl dX10_lack_61 ?_
      refine zz_iload_n C 3 dX10_lack_64 rfl rfl ?_
      refine zz_callS (wr := wMod z mh xT xD xP xR xC xW xA xH xU xB xI xN xM xY xK xL xE xS 0 m_ca m_tp m_fa m_at m_wr m_va m_pl m_st m_lo m_bl m_bc m_fo m_yl m_yw qn_53 qd_53 m_lu m_ll m_ln kT kD kP kR kC kW kA kH kU kB kI kN kM kY kK kL kE gS_16) (st := []) C (cc_X10_tells l z qn_53 qd_53 un (by omega) (by omega) (by omega)) yk_X10_tells qw_1233 ⟨by decide, by decide⟩ [] [0, 1, 2, 3, 4, 5, 6, 7, 8, 9, 10, 11, 12, 13, 14, 15, 16, 17, 18] rfl rfl rfl rfl (by decide) rfl rfl (Nat.le_of_ble_eq_true rfl) dX10_lack_65 ⟨by decide, by decide⟩ ?_
      rintro _ _ ⟨rfl, rfl⟩
      refine zz_st (st' := [.long (iL (ltm qn_53 qd_53 un))]) rfl (zz_ws (ws' := wMod z mh xT xD xP xR xC xW xA xH xU xB xI xN xM xY xK xL xE xS 0 m_ca m_tp m_fa m_at m_wr m_va m_pl m_st m_lo m_bl m_bc m_fo m_yl m_yw qn_53 qd_53 m_lu m_ll m_ln kT kD kP kR kC kW kA kH kU kB kI kN kM kY kK kL kE gS_16) rfl ?_)
      exact zz_lret C hr dX10_lack_68 ⟨_, gS_16, qn_53, qd_53, ⟨q_20, hq_20, Or.inl ⟨by omega, by omega, ⟨qn_53, qd_53, hlk_53, rfl⟩⟩⟩, rfl, rfl⟩
    · skip
      refine zz_iload_n C 0 dX10_lack_42 rfl rfl ?_
      refine zz_iload_n C 2 dX10_lack_43 rfl rfl ?_
      refine zz_icmp_ge (tgt := 51) C dX10_lack_44 (by decide) (by unfold rI; omega) (by unfold rI; omega) (fun c44 => ?_) (fun c44 => ?_)
      · skip
        refine zz_aload_n C 1 dX10_lack_51 rfl rfl ?_
        refine zz_iload_n C 2 dX10_lack_52 rfl rfl ?_
        refine zz_callV (wr := ([] : va_W)) (st := []) C (cc_X10_needs l z mh xT xD xP xR xC xW xA xH xU xB xI xN xM xY xK xL xE xS 0 m_ca m_tp m_fa m_at m_wr m_va m_pl m_st m_lo m_bl m_bc m_fo m_yl m_yw m_nu m_nl m_lu m_ll m_ln kT kD kP kR kC kW kA kH kU kB kI kN kM kY kK kL kE gS_16 (mBal kT (mHeld kT) m_ca) d9 (by omega) (by omega) (by omega) hgS_16 (fun j h1 h2 => mBal_rng hkT hk2 (mHeld_rng hkT) hca h1 h2)) yk_X10_needs qw_1299 ⟨by decide, by decide⟩ [0, 1, 2, 3, 4, 5, 6, 7, 8, 9, 10, 11, 12, 13, 14, 15, 16, 17, 18] [] rfl rfl rfl rfl (by decide) 0 10 rfl rfl rfl rfl (Nat.le_of_ble_eq_true rfl) dX10_lack_53 ⟨by decide, by decide⟩ ?_
        rintro _ _ ⟨qn_53, qd_53, hlk_53, hqd_53, hqn_53, rfl, rfl⟩
        refine zz_st (st' := []) rfl (zz_ws (ws' := wMod z mh xT xD xP xR xC xW xA xH xU xB xI xN xM xY xK xL xE xS 0 m_ca m_tp m_fa m_at m_wr m_va m_pl m_st m_lo m_bl m_bc m_fo m_yl m_yw qn_53 qd_53 m_lu m_ll m_ln kT kD kP kR kC kW kA kH kU kB kI kN kM kY kK kL kE gS_16) rfl ?_)
        refine zz_aload_n C 1 dX10_lack_56 rfl rfl ?_
        refine zz_get C 0 (ci := 10) (k := 32) rfl rfl in_X10 (by decide) qw_958 rfl rfl dX10_lack_57 ?_
        refine zz_aload_n C 1 dX10_lack_60 rfl rfl ?_
        refine zz_get C 0 (ci := 10) (k := 33) rfl rfl in_X10 (by decide) qw_959 rfl rfl dX10_lack_61 ?_
        refine zz_iload_n C 3 dX10_lack_64 rfl rfl ?_
        refine zz_callS (wr := wMod z mh xT xD xP xR xC xW xA xH xU xB xI xN xM xY xK xL xE xS 0 m_ca m_tp m_fa m_at m_wr m_va m_pl m_st m_lo m_bl m_bc m_fo m_yl m_yw qn_53 qd_53 m_lu m_ll m_ln kT kD kP kR kC kW kA kH kU kB kI kN kM kY kK kL kE gS_16) (st := []) C (cc_X10_tells l z qn_53 qd_53 un (by omega) (by omega) (by omega)) yk_X10_tells qw_1233 ⟨by decide, by decide⟩ [] [0, 1, 2, 3, 4, 5, 6, 7, 8, 9, 10, 11, 12, 13, 14, 15, 16, 17, 18] rfl rfl rfl rfl (by decide) rfl rfl (Nat.le_of_ble_eq_true rfl) dX10_lack_65 ⟨by decide, by decide⟩ ?_
        rintro _ _ ⟨rfl, rfl⟩
        refine zz_st (st' := [.long (iL (ltm qn_53 qd_53 un))]) rfl (zz_ws (ws' := wMod z mh xT xD xP xR xC xW xA xH xU xB xI xN xM xY xK xL xE xS 0 m_ca m_tp m_fa m_at m_wr m_va m_pl m_st m_lo m_bl m_bc m_fo m_yl m_yw qn_53 qd_53 m_lu m_ll m_ln kT kD kP kR kC kW kA kH kU kB kI kN kM kY kK kL kE gS_16) rfl ?_)
        exact zz_lret C hr dX10_lack_68 ⟨_, gS_16, qn_53, qd_53, ⟨q_20, hq_20, Or.inl ⟨by omega, by omega, ⟨qn_53, qd_53, hlk_53, rfl⟩⟩⟩, rfl, rfl⟩
      · skip
        refine zz_ldc2 (a := (-1)) C qw_1150 (by decide +kernel) dX10_lack_47 ?_
        exact zz_lret C hr dX10_lack_50 ⟨_, gS_16, m_nu, m_nl, ⟨q_20, hq_20, Or.inr ⟨by omega, rfl⟩⟩, rfl, rfl⟩
