theorem vv_step {T d v i : Int} {M : Int → Int → Int} {O : Int → Int} (hv : v = zsum (fun j => M i (T + j) * O (j + 1)) (d - 1)) (hd : 1 ≤ d) : v + M i (T + d - 1) * O d = zsum (fun j => M i (T + j) * O (j + 1)) (d + 1 - 1) := by
  rw [show d + 1 - 1 = d - 1 + 1 by omega, zsum_succ _ (by omega), ← hv]
  show _ = v + M i (T + (d - 1)) * O (d - 1 + 1)
  rw [show T + (d - 1) = T + d - 1 by omega, show d - 1 + 1 = d by omega]
def roI (T n : Int) (M : Int → Int → Int) (O g : Int → Int) (i : Int) (V : Int → Int) : Prop := (∀ k : Int, 0 ≤ k → k < i → 0 ≤ vvI T M O k ∧ V (g k) = vvI T M O k) ∧ ∀ c : Int, 0 ≤ c → c < n → (∀ k : Int, 0 ≤ k → k < i → ¬ g k = c) → V c = 0
theorem roI_step {T n i v : Int} {M : Int → Int → Int} {O g V : Int → Int} (h : roI T n M O g i V) (hj : injB T g) (i0 : 0 ≤ i) (i1 : i < T) (hv : v = vvI T M O i) (h0 : 0 ≤ v) : roI T n M O g (i + 1) (zup V (g i) v) := by
  refine ⟨fun k k0 k1 => ?_, fun c c0 c1 q => ?_⟩
  · by_cases e : k = i
    · rw [e, zup_eq, ← hv]; exact ⟨h0, rfl⟩
    · rw [zup_ne (fun w => e (hj k i k0 (by omega) i0 i1 w))]
      exact h.1 k k0 (by omega)
  · rw [zup_ne (fun w => q i i0 (by omega) w.symm)]
    exact h.2 c c0 c1 (fun k k0 k1 => q k k0 (by omega))
def cBd (n : Int) (P : Int → Int) (p : Int) (V : Int → Int) : Prop := p = zsum (fun c => P c * V c) n ∧ (0 ≤ p ∧ p ≤ 212834560000) ∧ ∀ c : Int, 0 ≤ c → c < n → 0 ≤ V c ∧ V c ≤ 266043200
theorem roI_end {T n D p : Int} {E M : Int → Int → Int} {O P g V : Int → Int} (h1 : 1 ≤ T) (h4 : T ≤ 4) (hi : isInv T E g D M) (hg : inB T n g) (hO : ∀ r : Int, 1 ≤ r → r ≤ T → 0 ≤ O r ∧ O r ≤ 200) (hP : ∀ c : Int, 0 ≤ c → c < n → 0 ≤ P c ∧ P c ≤ 200) (h : roI T n M O g T V) (hp : p = zsum (fun i => vvI T M O i * P (g i)) T) : cand T n E O g D V ∧ cBd n P p V := by
  have hc := cand_of h1 h4 hi hg h.1 h.2
  have hb : ∀ c : Int, 0 ≤ c → c < n → 0 ≤ V c ∧ V c ≤ 266043200 := fun c c0 c1 => by
    by_cases z : V c = 0
    · omega
    · obtain ⟨i, i0, i1, e⟩ := hc.2.2.2 c c0 c1 z
      have a := h.1 i i0 i1
      have b := vv_rng h1 h4 hi hO i0 i1 (k := T) (by omega) (by omega)
      rw [← e, a.2]
      exact ⟨a.1, b.2⟩
  have e : p = zsum (fun c => P c * V c) n := by
    rw [hp, zsum_on (f := fun c => P c * V c) hg (dB_inj h4 hc.2.1) (fun c c0 c1 q => hc.2.2.2 c c0 c1 (fun w => q (by show P c * V c = 0; rw [w, Int.mul_zero])))]
    refine zsum_congr (fun i i0 i1 => ?_)
    show vvI T M O i * P (g i) = P (g i) * V (g i)
    rw [(h.1 i i0 i1).2, Int.mul_comm]
  refine ⟨hc, e, ?_, hb⟩
  rw [hp]
  have := zsum_rng2 (f := fun i => vvI T M O i * P (g i)) (lo := 0) (hi := 53208640000) (n := T) (by omega) (fun i i0 i1 => mul_pos_rng (A := 266043200) (B := 200) ⟨(h.1 i i0 i1).1, (vv_rng h1 h4 hi hO i0 i1 (k := T) (by omega) (by omega)).2⟩ (hP (g i) (hg i i0 i1).1 (hg i i0 i1).2))
  omega
/-- comparing by keys -/
def kk (p : Int) (V : Int → Int) : Int → Int := fun i => if i = 0 then p else V (i - 1)
def kd (w : Int) (Y : Int → Int) : Int → Int := fun i => if i = 0 then -w else Y i
theorem cKey_kk {n p : Int} {P V : Int → Int} (h : p = zsum (fun c => P c * V c) n) : cKey n P V = kk p V := by rw [h]; rfl
theorem dKey_kd {T w : Int} {O Y : Int → Int} (h : w = zsum (fun j => Y (j + 1) * O (j + 1)) T) : dKey T O Y = kd w Y := by rw [h]; rfl
theorem kk_0 (p : Int) (V : Int → Int) : kk p V 0 = p := if_pos rfl
theorem kk_s (p : Int) (V : Int → Int) {b : Int} (h : 0 ≤ b) : kk p V (b + 1) = V b := by unfold kk; rw [if_neg (by omega), show b + 1 - 1 = b by omega]
theorem kd_0 (p : Int) (V : Int → Int) : kd p V 0 = -p := if_pos rfl
theorem kd_s (p : Int) (V : Int → Int) {b : Int} (h : 1 ≤ b) : kd p V b = V b := by unfold kd; rw [if_neg (by omega)]
def lexS (m D : Int) (K : Int → Int) (D' : Int) (K' : Int → Int) (o : Int) : Prop := (o = 0 ∧ ∀ i : Int, 0 ≤ i → i < m → K i * D' = K' i * D) ∨ (o = -1 ∧ lexLt m D K D' K') ∨ (o = 1 ∧ lexLt m D' K' D K)
theorem lexS_1 {D D' : Int} {K K' : Int → Int} {a b : Int} (ha : a = K 0 * D') (hb : b = K' 0 * D) : lexS 1 D K D' K' (cmpZ a b) := by
  subst ha; subst hb
  unfold cmpZ
  split
  · rename_i h
    exact Or.inr (Or.inl ⟨rfl, 0, by omega, by omega, fun i a b => by omega, h⟩)
  · split
    · rename_i h
      exact Or.inl ⟨rfl, fun i a b => by rw [show i = 0 by omega]; exact h⟩
    · exact Or.inr (Or.inr ⟨rfl, 0, by omega, by omega, fun i a b => by omega, by omega⟩)
theorem lexS_step {m D D' o : Int} {K K' : Int → Int} {a b : Int} (h : lexS m D K D' K' o) (ho : o = 0) (hm : 0 ≤ m) (ha : a = K m * D') (hb : b = K' m * D) : lexS (m + 1) D K D' K' (cmpZ a b) := by
  subst ha; subst hb
  rcases h with ⟨-, h⟩ | ⟨h, -⟩ | ⟨h, -⟩
  · unfold cmpZ
    split
    · rename_i q
      exact Or.inr (Or.inl ⟨rfl, m, hm, by omega, h, q⟩)
    · split
      · rename_i q
        refine Or.inl ⟨rfl, fun i a b => ?_⟩
        by_cases e : i = m
        · rw [e]; exact q
        · exact h i a (by omega)
      · exact Or.inr (Or.inr ⟨rfl, m, hm, by omega, fun i a b => (h i a b).symm, by omega⟩)
  · omega
  · omega
theorem lexLt_mono {m m' D D' : Int} {K K' : Int → Int} (h : lexLt m D K D' K') (hm : m ≤ m') : lexLt m' D K D' K' := by
  obtain ⟨j, a, b, c, d⟩ := h
  exact ⟨j, a, by omega, c, d⟩
theorem lexS_yes {m m' D D' o : Int} {K K' : Int → Int} (h : lexS m D K D' K' o) (hm : m ≤ m') (ho : o < 0) : lexLt m' D K D' K' := by
  rcases h with ⟨h, -⟩ | ⟨-, h⟩ | ⟨h, -⟩
  · omega
  · exact lexLt_mono h hm
  · omega
theorem lexS_no {m m' D D' o : Int} {K K' : Int → Int} (h : lexS m D K D' K' o) (hm : m ≤ m') (hD : 0 < D) (hD' : 0 < D') (ho : 0 ≤ o) (he : o = 0 → m = m') : ¬ lexLt m' D K D' K' := by
  rcases h with ⟨h, q⟩ | ⟨h, -⟩ | ⟨-, q⟩
  · have := he h
    subst this
    exact lex_irr q
  · omega
  · intro w
    have := lex_trans hD' hD hD' (lexLt_mono q hm) w
    exact lex_irr (fun i _ _ => rfl) this
theorem lexS_o {m D D' o : Int} {K K' : Int → Int} (h : lexS m D K D' K' o) : -1 ≤ o ∧ o ≤ 1 := by rcases h with ⟨h, -⟩ | ⟨h, -⟩ | ⟨h, -⟩ <;> omega
theorem pr_rL {a b : Int} (ha : 0 ≤ a ∧ a ≤ 212834560000) (hb : 0 ≤ b ∧ b ≤ 23040000) : rL (a * b) := by
  have := mul_pos_rng ha hb
  unfold rL
  omega
theorem pr_rL2 {a b : Int} (ha : -212834560000 ≤ a ∧ a ≤ 212834560000) (hb : 0 ≤ b ∧ b ≤ 23040000) : rL (a * b) := by
  have := mul_abs (b := b) (A := 212834560000) (B := 23040000) ha (by omega)
  unfold rL
  omega
/-- multipliers read off -/
theorem dsum_step {T d c r B : Int} {E : Int → Int → Int} {Y : Int → Int} (hr : r = B - zsum (fun j => Y (j + 1) * E c (j + 1)) (d - 1)) (hd : 1 ≤ d) (_ : d ≤ T) : r - Y d * E c d = B - zsum (fun j => Y (j + 1) * E c (j + 1)) (d + 1 - 1) := by
  rw [show d + 1 - 1 = d - 1 + 1 by omega, zsum_succ _ (by omega)]
  show _ = B - (zsum (fun j => Y (j + 1) * E c (j + 1)) (d - 1) + Y (d - 1 + 1) * E c (d - 1 + 1))
  rw [show d - 1 + 1 = d by omega]
  omega
theorem w_step {d w : Int} {f O : Int → Int} (hw : w = zsum (fun j => f (j + 1) * O (j + 1)) (d - 1)) (hd : 1 ≤ d) : w + f d * O d = zsum (fun j => f (j + 1) * O (j + 1)) (d + 1 - 1) := by
  rw [show d + 1 - 1 = d - 1 + 1 by omega, zsum_succ _ (by omega), ← hw]
  show _ = w + f (d - 1 + 1) * O (d - 1 + 1)
  rw [show d - 1 + 1 = d by omega]
theorem yy_in {T d i : Int} {M : Int → Int → Int} {P g Y f : Int → Int} (h : ∀ e : Int, 1 ≤ e → e < d → Y e = f e) (hy : Y d = zsum (fun i => P (g i) * M i (T + d - 1)) i) (i0 : 0 ≤ i) : (∀ e : Int, 1 ≤ e → e < d → zup Y d (Y d + P (g i) * M i (T + d - 1)) e = f e) ∧ zup Y d (Y d + P (g i) * M i (T + d - 1)) d = zsum (fun i => P (g i) * M i (T + d - 1)) (i + 1) := by
  refine ⟨fun e a b => by rw [zup_ne (by omega)]; exact h e a b, ?_⟩
  rw [zup_eq, zsum_succ _ i0, hy]
theorem yy_rng {T D : Int} {E M : Int → Int → Int} {P g : Int → Int} {n : Int} (h1 : 1 ≤ T) (h4 : T ≤ 4) (h : isInv T E g D M) (hg : inB T n g) (hP : ∀ c : Int, 0 ≤ c → c < n → 0 ≤ P c ∧ P c ≤ 200) {d : Int} (d0 : 1 ≤ d) (d1 : d ≤ T) : -266043200 ≤ yyI T M P g d ∧ yyI T M P g d ≤ 266043200 := by
  have := zsum_rng2 (f := fun i => P (g i) * M i (T + d - 1)) (lo := -66510800) (hi := 66510800) (n := T) (by omega) (fun i i0 i1 => by
    have a := hP (g i) (hg i i0 i1).1 (hg i i0 i1).2
    exact mul_abs (A := 200) (B := 332554) (by omega) (h.2.1 i (T + d - 1) i0 i1 (by omega) (by omega)))
  unfold yyI
  omega
def dBd (T : Int) (O : Int → Int) (w : Int) (Y : Int → Int) : Prop := w = zsum (fun j => Y (j + 1) * O (j + 1)) T ∧ (-212834560000 ≤ w ∧ w ≤ 212834560000) ∧ ∀ d : Int, 1 ≤ d → d ≤ T → -266043200 ≤ Y d ∧ Y d ≤ 266043200
theorem dsum_rng {T n c : Int} {E : Int → Int → Int} {Y : Int → Int} (h1 : 1 ≤ T) (h4 : T ≤ 4) (hE : ∀ c d : Int, 0 ≤ c → c < n → 1 ≤ d → d ≤ T → -60 ≤ E c d ∧ E c d ≤ 60) (hY : ∀ d : Int, 1 ≤ d → d ≤ T → -266043200 ≤ Y d ∧ Y d ≤ 266043200) (c0 : 0 ≤ c) (c1 : c < n) : -63850368000 ≤ dsum T E Y c ∧ dsum T E Y c ≤ 63850368000 := by
  have := zsum_rng2 (f := fun j => Y (j + 1) * E c (j + 1)) (lo := -15962592000) (hi := 15962592000) (n := T) (by omega) (fun j j0 j1 => mul_abs (A := 266043200) (B := 60) (hY (j + 1) (by omega) (by omega)) (hE c (j + 1) c0 c1 (by omega) (by omega)))
  unfold dsum
  omega
theorem exc_rng {p D x : Int} (hp : 0 ≤ p ∧ p ≤ 200) (hD : 0 ≤ D ∧ D ≤ 23040000) (hx : -63850368000 ≤ x ∧ x ≤ 63850368000) : -63850368000 ≤ p * D - x ∧ p * D - x ≤ 68458368000 := by
  have := mul_pos_rng hp hD
  omega
theorem w_rng {T : Int} {Y O : Int → Int} (h1 : 1 ≤ T) (h4 : T ≤ 4) (hO : ∀ r : Int, 1 ≤ r → r ≤ T → 0 ≤ O r ∧ O r ≤ 200) (hY : ∀ d : Int, 1 ≤ d → d ≤ T → -266043200 ≤ Y d ∧ Y d ≤ 266043200) : -212834560000 ≤ zsum (fun j => Y (j + 1) * O (j + 1)) T ∧ zsum (fun j => Y (j + 1) * O (j + 1)) T ≤ 212834560000 := by
  have := zsum_rng2 (f := fun j => Y (j + 1) * O (j + 1)) (lo := -53208640000) (hi := 53208640000) (n := T) (by omega) (fun j j0 j1 => mul_abs (A := 266043200) (B := 200) (hY (j + 1) (by omega) (by omega)) (by have := hO (j + 1) (by omega) (by omega); omega))
  omega
theorem lexS_neg {D D' : Int} {K K' : Int → Int} {a b : Int} (ha : K' 0 * D = -a) (hb : K 0 * D' = -b) : lexS 1 D K D' K' (cmpZ a b) := by
  have : cmpZ a b = cmpZ (-b) (-a) := by unfold cmpZ; (repeat' split) <;> first | rfl | (exfalso; omega)
  rw [this]
  exact lexS_1 hb.symm ha.symm

abbrev po_X2_readOff (z : zC) (ch : Nat) (ca : Nat) (cb : Int) (cp : Int) (fV : Int → Int) (eh : Nat) (eo : Nat) (ep : Nat) (ew : Nat) (eR : Int → Nat) (ed : Int) (eb : Int) (ec : Int) (fE : Int → Int → Int) (fQ : Int → Int) (fO : Int → Int) (bh : Nat) (bc : Nat) (bo : Nat) (bR : Int → Nat) (bd : Int) (fC : Int → Int) (fM : Int → Int → Int) : Option Value → va_W → Prop := fun v w => ∃ (q : Int), ∃ (gp : Int), ∃ (gV : Int → Int), ((q = 1 ∧ cand ed ec fE fO fC bd gV ∧ cBd ec fQ gp gV) ∨ (q = 0 ∧ ∀ D8 V8, ¬ cand ed ec fE fO fC D8 V8)) ∧ v = some (Value.int (iI q)) ∧ w = (wCov z ch ca bd gp gV) ++ (wEq z eh eo ep ew eR ed eb ec fE fQ fO) ++ (wBas z bh bc bo bR ed bd fC fM)
abbrev rm_X2_readOff : Room := { frames := 2, cells := 0, slots := 0, locals := 62 }
set_option maxHeartbeats 4000000 in
set_option maxRecDepth 100000 in
theorem cc_X2_readOff (l : Launch) (z : zC) (ch : Nat) (ca : Nat) (cb : Int) (cp : Int) (fV : Int → Int) (eh : Nat) (eo : Nat) (ep : Nat) (ew : Nat) (eR : Int → Nat) (ed : Int) (eb : Int) (ec : Int) (fE : Int → Int → Int) (fQ : Int → Int) (fO : Int → Int) (bh : Nat) (bc : Nat) (bo : Nat) (bR : Int → Nat) (bd : Int) (fC : Int → Int) (fM : Int → Int → Int) (hed : 1 ≤ ed ∧ ed ≤ 4) (hec : 0 ≤ ec ∧ ec ≤ 10) (hinv : isInv ed fE fC bd fM) (hin : inB ed ec fC) (hO : ∀ r : Int, 1 ≤ r → r ≤ ed → 0 ≤ fO r ∧ fO r ≤ 200) (hQ : ∀ c : Int, 0 ≤ c → c < ec → 0 ≤ fQ c ∧ fQ c ≤ 200) : zzMet l yX2_readOff cX2_readOff 7 (Option.some .boolean) rm_X2_readOff z [.ref ch, .ref eh, .ref bh] ((wCov z ch ca cb cp fV) ++ (wEq z eh eo ep ew eR ed eb ec fE fQ fO) ++ (wBas z bh bc bo bR ed bd fC fM)) (po_X2_readOff z ch ca cb cp fV eh eo ep ew eR ed eb ec fE fQ fO bh bc bo bR bd fC fM) := by
  refine zzMet.of (own := RX2) (ls0 := [(0, .ref ch), (1, .ref eh), (2, .ref bh)]) (by decide) rfl (Nat.le_of_ble_eq_true rfl) rfl ?_
  intro p e s m below meth c A C hr hnm
  have hj9 := dB_inj hed.2 (inv_dB hed.1 hed.2 hinv)
  refine zz_aload_n C 0 dX2_readOff_0 rfl rfl ?_
  refine zz_aload_n C 2 dX2_readOff_1 rfl rfl ?_
  refine zz_get C 16 (ci := 0) (k := 1) rfl rfl in_X0 (by decide) qw_164 rfl rfl dX2_readOff_2 ?_
  refine zz_put (ty := .long) (ws' := (wCov z ch ca bd cp fV) ++ (wEq z eh eo ep ew eR ed eb ec fE fQ fO) ++ (wBas z bh bc bo bR ed bd fC fM)) C 0 (ci := 2) (k := 0) rfl rfl in_X2 tyX2 tyX2_ok nmX2 (by decide) qw_76 rfl rfl (by decide +kernel) rfl rfl (Nat.le_of_ble_eq_true rfl) rfl dX2_readOff_5 ?_
  refine zz_aload_n C 0 dX2_readOff_8 rfl rfl ?_
  refine zz_lconst (a := 0) C dX2_readOff_9 (by decide +kernel) ?_
  refine zz_put (ty := .long) (ws' := (wCov z ch ca bd 0 fV) ++ (wEq z eh eo ep ew eR ed eb ec fE fQ fO) ++ (wBas z bh bc bo bR ed bd fC fM)) C 0 (ci := 2) (k := 1) rfl rfl in_X2 tyX2 tyX2_ok nmX2 (by decide) qw_79 rfl rfl (by decide +kernel) rfl rfl (Nat.le_of_ble_eq_true rfl) rfl dX2_readOff_10 ?_
  refine zz_iconst C dX2_readOff_13 ?_
  refine zz_istore_n (ls' := [(3, .int (iI 0)), (0, .ref ch), (1, .ref eh), (2, .ref bh)]) C dX2_readOff_14 rfl (by decide) rfl ?_
  have Lp15 : ∀ (fu9 : Nat) (k : Int) (gV : Int → Int), (0 ≤ k ∧ k ≤ ec) → (∀ c : Int, 0 ≤ c → c < k → gV c = 0) → (ec - k).toNat < fu9 → zzW p l e rm_X2_readOff s m ([.ref ch, .ref eh, .ref bh] : List Value).toArray below meth c z A 7 (MQ below (zQ z A (po_X2_readOff z ch ca cb cp fV eh eo ep ew eR ed eb ec fE fQ fO bh bc bo bR bd fC fM)) ([.ref ch, .ref eh, .ref bh] : List Value).toArray s 0 0 A) 0 0 ((wCov z ch ca bd 0 gV) ++ (wEq z eh eo ep ew eR ed eb ec fE fQ fO) ++ (wBas z bh bc bo bR ed bd fC fM)) [(0, .ref ch), (1, .ref eh), (2, .ref bh), (3, .int (iI k))] [] 15 := by
    intro fu9
    induction fu9 with
    | zero => intro k gV hk hz h9; exact absurd h9 (Nat.not_lt_zero _)
    | succ fu9 ih15 =>
      intro k gV hk hz hm15
      refine zz_iload_n C 3 dX2_readOff_15 rfl rfl ?_
      refine zz_aload_n C 1 dX2_readOff_16 rfl rfl ?_
      refine zz_get C 2 (ci := 3) (k := 2) rfl rfl in_X3 (by decide) qw_127 rfl rfl dX2_readOff_17 ?_
      refine zz_icmp_ge (tgt := 36) C dX2_readOff_20 (by decide) (by unfold rI; omega) (by unfold rI; omega) (fun c20 => ?_) (fun c20 => ?_)
      · skip
        refine zz_iconst C dX2_readOff_36 ?_
        refine zz_istore_n (ls' := [(3, .int (iI 0)), (0, .ref ch), (1, .ref eh), (2, .ref bh)]) C dX2_readOff_37 rfl (by decide) rfl ?_
        have Lp38 : ∀ (fu9 : Nat) (i : Int) (gp : Int) (gW : Int → Int), (0 ≤ i ∧ i ≤ ed) → (roI ed ec fM fO fC i gW) → (gp = zsum (fun i => vvI ed fM fO i * fQ (fC i)) i) → (ed - i).toNat < fu9 → zzW p l e rm_X2_readOff s m ([.ref ch, .ref eh, .ref bh] : List Value).toArray below meth c z A 7 (MQ below (zQ z A (po_X2_readOff z ch ca cb cp fV eh eo ep ew eR ed eb ec fE fQ fO bh bc bo bR bd fC fM)) ([.ref ch, .ref eh, .ref bh] : List Value).toArray s 0 0 A) 0 0 ((wCov z ch ca bd gp gW) ++ (wEq z eh eo ep ew eR ed eb ec fE fQ fO) ++ (wBas z bh bc bo bR ed bd fC fM)) [(0, .ref ch), (1, .ref eh), (2, .ref bh), (3, .int (iI i))] [] 38 := by
          intro fu9
          induction fu9 with
          | zero => intro i gp gW hi hro hgp h9; exact absurd h9 (Nat.not_lt_zero _)
          | succ fu9 ih38 =>
            intro i gp gW hi hro hgp hm38
            refine zz_iload_n C 3 dX2_readOff_38 rfl rfl ?_
            refine zz_aload_n C 2 dX2_readOff_39 rfl rfl ?_
            refine zz_get C 16 (ci := 0) (k := 0) rfl rfl in_X0 (by decide) qw_162 rfl rfl dX2_readOff_40 ?_
            refine zz_icmp_ge (tgt := 138) C dX2_readOff_43 (by decide) (by unfold rI; omega) (by unfold rI; omega) (fun c43 => ?_) (fun c43 => ?_)
            · skip
              refine zz_iconst C dX2_readOff_138 ?_
              exact zz_zret C hr (by decide +kernel) dX2_readOff_139 ⟨1, _, _, Or.inl ⟨rfl, roI_end hed.1 hed.2 hinv hin hO hQ (by rw [show i = ed by omega] at hro; exact hro) (by rw [hgp, show i = ed by omega])⟩, rfl, rfl⟩
            · skip
              refine zz_lconst (a := 0) C dX2_readOff_46 (by decide +kernel) ?_
              refine zz_lstore (ls' := [(4, .long (iL 0)), (0, .ref ch), (1, .ref eh), (2, .ref bh), (3, .int (iI i))]) C dX2_readOff_47 (by decide) rfl ?_
              refine zz_iconst C dX2_readOff_49 ?_
              refine zz_istore (ls' := [(6, .int (iI 1)), (4, .long (iL 0)), (0, .ref ch), (1, .ref eh), (2, .ref bh), (3, .int (iI i))]) C dX2_readOff_50 (by decide) rfl ?_
              have Lp52 : ∀ (fu9 : Nat) (d : Int) (v : Int), (1 ≤ d ∧ d ≤ ed + 1) → (v = zsum (fun j => fM i (ed + j) * fO (j + 1)) (d - 1)) → (ed + 1 - d).toNat < fu9 → zzW p l e rm_X2_readOff s m ([.ref ch, .ref eh, .ref bh] : List Value).toArray below meth c z A 7 (MQ below (zQ z A (po_X2_readOff z ch ca cb cp fV eh eo ep ew eR ed eb ec fE fQ fO bh bc bo bR bd fC fM)) ([.ref ch, .ref eh, .ref bh] : List Value).toArray s 0 0 A) 0 0 ((wCov z ch ca bd gp gW) ++ (wEq z eh eo ep ew eR ed eb ec fE fQ fO) ++ (wBas z bh bc bo bR ed bd fC fM)) [(0, .ref ch), (1, .ref eh), (2, .ref bh), (3, .int (iI i)), (4, .long (iL v)), (6, .int (iI d))] [] 52 := by
                intro fu9
                induction fu9 with
                | zero => intro d v hd hv h9; exact absurd h9 (Nat.not_lt_zero _)
                | succ fu9 ih52 =>
                  intro d v hd hv hm52
                  refine zz_iload C 5 dX2_readOff_52 rfl ?_
                  refine zz_aload_n C 1 dX2_readOff_54 rfl rfl ?_
                  refine zz_get C 2 (ci := 3) (k := 0) rfl rfl in_X3 (by decide) qw_122 rfl rfl dX2_readOff_55 ?_
                  refine zz_icmp_gt (tgt := 87) C dX2_readOff_58 (by decide) (by unfold rI; omega) (by unfold rI; omega) (fun c58 => ?_) (fun c58 => ?_)
                  · skip
                    have hv9 : v = vvI ed fM fO i := by rw [hv, show d - 1 = ed by omega]; rfl
                    have hr9 := vv_rng hed.1 hed.2 hinv hO hi.1 (show i < ed by omega) (k := ed) (by omega) (by omega)
                    have hr8 : zsum (fun j => fM i (ed + j) * fO (j + 1)) ed = vvI ed fM fO i := rfl
                    have hf9 := hin i hi.1 (by omega)
                    refine zz_lload C 4 dX2_readOff_87 rfl ?_
                    refine zz_lconst (a := 0) C dX2_readOff_89 (by decide +kernel) ?_
                    refine zz_lcmp_ge (tgt := 96) C dX2_readOff_90 dX2_readOff_91 (by decide) (by unfold rL; omega) (by unfold rL; omega) (fun c90 => ?_) (fun c90 => ?_)
                    · skip
                      refine zz_aload_n C 0 dX2_readOff_96 rfl rfl ?_
                      refine zz_get C 0 (ci := 2) (k := 2) rfl rfl in_X2 (by decide) qw_82 rfl rfl dX2_readOff_97 ?_
                      refine zz_aload_n C 2 dX2_readOff_100 rfl rfl ?_
                      refine zz_get C 16 (ci := 0) (k := 2) rfl rfl in_X0 (by decide) qw_168 rfl rfl dX2_readOff_101 ?_
                      refine zz_iload_n C 3 dX2_readOff_104 rfl rfl ?_
                      refine zz_iald C 17 rfl (by omega) (by omega) (by decide) dX2_readOff_105 ?_
                      refine zz_lload C 4 dX2_readOff_106 rfl ?_
                      refine zz_last (ws' := (wCov z ch ca bd gp (zup gW (fC i) v)) ++ (wEq z eh eo ep ew eR ed eb ec fE fQ fO) ++ (wBas z bh bc bo bR ed bd fC fM)) C 1 rfl (by omega) (by omega) (by decide) rfl dX2_readOff_108 ?_
                      refine zz_aload_n C 0 dX2_readOff_109 rfl rfl ?_
                      refine zz_dup C dX2_readOff_110 rfl ?_
                      refine zz_get C 0 (ci := 2) (k := 1) rfl rfl in_X2 (by decide) qw_79 rfl rfl dX2_readOff_111 ?_
                      refine zz_lload C 4 dX2_readOff_114 rfl ?_
                      refine zz_aload_n C 1 dX2_readOff_116 rfl rfl ?_
                      refine zz_get C 2 (ci := 3) (k := 4) rfl rfl in_X3 (by decide) qw_136 rfl rfl dX2_readOff_117 ?_
                      refine zz_aload_n C 2 dX2_readOff_120 rfl rfl ?_
                      refine zz_get C 16 (ci := 0) (k := 2) rfl rfl in_X0 (by decide) qw_168 rfl rfl dX2_readOff_121 ?_
                      refine zz_iload_n C 3 dX2_readOff_124 rfl rfl ?_
                      refine zz_iald C 17 rfl (by omega) (by omega) (by decide) dX2_readOff_125 ?_
                      refine zz_lald C 4 rfl (by omega) (by omega) (by decide) dX2_readOff_126 ?_
                      refine zz_lmul C dX2_readOff_127 ?_
                      refine zz_ladd C dX2_readOff_128 ?_
                      refine zz_put (ty := .long) (ws' := (wCov z ch ca bd (gp + (v * (fQ (fC i)))) (zup gW (fC i) v)) ++ (wEq z eh eo ep ew eR ed eb ec fE fQ fO) ++ (wBas z bh bc bo bR ed bd fC fM)) C 0 (ci := 2) (k := 1) rfl rfl in_X2 tyX2 tyX2_ok nmX2 (by decide) qw_79 rfl rfl (by decide +kernel) rfl rfl (Nat.le_of_ble_eq_true rfl) rfl dX2_readOff_129 ?_
                      refine zz_iinc (ls' := [(3, .int (iI (i + 1))), (0, .ref ch), (1, .ref eh), (2, .ref bh), (4, .long (iL v)), (6, .int (iI d))]) C 3 dX2_readOff_132 rfl (by decide) rfl ?_
                      refine zz_goto (tgt := 38) C dX2_readOff_135 (by decide) ?_
                      refine zz_loc (ls' := [(0, .ref ch), (1, .ref eh), (2, .ref bh), (3, .int (iI (i + 1)))]) [1, 2, 3, 0] rfl ?_
                      exact ih38 (i + 1) (gp + (v * (fQ (fC i)))) (zup gW (fC i) v) (by omega) (roI_step hro hj9 hi.1 (by omega) hv9 (by omega)) (by rw [zsum_succ _ hi.1, ← hgp, ← hv9]) (by omega)
                    · skip
                      refine zz_iconst C dX2_readOff_94 ?_
                      exact zz_zret C hr (by decide +kernel) dX2_readOff_95 ⟨0, _, _, Or.inr ⟨rfl, cand_no hed.1 hed.2 hinv hi.1 (by omega) (by omega)⟩, rfl, rfl⟩
                  · skip
                    refine zz_lload C 4 dX2_readOff_61 rfl ?_
                    refine zz_aload_n C 2 dX2_readOff_63 rfl rfl ?_
                    refine zz_iload_n C 3 dX2_readOff_64 rfl rfl ?_
                    refine zz_iload C 5 dX2_readOff_65 rfl ?_
                    refine zz_callV (wr := (wCov z ch ca bd gp gW) ++ (wEq z eh eo ep ew eR ed eb ec fE fQ fO)) (st := [.long (iL v)]) C (cc_X0_inverse l z bh bc bo bR ed bd fC fM i d (by omega) (by omega) (by omega)) yk_X0_inverse qw_682 ⟨by decide, by decide⟩ [16, 17, 18, 19, 20, 21, 22] [0, 1, 2, 3, 4, 5, 6, 7, 8, 9, 10, 11, 12, 13, 14, 15] rfl rfl rfl rfl (by decide) 0 0 rfl rfl rfl rfl (Nat.le_of_ble_eq_true rfl) dX2_readOff_67 ⟨by decide, by decide⟩ ?_
                    rintro _ _ ⟨rfl, rfl⟩
                    refine zz_st (st' := [.long (iL (fM i (ed + d - 1))), .long (iL v)]) rfl (zz_ws (ws' := (wCov z ch ca bd gp gW) ++ (wEq z eh eo ep ew eR ed eb ec fE fQ fO) ++ (wBas z bh bc bo bR ed bd fC fM)) rfl ?_)
                    refine zz_aload_n C 1 dX2_readOff_70 rfl rfl ?_
                    refine zz_get C 2 (ci := 3) (k := 5) rfl rfl in_X3 (by decide) qw_138 rfl rfl dX2_readOff_71 ?_
                    refine zz_iload C 5 dX2_readOff_74 rfl ?_
                    refine zz_lald C 5 rfl (by omega) (by omega) (by decide) dX2_readOff_76 ?_
                    refine zz_lmul C dX2_readOff_77 ?_
                    refine zz_ladd C dX2_readOff_78 ?_
                    refine zz_lstore (ls' := [(4, .long (iL (v + ((fM i (ed + d - 1)) * (fO d))))), (0, .ref ch), (1, .ref eh), (2, .ref bh), (3, .int (iI i)), (6, .int (iI d))]) C dX2_readOff_79 (by decide) rfl ?_
                    refine zz_iinc (ls' := [(6, .int (iI (d + 1))), (4, .long (iL (v + ((fM i (ed + d - 1)) * (fO d))))), (0, .ref ch), (1, .ref eh), (2, .ref bh), (3, .int (iI i))]) C 5 dX2_readOff_81 rfl (by decide) rfl ?_
                    refine zz_goto (tgt := 52) C dX2_readOff_84 (by decide) ?_
                    refine zz_loc (ls' := [(0, .ref ch), (1, .ref eh), (2, .ref bh), (3, .int (iI i)), (4, .long (iL (v + ((fM i (ed + d - 1)) * (fO d))))), (6, .int (iI (d + 1)))]) [2, 3, 4, 5, 1, 0] rfl ?_
                    exact ih52 (d + 1) (v + ((fM i (ed + d - 1)) * (fO d))) (by omega) (vv_step hv hd.1) (by omega)
              refine zz_loc (ls' := [(0, .ref ch), (1, .ref eh), (2, .ref bh), (3, .int (iI i)), (4, .long (iL 0)), (6, .int (iI 1))]) [2, 3, 4, 5, 1, 0] rfl ?_
              exact Lp52 _ 1 0 (by omega) rfl (Nat.lt_succ_self _)
        refine zz_loc (ls' := [(0, .ref ch), (1, .ref eh), (2, .ref bh), (3, .int (iI 0))]) [1, 2, 3, 0] rfl ?_
        exact Lp38 _ 0 0 gV (by omega) ⟨fun k9 h0 h1 => by omega, fun c h0 h1 h2 => hz c h0 (by omega)⟩ rfl (Nat.lt_succ_self _)
      · skip
        refine zz_aload_n C 0 dX2_readOff_23 rfl rfl ?_
        refine zz_get C 0 (ci := 2) (k := 2) rfl rfl in_X2 (by decide) qw_82 rfl rfl dX2_readOff_24 ?_
        refine zz_iload_n C 3 dX2_readOff_27 rfl rfl ?_
        refine zz_lconst (a := 0) C dX2_readOff_28 (by decide +kernel) ?_
        refine zz_last (ws' := (wCov z ch ca bd 0 (zup gV k 0)) ++ (wEq z eh eo ep ew eR ed eb ec fE fQ fO) ++ (wBas z bh bc bo bR ed bd fC fM)) C 1 rfl (by omega) (by omega) (by decide) rfl dX2_readOff_29 ?_
        refine zz_iinc (ls' := [(3, .int (iI (k + 1))), (0, .ref ch), (1, .ref eh), (2, .ref bh)]) C 3 dX2_readOff_30 rfl (by decide) rfl ?_
        refine zz_goto (tgt := 15) C dX2_readOff_33 (by decide) ?_
        refine zz_loc (ls' := [(0, .ref ch), (1, .ref eh), (2, .ref bh), (3, .int (iI (k + 1)))]) [1, 2, 3, 0] rfl ?_
        exact ih15 (k + 1) (zup gV k 0) (by omega) (zup_all (f := fun _ => 0) hz rfl) (by omega)
  refine zz_loc (ls' := [(0, .ref ch), (1, .ref eh), (2, .ref bh), (3, .int (iI 0))]) [1, 2, 3, 0] rfl ?_
  exact Lp15 _ 0 fV (by omega) (fun c h0 h1 => by omega) (Nat.lt_succ_self _)
abbrev po_X2_isBetterThan (z : zC) (ch : Nat) (ca : Nat) (cb : Int) (cp : Int) (fV : Int → Int) (ch2 : Nat) (ca2 : Nat) (cb2 : Int) (cp2 : Int) (fV2 : Int → Int) (nb : Int) : Option Value → va_W → Prop := fun v w => ∃ (q : Int), ((q = 1 ∧ (cb2 = 0 ∨ lexLt (nb + 1) cb (kk cp fV) cb2 (kk cp2 fV2))) ∨ (q = 0 ∧ ¬ cb2 = 0 ∧ ¬ lexLt (nb + 1) cb (kk cp fV) cb2 (kk cp2 fV2))) ∧ v = some (Value.int (iI q)) ∧ w = (wCov z ch ca cb cp fV) ++ (wCov z ch2 ca2 cb2 cp2 fV2)
abbrev rm_X2_isBetterThan : Room := { frames := 2, cells := 0, slots := 0, locals := 63 }
set_option maxHeartbeats 4000000 in
set_option maxRecDepth 100000 in
theorem cc_X2_isBetterThan (l : Launch) (z : zC) (ch : Nat) (ca : Nat) (cb : Int) (cp : Int) (fV : Int → Int) (ch2 : Nat) (ca2 : Nat) (cb2 : Int) (cp2 : Int) (fV2 : Int → Int) (nb : Int) (hnb : 0 ≤ nb ∧ nb ≤ 5) (hcb : 1 ≤ cb ∧ cb ≤ 23040000) (hcb2 : 0 ≤ cb2 ∧ cb2 ≤ 23040000) (hcp : 0 ≤ cp ∧ cp ≤ 212834560000) (hcp2 : ¬ cb2 = 0 → 0 ≤ cp2 ∧ cp2 ≤ 212834560000) (hV : ∀ c : Int, 0 ≤ c → c < nb → 0 ≤ fV c ∧ fV c ≤ 266043200) (hV2 : ¬ cb2 = 0 → ∀ c : Int, 0 ≤ c → c < nb → 0 ≤ fV2 c ∧ fV2 c ≤ 266043200) : zzMet l yX2_isBetterThan cX2_isBetterThan 5 (Option.some .boolean) rm_X2_isBetterThan z [.ref ch, .ref ch2, .int (iI nb)] ((wCov z ch ca cb cp fV) ++ (wCov z ch2 ca2 cb2 cp2 fV2)) (po_X2_isBetterThan z ch ca cb cp fV ch2 ca2 cb2 cp2 fV2 nb) := by
  refine zzMet.of (own := RX2) (ls0 := [(0, .ref ch), (1, .ref ch2), (2, .int (iI nb))]) (by decide) rfl (Nat.le_of_ble_eq_true rfl) rfl ?_
  intro p e s m below meth c A C hr hnm
  refine zz_aload_n C 1 dX2_isBetterThan_0 rfl rfl ?_
  refine zz_get C 2 (ci := 2) (k := 0) rfl rfl in_X2 (by decide) qw_76 rfl rfl dX2_isBetterThan_1 ?_
  refine zz_lconst (a := 0) C dX2_isBetterThan_4 (by decide +kernel) ?_
  refine zz_lcmp_ne (tgt := 11) C dX2_isBetterThan_5 dX2_isBetterThan_6 (by decide) (by unfold rL; omega) (by unfold rL; omega) (fun c5 => ?_) (fun c5 => ?_)
  · skip
    refine zz_aload_n C 0 dX2_isBetterThan_11 rfl rfl ?_
    have hp2 := hcp2 (by omega)
    refine zz_get C 0 (ci := 2) (k := 1) rfl rfl in_X2 (by decide) qw_79 rfl rfl dX2_isBetterThan_12 ?_
    refine zz_aload_n C 1 dX2_isBetterThan_15 rfl rfl ?_
    refine zz_get C 2 (ci := 2) (k := 0) rfl rfl in_X2 (by decide) qw_76 rfl rfl dX2_isBetterThan_16 ?_
    refine zz_lmul C dX2_isBetterThan_19 ?_
    refine zz_aload_n C 1 dX2_isBetterThan_20 rfl rfl ?_
    refine zz_get C 2 (ci := 2) (k := 1) rfl rfl in_X2 (by decide) qw_79 rfl rfl dX2_isBetterThan_21 ?_
    refine zz_aload_n C 0 dX2_isBetterThan_24 rfl rfl ?_
    refine zz_get C 0 (ci := 2) (k := 0) rfl rfl in_X2 (by decide) qw_76 rfl rfl dX2_isBetterThan_25 ?_
    refine zz_lmul C dX2_isBetterThan_28 ?_
    refine zz_callS (wr := (wCov z ch ca cb cp fV) ++ (wCov z ch2 ca2 cb2 cp2 fV2)) (st := []) C (cc_J13_compare_74951 l z (cp * cb2) (cp2 * cb) (pr_rL hcp (by omega)) (pr_rL hp2 (by omega))) yk_J13_compare_74951 qw_694 ⟨by decide, by decide⟩ [] [0, 1, 2, 3] rfl rfl rfl rfl (by decide) rfl rfl (Nat.le_of_ble_eq_true rfl) dX2_isBetterThan_29 ⟨by decide, by decide⟩ ?_
    rintro _ _ ⟨rfl, rfl⟩
    refine zz_st (st' := [.int (iI (cmpZ (cp * cb2) (cp2 * cb)))]) rfl (zz_ws (ws' := (wCov z ch ca cb cp fV) ++ (wCov z ch2 ca2 cb2 cp2 fV2)) rfl ?_)
    have hs29 : lexS 1 cb (kk cp fV) cb2 (kk cp2 fV2) (cmpZ (cp * cb2) (cp2 * cb)) := lexS_1 (by rw [kk_0]) (by rw [kk_0])
    refine zz_istore_n (ls' := [(3, .int (iI (cmpZ (cp * cb2) (cp2 * cb)))), (0, .ref ch), (1, .ref ch2), (2, .int (iI nb))]) C dX2_isBetterThan_32 rfl (by decide) rfl ?_
    refine zz_iconst C dX2_isBetterThan_33 ?_
    refine zz_istore (ls' := [(4, .int (iI 0)), (3, .int (iI (cmpZ (cp * cb2) (cp2 * cb)))), (0, .ref ch), (1, .ref ch2), (2, .int (iI nb))]) C dX2_isBetterThan_34 (by decide) rfl ?_
    have Lp36 : ∀ (fu9 : Nat) (b : Int) (o : Int), (0 ≤ b ∧ b ≤ nb) → (lexS (b + 1) cb (kk cp fV) cb2 (kk cp2 fV2) o) → (nb - b).toNat < fu9 → zzW p l e rm_X2_isBetterThan s m ([.ref ch, .ref ch2, .int (iI nb)] : List Value).toArray below meth c z A 5 (MQ below (zQ z A (po_X2_isBetterThan z ch ca cb cp fV ch2 ca2 cb2 cp2 fV2 nb)) ([.ref ch, .ref ch2, .int (iI nb)] : List Value).toArray s 0 0 A) 0 0 ((wCov z ch ca cb cp fV) ++ (wCov z ch2 ca2 cb2 cp2 fV2)) [(0, .ref ch), (1, .ref ch2), (2, .int (iI nb)), (3, .int (iI o)), (4, .int (iI b))] [] 36 := by
      intro fu9
      induction fu9 with
      | zero => intro b o hb hst h9; exact absurd h9 (Nat.not_lt_zero _)
      | succ fu9 ih36 =>
        intro b o hb hst hm36
        have ho := lexS_o hst
        refine zz_iload C 4 dX2_isBetterThan_36 rfl ?_
        refine zz_iload_n C 2 dX2_isBetterThan_38 rfl rfl ?_
        refine zz_icmp_ge (tgt := 80) C dX2_isBetterThan_39 (by decide) (by unfold rI; omega) (by unfold rI; omega) (fun c39 => ?_) (fun c39 => ?_)
        · skip
          refine zz_iload_n C 3 dX2_isBetterThan_80 rfl rfl ?_
          refine zz_if_ge (tgt := 88) C dX2_isBetterThan_81 (by decide) (by unfold rI; omega) (fun c81 => ?_) (fun c81 => ?_)
          · skip
            refine zz_iconst C dX2_isBetterThan_88 ?_
            exact zz_zret C hr (by decide +kernel) dX2_isBetterThan_89 ⟨0, Or.inr ⟨rfl, by omega, lexS_no hst (by omega) (by omega) (by omega) (by omega) (fun _ => by omega)⟩, rfl, rfl⟩
          · skip
            refine zz_iconst C dX2_isBetterThan_84 ?_
            refine zz_goto (tgt := 89) C dX2_isBetterThan_85 (by decide) ?_
            exact zz_zret C hr (by decide +kernel) dX2_isBetterThan_89 ⟨1, Or.inl ⟨rfl, Or.inr (lexS_yes hst (by omega) (by omega))⟩, rfl, rfl⟩
        · skip
          refine zz_iload_n C 3 dX2_isBetterThan_42 rfl rfl ?_
          refine zz_if_ne (tgt := 80) C dX2_isBetterThan_43 (by decide) (by unfold rI; omega) (fun c43 => ?_) (fun c43 => ?_)
          · skip
            refine zz_iload_n C 3 dX2_isBetterThan_80 rfl rfl ?_
            refine zz_if_ge (tgt := 88) C dX2_isBetterThan_81 (by decide) (by unfold rI; omega) (fun c81 => ?_) (fun c81 => ?_)
            · skip
              refine zz_iconst C dX2_isBetterThan_88 ?_
              exact zz_zret C hr (by decide +kernel) dX2_isBetterThan_89 ⟨0, Or.inr ⟨rfl, by omega, lexS_no hst (by omega) (by omega) (by omega) (by omega) (fun _ => by omega)⟩, rfl, rfl⟩
            · skip
              refine zz_iconst C dX2_isBetterThan_84 ?_
              refine zz_goto (tgt := 89) C dX2_isBetterThan_85 (by decide) ?_
              exact zz_zret C hr (by decide +kernel) dX2_isBetterThan_89 ⟨1, Or.inl ⟨rfl, Or.inr (lexS_yes hst (by omega) (by omega))⟩, rfl, rfl⟩
          · skip
            have hv1 := hV b (by omega) (by omega)
            have hv2 := hV2 (by omega) b (by omega) (by omega)
            refine zz_aload_n C 0 dX2_isBetterThan_46 rfl rfl ?_
            refine zz_get C 0 (ci := 2) (k := 2) rfl rfl in_X2 (by decide) qw_82 rfl rfl dX2_isBetterThan_47 ?_
            refine zz_iload C 4 dX2_isBetterThan_50 rfl ?_
            refine zz_lald C 1 rfl (by omega) (by omega) (by decide) dX2_isBetterThan_52 ?_
            refine zz_aload_n C 1 dX2_isBetterThan_53 rfl rfl ?_
            refine zz_get C 2 (ci := 2) (k := 0) rfl rfl in_X2 (by decide) qw_76 rfl rfl dX2_isBetterThan_54 ?_
            refine zz_lmul C dX2_isBetterThan_57 ?_
            refine zz_aload_n C 1 dX2_isBetterThan_58 rfl rfl ?_
            refine zz_get C 2 (ci := 2) (k := 2) rfl rfl in_X2 (by decide) qw_82 rfl rfl dX2_isBetterThan_59 ?_
            refine zz_iload C 4 dX2_isBetterThan_62 rfl ?_
            refine zz_lald C 3 rfl (by omega) (by omega) (by decide) dX2_isBetterThan_64 ?_
            refine zz_aload_n C 0 dX2_isBetterThan_65 rfl rfl ?_
            refine zz_get C 0 (ci := 2) (k := 0) rfl rfl in_X2 (by decide) qw_76 rfl rfl dX2_isBetterThan_66 ?_
            refine zz_lmul C dX2_isBetterThan_69 ?_
            refine zz_callS (wr := (wCov z ch ca cb cp fV) ++ (wCov z ch2 ca2 cb2 cp2 fV2)) (st := []) C (cc_J13_compare_74951 l z ((fV b) * cb2) ((fV2 b) * cb) (pr_rL (by omega) (by omega)) (pr_rL (by omega) (by omega))) yk_J13_compare_74951 qw_694 ⟨by decide, by decide⟩ [] [0, 1, 2, 3] rfl rfl rfl rfl (by decide) rfl rfl (Nat.le_of_ble_eq_true rfl) dX2_isBetterThan_70 ⟨by decide, by decide⟩ ?_
            rintro _ _ ⟨rfl, rfl⟩
            refine zz_st (st' := [.int (iI (cmpZ ((fV b) * cb2) ((fV2 b) * cb)))]) rfl (zz_ws (ws' := (wCov z ch ca cb cp fV) ++ (wCov z ch2 ca2 cb2 cp2 fV2)) rfl ?_)
            refine zz_istore_n (ls' := [(3, .int (iI (cmpZ ((fV b) * cb2) ((fV2 b) * cb)))), (0, .ref ch), (1, .ref ch2), (2, .int (iI nb)), (4, .int (iI b))]) C dX2_isBetterThan_73 rfl (by decide) rfl ?_
            refine zz_iinc (ls' := [(4, .int (iI (b + 1))), (3, .int (iI (cmpZ ((fV b) * cb2) ((fV2 b) * cb)))), (0, .ref ch), (1, .ref ch2), (2, .int (iI nb))]) C 4 dX2_isBetterThan_74 rfl (by decide) rfl ?_
            refine zz_goto (tgt := 36) C dX2_isBetterThan_77 (by decide) ?_
            refine zz_loc (ls' := [(0, .ref ch), (1, .ref ch2), (2, .int (iI nb)), (3, .int (iI (cmpZ ((fV b) * cb2) ((fV2 b) * cb)))), (4, .int (iI (b + 1)))]) [2, 3, 4, 1, 0] rfl ?_
            exact ih36 (b + 1) (cmpZ ((fV b) * cb2) ((fV2 b) * cb)) (by omega) (lexS_step hst (by omega) (by omega) (by rw [kk_s _ _ hb.1]) (by rw [kk_s _ _ hb.1])) (by omega)
    refine zz_loc (ls' := [(0, .ref ch), (1, .ref ch2), (2, .int (iI nb)), (3, .int (iI (cmpZ (cp * cb2) (cp2 * cb)))), (4, .int (iI 0))]) [2, 3, 4, 1, 0] rfl ?_
    exact Lp36 _ 0 (cmpZ (cp * cb2) (cp2 * cb)) (by omega) hs29 (Nat.lt_succ_self _)
  · skip
    refine zz_iconst C dX2_isBetterThan_9 ?_
    exact zz_zret C hr (by decide +kernel) dX2_isBetterThan_10 ⟨1, Or.inl ⟨rfl, Or.inl (by omega)⟩, rfl, rfl⟩
abbrev po_X7_excess (z : zC) (yh : Nat) (ya : Nat) (yb : Int) (yw : Int) (fY : Int → Int) (eh : Nat) (eo : Nat) (ep : Nat) (ew : Nat) (eR : Int → Nat) (ed : Int) (eb : Int) (ec : Int) (fE : Int → Int → Int) (fQ : Int → Int) (fO : Int → Int) (c8 : Int) : Option Value → va_W → Prop := fun v w => v = some (Value.long (iL (fQ c8 * yb - dsum ed fE fY c8))) ∧ w = (wPrf z yh ya yb yw fY) ++ (wEq z eh eo ep ew eR ed eb ec fE fQ fO)
abbrev rm_X7_excess : Room := { frames := 1, cells := 0, slots := 0, locals := 40 }
set_option maxHeartbeats 4000000 in
set_option maxRecDepth 100000 in
theorem cc_X7_excess (l : Launch) (z : zC) (yh : Nat) (ya : Nat) (yb : Int) (yw : Int) (fY : Int → Int) (eh : Nat) (eo : Nat) (ep : Nat) (ew : Nat) (eR : Int → Nat) (ed : Int) (eb : Int) (ec : Int) (fE : Int → Int → Int) (fQ : Int → Int) (fO : Int → Int) (c8 : Int) (hed : 1 ≤ ed ∧ ed ≤ 4) (hc8 : 0 ≤ c8 ∧ c8 < 10) : zzMet l yX7_excess cX7_excess 6 (Option.some .long) rm_X7_excess z [.ref yh, .ref eh, .int (iI c8)] ((wPrf z yh ya yb yw fY) ++ (wEq z eh eo ep ew eR ed eb ec fE fQ fO)) (po_X7_excess z yh ya yb yw fY eh eo ep ew eR ed eb ec fE fQ fO c8) := by
  refine zzMet.of (own := RX7) (ls0 := [(0, .ref yh), (1, .ref eh), (2, .int (iI c8))]) (by decide) rfl (Nat.le_of_ble_eq_true rfl) rfl ?_
  intro p e s m below meth c A C hr hnm
  refine zz_aload_n C 1 dX7_excess_0 rfl rfl ?_
  refine zz_get C 2 (ci := 3) (k := 4) rfl rfl in_X3 (by decide) qw_135 rfl rfl dX7_excess_1 ?_
  refine zz_iload_n C 2 dX7_excess_4 rfl rfl ?_
  refine zz_lald C 4 rfl (by omega) (by omega) (by decide) dX7_excess_5 ?_
  refine zz_aload_n C 0 dX7_excess_6 rfl rfl ?_
  refine zz_get C 0 (ci := 7) (k := 0) rfl rfl in_X7 (by decide) qw_99 rfl rfl dX7_excess_7 ?_
  refine zz_lmul C dX7_excess_10 ?_
  refine zz_lstore_n (ls' := [(3, .long (iL ((fQ c8) * yb))), (0, .ref yh), (1, .ref eh), (2, .int (iI c8))]) C dX7_excess_11 rfl (by decide) rfl ?_
  refine zz_iconst C dX7_excess_12 ?_
  refine zz_istore (ls' := [(5, .int (iI 1)), (3, .long (iL ((fQ c8) * yb))), (0, .ref yh), (1, .ref eh), (2, .int (iI c8))]) C dX7_excess_13 (by decide) rfl ?_
  have Lp15 : ∀ (fu9 : Nat) (d : Int) (rr : Int), (1 ≤ d ∧ d ≤ ed + 1) → (rr = fQ c8 * yb - zsum (fun j => fY (j + 1) * fE c8 (j + 1)) (d - 1)) → (ed + 1 - d).toNat < fu9 → zzW p l e rm_X7_excess s m ([.ref yh, .ref eh, .int (iI c8)] : List Value).toArray below meth c z A 6 (MQ below (zQ z A (po_X7_excess z yh ya yb yw fY eh eo ep ew eR ed eb ec fE fQ fO c8)) ([.ref yh, .ref eh, .int (iI c8)] : List Value).toArray s 0 0 A) 0 0 ((wPrf z yh ya yb yw fY) ++ (wEq z eh eo ep ew eR ed eb ec fE fQ fO)) [(0, .ref yh), (1, .ref eh), (2, .int (iI c8)), (3, .long (iL rr)), (5, .int (iI d))] [] 15 := by
    intro fu9
    induction fu9 with
    | zero => intro d rr hd hrr h9; exact absurd h9 (Nat.not_lt_zero _)
    | succ fu9 ih15 =>
      intro d rr hd hrr hm15
      refine zz_iload C 4 dX7_excess_15 rfl ?_
      refine zz_aload_n C 1 dX7_excess_17 rfl rfl ?_
      refine zz_get C 2 (ci := 3) (k := 0) rfl rfl in_X3 (by decide) qw_121 rfl rfl dX7_excess_18 ?_
      refine zz_icmp_gt (tgt := 50) C dX7_excess_21 (by decide) (by unfold rI; omega) (by unfold rI; omega) (fun c21 => ?_) (fun c21 => ?_)
      · skip
        refine zz_lload_n C 3 dX7_excess_50 rfl rfl ?_
        exact zz_lret C hr dX7_excess_51 ⟨zz_vL (by rw [hrr, show d - 1 = ed by omega]; rfl), rfl⟩
      · skip
        refine zz_lload_n C 3 dX7_excess_24 rfl rfl ?_
        refine zz_aload_n C 0 dX7_excess_25 rfl rfl ?_
        refine zz_get C 0 (ci := 7) (k := 2) rfl rfl in_X7 (by decide) qw_103 rfl rfl dX7_excess_26 ?_
        refine zz_iload C 4 dX7_excess_29 rfl ?_
        refine zz_lald C 1 rfl (by omega) (by omega) (by decide) dX7_excess_31 ?_
        refine zz_aload_n C 1 dX7_excess_32 rfl rfl ?_
        refine zz_get C 2 (ci := 3) (k := 3) rfl rfl in_X3 (by decide) qw_132 rfl rfl dX7_excess_33 ?_
        refine zz_iload_n C 2 dX7_excess_36 rfl rfl ?_
        refine zz_qald C 3 rfl (by omega) (by omega) (by decide) dX7_excess_37 ?_
        refine zz_iload C 4 dX7_excess_38 rfl ?_
        refine zz_lald (T := fE c8) C (6 + c8.toNat) (zz_c10 (P := fun i9 => ((wPrf z yh ya yb yw fY) ++ (wEq z eh eo ep ew eR ed eb ec fE fQ fO) : va_W)[6 + i9.toNat]? = some (eR i9, lrow 5 (z.2.1 2) (fE i9))) rfl rfl rfl rfl rfl rfl rfl rfl rfl rfl (by omega) (by omega)) (by omega) (by omega) (by decide) dX7_excess_40 ?_
        refine zz_lmul C dX7_excess_41 ?_
        refine zz_lsub C dX7_excess_42 ?_
        refine zz_lstore_n (ls' := [(3, .long (iL (rr - ((fY d) * (fE c8 d))))), (0, .ref yh), (1, .ref eh), (2, .int (iI c8)), (5, .int (iI d))]) C dX7_excess_43 rfl (by decide) rfl ?_
        refine zz_iinc (ls' := [(5, .int (iI (d + 1))), (3, .long (iL (rr - ((fY d) * (fE c8 d))))), (0, .ref yh), (1, .ref eh), (2, .int (iI c8))]) C 4 dX7_excess_44 rfl (by decide) rfl ?_
        refine zz_goto (tgt := 15) C dX7_excess_47 (by decide) ?_
        refine zz_loc (ls' := [(0, .ref yh), (1, .ref eh), (2, .int (iI c8)), (3, .long (iL (rr - ((fY d) * (fE c8 d))))), (5, .int (iI (d + 1)))]) [2, 3, 4, 1, 0] rfl ?_
        exact ih15 (d + 1) (rr - ((fY d) * (fE c8 d))) (by omega) (dsum_step (T := ed) hrr hd.1 (by omega)) (by omega)
  refine zz_loc (ls' := [(0, .ref yh), (1, .ref eh), (2, .int (iI c8)), (3, .long (iL ((fQ c8) * yb))), (5, .int (iI 1))]) [2, 3, 4, 1, 0] rfl ?_
  exact Lp15 _ 1 ((fQ c8) * yb) (by omega) (by rw [show (1 : Int) - 1 = 0 by rfl, zsum_0]; omega) (Nat.lt_succ_self _)
abbrev po_X7_readOff (z : zC) (yh : Nat) (ya : Nat) (yb : Int) (yw : Int) (fY : Int → Int) (eh : Nat) (eo : Nat) (ep : Nat) (ew : Nat) (eR : Int → Nat) (ed : Int) (eb : Int) (ec : Int) (fE : Int → Int → Int) (fQ : Int → Int) (fO : Int → Int) (bh : Nat) (bc : Nat) (bo : Nat) (bR : Int → Nat) (bd : Int) (fC : Int → Int) (fM : Int → Int → Int) : Option Value → va_W → Prop := fun v w => ∃ (q : Int), ∃ (gw : Int), ∃ (gY : Int → Int), ((q = 1 ∧ dcand ed ec fE fQ fC bd gY ∧ dBd ed fO gw gY) ∨ (q = 0 ∧ ∀ D8 Y8, ¬ dcand ed ec fE fQ fC D8 Y8)) ∧ v = some (Value.int (iI q)) ∧ w = (wPrf z yh ya bd gw gY) ++ (wEq z eh eo ep ew eR ed eb ec fE fQ fO) ++ (wBas z bh bc bo bR ed bd fC fM)
abbrev rm_X7_readOff : Room := { frames := 2, cells := 0, slots := 0, locals := 65 }
set_option maxHeartbeats 4000000 in
set_option maxRecDepth 100000 in
theorem cc_X7_readOff (l : Launch) (z : zC) (yh : Nat) (ya : Nat) (yb : Int) (yw : Int) (fY : Int → Int) (eh : Nat) (eo : Nat) (ep : Nat) (ew : Nat) (eR : Int → Nat) (ed : Int) (eb : Int) (ec : Int) (fE : Int → Int → Int) (fQ : Int → Int) (fO : Int → Int) (bh : Nat) (bc : Nat) (bo : Nat) (bR : Int → Nat) (bd : Int) (fC : Int → Int) (fM : Int → Int → Int) (hed : 1 ≤ ed ∧ ed ≤ 4) (hec : 0 ≤ ec ∧ ec ≤ 10) (hinv : isInv ed fE fC bd fM) (hin : inB ed ec fC) (hO : ∀ r : Int, 1 ≤ r → r ≤ ed → 0 ≤ fO r ∧ fO r ≤ 200) (hQ : ∀ c : Int, 0 ≤ c → c < ec → 0 ≤ fQ c ∧ fQ c ≤ 200) (hE : ∀ c d : Int, 0 ≤ c → c < ec → 1 ≤ d → d ≤ ed → -60 ≤ fE c d ∧ fE c d ≤ 60) : zzMet l yX7_readOff cX7_readOff 5 (Option.some .boolean) rm_X7_readOff z [.ref yh, .ref eh, .ref bh] ((wPrf z yh ya yb yw fY) ++ (wEq z eh eo ep ew eR ed eb ec fE fQ fO) ++ (wBas z bh bc bo bR ed bd fC fM)) (po_X7_readOff z yh ya yb yw fY eh eo ep ew eR ed eb ec fE fQ fO bh bc bo bR bd fC fM) := by
  refine zzMet.of (own := RX7) (ls0 := [(0, .ref yh), (1, .ref eh), (2, .ref bh)]) (by decide) rfl (Nat.le_of_ble_eq_true rfl) rfl ?_
  intro p e s m below meth c A C hr hnm
  refine zz_aload_n C 0 dX7_readOff_0 rfl rfl ?_
  refine zz_aload_n C 2 dX7_readOff_1 rfl rfl ?_
  refine zz_get C 16 (ci := 0) (k := 1) rfl rfl in_X0 (by decide) qw_165 rfl rfl dX7_readOff_2 ?_
  refine zz_put (ty := .long) (ws' := (wPrf z yh ya bd yw fY) ++ (wEq z eh eo ep ew eR ed eb ec fE fQ fO) ++ (wBas z bh bc bo bR ed bd fC fM)) C 0 (ci := 7) (k := 0) rfl rfl in_X7 tyX7 tyX7_ok nmX7 (by decide) qw_99 rfl rfl (by decide +kernel) rfl rfl (Nat.le_of_ble_eq_true rfl) rfl dX7_readOff_5 ?_
  refine zz_aload_n C 0 dX7_readOff_8 rfl rfl ?_
  refine zz_lconst (a := 0) C dX7_readOff_9 (by decide +kernel) ?_
  refine zz_put (ty := .long) (ws' := (wPrf z yh ya bd 0 fY) ++ (wEq z eh eo ep ew eR ed eb ec fE fQ fO) ++ (wBas z bh bc bo bR ed bd fC fM)) C 0 (ci := 7) (k := 1) rfl rfl in_X7 tyX7 tyX7_ok nmX7 (by decide) qw_102 rfl rfl (by decide +kernel) rfl rfl (Nat.le_of_ble_eq_true rfl) rfl dX7_readOff_10 ?_
  refine zz_iconst C dX7_readOff_13 ?_
  refine zz_istore_n (ls' := [(3, .int (iI 1)), (0, .ref yh), (1, .ref eh), (2, .ref bh)]) C dX7_readOff_14 rfl (by decide) rfl ?_
  have Lp15 : ∀ (fu9 : Nat) (d : Int) (gw : Int) (gY : Int → Int), (1 ≤ d ∧ d ≤ ed + 1) → (∀ e9 : Int, 1 ≤ e9 → e9 < d → gY e9 = yyI ed fM fQ fC e9) → (gw = zsum (fun j => yyI ed fM fQ fC (j + 1) * fO (j + 1)) (d - 1)) → (ed + 1 - d).toNat < fu9 → zzW p l e rm_X7_readOff s m ([.ref yh, .ref eh, .ref bh] : List Value).toArray below meth c z A 5 (MQ below (zQ z A (po_X7_readOff z yh ya yb yw fY eh eo ep ew eR ed eb ec fE fQ fO bh bc bo bR bd fC fM)) ([.ref yh, .ref eh, .ref bh] : List Value).toArray s 0 0 A) 0 0 ((wPrf z yh ya bd gw gY) ++ (wEq z eh eo ep ew eR ed eb ec fE fQ fO) ++ (wBas z bh bc bo bR ed bd fC fM)) [(0, .ref yh), (1, .ref eh), (2, .ref bh), (3, .int (iI d))] [] 15 := by
    intro fu9
    induction fu9 with
    | zero => intro d gw gY hd hY hw h9; exact absurd h9 (Nat.not_lt_zero _)
    | succ fu9 ih15 =>
      intro d gw gY hd hY hw hm15
      refine zz_iload_n C 3 dX7_readOff_15 rfl rfl ?_
      refine zz_aload_n C 1 dX7_readOff_16 rfl rfl ?_
      refine zz_get C 2 (ci := 3) (k := 0) rfl rfl in_X3 (by decide) qw_121 rfl rfl dX7_readOff_17 ?_
      refine zz_icmp_gt (tgt := 105) C dX7_readOff_20 (by decide) (by unfold rI; omega) (by unfold rI; omega) (fun c20 => ?_) (fun c20 => ?_)
      · skip
        have hYe : ∀ e9 : Int, 1 ≤ e9 → e9 ≤ ed → gY e9 = yyI ed fM fQ fC e9 := fun e9 h0 h1 => hY e9 h0 (by omega)
        have hYr : ∀ e9 : Int, 1 ≤ e9 → e9 ≤ ed → -266043200 ≤ gY e9 ∧ gY e9 ≤ 266043200 := fun e9 h0 h1 => by rw [hYe e9 h0 h1]; exact yy_rng hed.1 hed.2 hinv hin hQ h0 h1
        have hwe : gw = zsum (fun j => gY (j + 1) * fO (j + 1)) ed := by rw [hw, show d - 1 = ed by omega]; exact zsum_congr (fun j j0 j1 => by show yyI ed fM fQ fC (j + 1) * fO (j + 1) = gY (j + 1) * fO (j + 1); rw [hYe (j + 1) (by omega) (by omega)])
        have hwr := w_rng hed.1 hed.2 hO hYr
        have hb9 := hinv.1
        refine zz_iconst C dX7_readOff_105 ?_
        refine zz_istore_n (ls' := [(3, .int (iI 0)), (0, .ref yh), (1, .ref eh), (2, .ref bh)]) C dX7_readOff_106 rfl (by decide) rfl ?_
        have Lp107 : ∀ (fu9 : Nat) (k : Int), (0 ≤ k ∧ k ≤ ec) → (∀ c : Int, 0 ≤ c → c < k → 0 ≤ fQ c * bd - dsum ed fE gY c) → (ec - k).toNat < fu9 → zzW p l e rm_X7_readOff s m ([.ref yh, .ref eh, .ref bh] : List Value).toArray below meth c z A 5 (MQ below (zQ z A (po_X7_readOff z yh ya yb yw fY eh eo ep ew eR ed eb ec fE fQ fO bh bc bo bR bd fC fM)) ([.ref yh, .ref eh, .ref bh] : List Value).toArray s 0 0 A) 0 0 ((wPrf z yh ya bd gw gY) ++ (wEq z eh eo ep ew eR ed eb ec fE fQ fO) ++ (wBas z bh bc bo bR ed bd fC fM)) [(0, .ref yh), (1, .ref eh), (2, .ref bh), (3, .int (iI k))] [] 107 := by
          intro fu9
          induction fu9 with
          | zero => intro k hk hx h9; exact absurd h9 (Nat.not_lt_zero _)
          | succ fu9 ih107 =>
            intro k hk hx hm107
            refine zz_iload_n C 3 dX7_readOff_107 rfl rfl ?_
            refine zz_aload_n C 1 dX7_readOff_108 rfl rfl ?_
            refine zz_get C 2 (ci := 3) (k := 2) rfl rfl in_X3 (by decide) qw_129 rfl rfl dX7_readOff_109 ?_
            refine zz_icmp_ge (tgt := 134) C dX7_readOff_112 (by decide) (by unfold rI; omega) (by unfold rI; omega) (fun c112 => ?_) (fun c112 => ?_)
            · skip
              refine zz_iconst C dX7_readOff_134 ?_
              exact zz_zret C hr (by decide +kernel) dX7_readOff_135 ⟨1, _, _, Or.inl ⟨rfl, dcand_of hed.1 hed.2 hinv hin hYe (fun c h0 h1 => hx c h0 (by omega)), hwe, by rw [hwe]; exact hwr, hYr⟩, rfl, rfl⟩
            · skip
              refine zz_aload_n C 0 dX7_readOff_115 rfl rfl ?_
              refine zz_aload_n C 1 dX7_readOff_116 rfl rfl ?_
              refine zz_iload_n C 3 dX7_readOff_117 rfl rfl ?_
              refine zz_callV (wr := wBas z bh bc bo bR ed bd fC fM) (st := []) C (cc_X7_excess l z yh ya bd gw gY eh eo ep ew eR ed eb ec fE fQ fO k (by omega) (by omega)) yk_X7_excess qw_706 ⟨by decide, by decide⟩ [0, 1, 2, 3, 4, 5, 6, 7, 8, 9, 10, 11, 12, 13, 14, 15] [16, 17, 18, 19, 20, 21, 22] rfl rfl rfl rfl (by decide) 0 7 rfl rfl rfl rfl (Nat.le_of_ble_eq_true rfl) dX7_readOff_118 ⟨by decide, by decide⟩ ?_
              rintro _ _ ⟨rfl, rfl⟩
              refine zz_st (st' := [.long (iL (fQ k * bd - dsum ed fE gY k))]) rfl (zz_ws (ws' := (wBas z bh bc bo bR ed bd fC fM) ++ (wPrf z yh ya bd gw gY) ++ (wEq z eh eo ep ew eR ed eb ec fE fQ fO)) rfl ?_)
              have hq9 := hQ k (by omega) (by omega)
              have hr9 := exc_rng (p := fQ k) (D := bd) (by omega) (by omega) (dsum_rng hed.1 hed.2 hE hYr (c := k) (by omega) (by omega))
              refine zz_lconst (a := 0) C dX7_readOff_121 (by decide +kernel) ?_
              refine zz_lcmp_ge (tgt := 128) C dX7_readOff_122 dX7_readOff_123 (by decide) (by unfold rL; omega) (by unfold rL; omega) (fun c122 => ?_) (fun c122 => ?_)
              · skip
                refine zz_iinc (ls' := [(3, .int (iI (k + 1))), (0, .ref yh), (1, .ref eh), (2, .ref bh)]) C 3 dX7_readOff_128 rfl (by decide) rfl ?_
                refine zz_goto (tgt := 107) C dX7_readOff_131 (by decide) ?_
                refine zz_sub (ws' := (wPrf z yh ya bd gw gY) ++ (wEq z eh eo ep ew eR ed eb ec fE fQ fO) ++ (wBas z bh bc bo bR ed bd fC fM)) [7, 8, 9, 10, 11, 12, 13, 14, 15, 16, 17, 18, 19, 20, 21, 22, 0, 1, 2, 3, 4, 5, 6] rfl rfl ?_
                refine zz_loc (ls' := [(0, .ref yh), (1, .ref eh), (2, .ref bh), (3, .int (iI (k + 1)))]) [1, 2, 3, 0] rfl ?_
                exact ih107 (k + 1) (by omega) (fun c h0 h1 => by rcases (show c = k ∨ c < k by omega) with e8 | e8; (rw [e8]; omega); exact hx c h0 e8) (by omega)
              · skip
                refine zz_iconst C dX7_readOff_126 ?_
                refine zz_sub (ws' := (wPrf z yh ya bd gw gY) ++ (wEq z eh eo ep ew eR ed eb ec fE fQ fO) ++ (wBas z bh bc bo bR ed bd fC fM)) [7, 8, 9, 10, 11, 12, 13, 14, 15, 16, 17, 18, 19, 20, 21, 22, 0, 1, 2, 3, 4, 5, 6] rfl rfl ?_
                exact zz_zret C hr (by decide +kernel) dX7_readOff_127 ⟨0, _, _, Or.inr ⟨rfl, dcand_no hed.1 hed.2 hinv hin hYe hk.1 (by omega) (by omega)⟩, rfl, rfl⟩
        refine zz_loc (ls' := [(0, .ref yh), (1, .ref eh), (2, .ref bh), (3, .int (iI 0))]) [1, 2, 3, 0] rfl ?_
        exact Lp107 _ 0 (by omega) (fun c h0 h1 => by omega) (Nat.lt_succ_self _)
      · skip
        refine zz_aload_n C 0 dX7_readOff_23 rfl rfl ?_
        refine zz_get C 0 (ci := 7) (k := 2) rfl rfl in_X7 (by decide) qw_103 rfl rfl dX7_readOff_24 ?_
        refine zz_iload_n C 3 dX7_readOff_27 rfl rfl ?_
        refine zz_lconst (a := 0) C dX7_readOff_28 (by decide +kernel) ?_
        refine zz_last (ws' := (wPrf z yh ya bd gw (zup gY d 0)) ++ (wEq z eh eo ep ew eR ed eb ec fE fQ fO) ++ (wBas z bh bc bo bR ed bd fC fM)) C 1 rfl (by omega) (by omega) (by decide) rfl dX7_readOff_29 ?_
        refine zz_iconst C dX7_readOff_30 ?_
        refine zz_istore (ls' := [(4, .int (iI 0)), (0, .ref yh), (1, .ref eh), (2, .ref bh), (3, .int (iI d))]) C dX7_readOff_31 (by decide) rfl ?_
        have Lp33 : ∀ (fu9 : Nat) (i : Int) (gX : Int → Int), (0 ≤ i ∧ i ≤ ed) → (∀ e9 : Int, 1 ≤ e9 → e9 < d → gX e9 = yyI ed fM fQ fC e9) → (gX d = zsum (fun i => fQ (fC i) * fM i (ed + d - 1)) i) → (ed - i).toNat < fu9 → zzW p l e rm_X7_readOff s m ([.ref yh, .ref eh, .ref bh] : List Value).toArray below meth c z A 5 (MQ below (zQ z A (po_X7_readOff z yh ya yb yw fY eh eo ep ew eR ed eb ec fE fQ fO bh bc bo bR bd fC fM)) ([.ref yh, .ref eh, .ref bh] : List Value).toArray s 0 0 A) 0 0 ((wPrf z yh ya bd gw gX) ++ (wEq z eh eo ep ew eR ed eb ec fE fQ fO) ++ (wBas z bh bc bo bR ed bd fC fM)) [(0, .ref yh), (1, .ref eh), (2, .ref bh), (3, .int (iI d)), (4, .int (iI i))] [] 33 := by
          intro fu9
          induction fu9 with
          | zero => intro i gX hi hY2 hy h9; exact absurd h9 (Nat.not_lt_zero _)
          | succ fu9 ih33 =>
            intro i gX hi hY2 hy hm33
            refine zz_iload C 4 dX7_readOff_33 rfl ?_
            refine zz_aload_n C 2 dX7_readOff_35 rfl rfl ?_
            refine zz_get C 16 (ci := 0) (k := 0) rfl rfl in_X0 (by decide) qw_161 rfl rfl dX7_readOff_36 ?_
            refine zz_icmp_ge (tgt := 77) C dX7_readOff_39 (by decide) (by unfold rI; omega) (by unfold rI; omega) (fun c39 => ?_) (fun c39 => ?_)
            · skip
              have hy9 : gX d = yyI ed fM fQ fC d := by rw [hy, show i = ed by omega]; rfl
              refine zz_aload_n C 0 dX7_readOff_77 rfl rfl ?_
              refine zz_dup C dX7_readOff_78 rfl ?_
              refine zz_get C 0 (ci := 7) (k := 1) rfl rfl in_X7 (by decide) qw_102 rfl rfl dX7_readOff_79 ?_
              refine zz_aload_n C 0 dX7_readOff_82 rfl rfl ?_
              refine zz_get C 0 (ci := 7) (k := 2) rfl rfl in_X7 (by decide) qw_103 rfl rfl dX7_readOff_83 ?_
              refine zz_iload_n C 3 dX7_readOff_86 rfl rfl ?_
              refine zz_lald C 1 rfl (by omega) (by omega) (by decide) dX7_readOff_87 ?_
              refine zz_aload_n C 1 dX7_readOff_88 rfl rfl ?_
              refine zz_get C 2 (ci := 3) (k := 5) rfl rfl in_X3 (by decide) qw_139 rfl rfl dX7_readOff_89 ?_
              refine zz_iload_n C 3 dX7_readOff_92 rfl rfl ?_
              refine zz_lald C 5 rfl (by omega) (by omega) (by decide) dX7_readOff_93 ?_
              refine zz_lmul C dX7_readOff_94 ?_
              refine zz_ladd C dX7_readOff_95 ?_
              refine zz_put (ty := .long) (ws' := (wPrf z yh ya bd (gw + ((gX d) * (fO d))) gX) ++ (wEq z eh eo ep ew eR ed eb ec fE fQ fO) ++ (wBas z bh bc bo bR ed bd fC fM)) C 0 (ci := 7) (k := 1) rfl rfl in_X7 tyX7 tyX7_ok nmX7 (by decide) qw_102 rfl rfl (by decide +kernel) rfl rfl (Nat.le_of_ble_eq_true rfl) rfl dX7_readOff_96 ?_
              refine zz_iinc (ls' := [(3, .int (iI (d + 1))), (0, .ref yh), (1, .ref eh), (2, .ref bh), (4, .int (iI i))]) C 3 dX7_readOff_99 rfl (by decide) rfl ?_
              refine zz_goto (tgt := 15) C dX7_readOff_102 (by decide) ?_
              refine zz_loc (ls' := [(0, .ref yh), (1, .ref eh), (2, .ref bh), (3, .int (iI (d + 1)))]) [1, 2, 3, 0] rfl ?_
              exact ih15 (d + 1) (gw + ((gX d) * (fO d))) gX (by omega) (fun e9 h0 h1 => by rcases (show e9 = d ∨ e9 < d by omega) with e8 | e8; (rw [e8]; exact hy9); exact hY2 e9 h0 e8) (by rw [hy9]; exact w_step hw hd.1) (by omega)
            · skip
              refine zz_aload_n C 0 dX7_readOff_42 rfl rfl ?_
              refine zz_get C 0 (ci := 7) (k := 2) rfl rfl in_X7 (by decide) qw_103 rfl rfl dX7_readOff_43 ?_
              refine zz_iload_n C 3 dX7_readOff_46 rfl rfl ?_
              refine zz_dup2 C dX7_readOff_47 rfl rfl ?_
              refine zz_lald C 1 rfl (by omega) (by omega) (by decide) dX7_readOff_48 ?_
              refine zz_aload_n C 1 dX7_readOff_49 rfl rfl ?_
              refine zz_get C 2 (ci := 3) (k := 4) rfl rfl in_X3 (by decide) qw_135 rfl rfl dX7_readOff_50 ?_
              have hf9 := hin i hi.1 (by omega)
              refine zz_aload_n C 2 dX7_readOff_53 rfl rfl ?_
              refine zz_get C 16 (ci := 0) (k := 2) rfl rfl in_X0 (by decide) qw_167 rfl rfl dX7_readOff_54 ?_
              refine zz_iload C 4 dX7_readOff_57 rfl ?_
              refine zz_iald C 17 rfl (by omega) (by omega) (by decide) dX7_readOff_59 ?_
              refine zz_lald C 4 rfl (by omega) (by omega) (by decide) dX7_readOff_60 ?_
              refine zz_aload_n C 2 dX7_readOff_61 rfl rfl ?_
              refine zz_iload C 4 dX7_readOff_62 rfl ?_
              refine zz_iload_n C 3 dX7_readOff_64 rfl rfl ?_
              refine zz_callV (wr := (wPrf z yh ya bd gw gX) ++ (wEq z eh eo ep ew eR ed eb ec fE fQ fO)) (st := [.long (iL (fQ (fC i))), .long (iL (gX d)), .int (iI d), .ref ya]) C (cc_X0_inverse l z bh bc bo bR ed bd fC fM i d (by omega) (by omega) (by omega)) yk_X0_inverse qw_705 ⟨by decide, by decide⟩ [16, 17, 18, 19, 20, 21, 22] [0, 1, 2, 3, 4, 5, 6, 7, 8, 9, 10, 11, 12, 13, 14, 15] rfl rfl rfl rfl (by decide) 0 0 rfl rfl rfl rfl (Nat.le_of_ble_eq_true rfl) dX7_readOff_65 ⟨by decide, by decide⟩ ?_
              rintro _ _ ⟨rfl, rfl⟩
              refine zz_st (st' := [.long (iL (fM i (ed + d - 1))), .long (iL (fQ (fC i))), .long (iL (gX d)), .int (iI d), .ref ya]) rfl (zz_ws (ws' := (wPrf z yh ya bd gw gX) ++ (wEq z eh eo ep ew eR ed eb ec fE fQ fO) ++ (wBas z bh bc bo bR ed bd fC fM)) rfl ?_)
              refine zz_lmul C dX7_readOff_68 ?_
              refine zz_ladd C dX7_readOff_69 ?_
              refine zz_last (ws' := (wPrf z yh ya bd gw (zup gX d ((gX d) + ((fQ (fC i)) * (fM i (ed + d - 1)))))) ++ (wEq z eh eo ep ew eR ed eb ec fE fQ fO) ++ (wBas z bh bc bo bR ed bd fC fM)) C 1 rfl (by omega) (by omega) (by decide) rfl dX7_readOff_70 ?_
              refine zz_iinc (ls' := [(4, .int (iI (i + 1))), (0, .ref yh), (1, .ref eh), (2, .ref bh), (3, .int (iI d))]) C 4 dX7_readOff_71 rfl (by decide) rfl ?_
              refine zz_goto (tgt := 33) C dX7_readOff_74 (by decide) ?_
              refine zz_loc (ls' := [(0, .ref yh), (1, .ref eh), (2, .ref bh), (3, .int (iI d)), (4, .int (iI (i + 1)))]) [1, 2, 3, 4, 0] rfl ?_
              exact ih33 (i + 1) (zup gX d ((gX d) + ((fQ (fC i)) * (fM i (ed + d - 1))))) (by omega) (yy_in hY2 hy hi.1).1 (yy_in hY2 hy hi.1).2 (by omega)
        refine zz_loc (ls' := [(0, .ref yh), (1, .ref eh), (2, .ref bh), (3, .int (iI d)), (4, .int (iI 0))]) [1, 2, 3, 4, 0] rfl ?_
        exact Lp33 _ 0 (zup gY d 0) (by omega) (fun e9 h0 h1 => by rw [zup_ne (by omega)]; exact hY e9 h0 h1) (by rw [zup_eq]; rfl) (Nat.lt_succ_self _)
  refine zz_loc (ls' := [(0, .ref yh), (1, .ref eh), (2, .ref bh), (3, .int (iI 1))]) [1, 2, 3, 0] rfl ?_
  exact Lp15 _ 1 0 fY (by omega) (fun e9 h0 h1 => by omega) rfl (Nat.lt_succ_self _)
abbrev po_X7_isBetterThan (z : zC) (yh : Nat) (ya : Nat) (yb : Int) (yw : Int) (fY : Int → Int) (yh2 : Nat) (ya2 : Nat) (yb2 : Int) (yw2 : Int) (fY2 : Int → Int) (nd : Int) : Option Value → va_W → Prop := fun v w => ∃ (q : Int), ((q = 1 ∧ (yb2 = 0 ∨ lexLt (nd + 1) yb (kd yw fY) yb2 (kd yw2 fY2))) ∨ (q = 0 ∧ ¬ yb2 = 0 ∧ ¬ lexLt (nd + 1) yb (kd yw fY) yb2 (kd yw2 fY2))) ∧ v = some (Value.int (iI q)) ∧ w = (wPrf z yh ya yb yw fY) ++ (wPrf z yh2 ya2 yb2 yw2 fY2)
abbrev rm_X7_isBetterThan : Room := { frames := 2, cells := 0, slots := 0, locals := 63 }
set_option maxHeartbeats 4000000 in
set_option maxRecDepth 100000 in
theorem cc_X7_isBetterThan (l : Launch) (z : zC) (yh : Nat) (ya : Nat) (yb : Int) (yw : Int) (fY : Int → Int) (yh2 : Nat) (ya2 : Nat) (yb2 : Int) (yw2 : Int) (fY2 : Int → Int) (nd : Int) (hnd : 1 ≤ nd ∧ nd ≤ 4) (hyb : 1 ≤ yb ∧ yb ≤ 23040000) (hyb2 : 0 ≤ yb2 ∧ yb2 ≤ 23040000) (hyw : -212834560000 ≤ yw ∧ yw ≤ 212834560000) (hyw2 : ¬ yb2 = 0 → -212834560000 ≤ yw2 ∧ yw2 ≤ 212834560000) (hY : ∀ c : Int, 1 ≤ c → c ≤ nd → -266043200 ≤ fY c ∧ fY c ≤ 266043200) (hY2 : ¬ yb2 = 0 → ∀ c : Int, 1 ≤ c → c ≤ nd → -266043200 ≤ fY2 c ∧ fY2 c ≤ 266043200) : zzMet l yX7_isBetterThan cX7_isBetterThan 5 (Option.some .boolean) rm_X7_isBetterThan z [.ref yh, .ref yh2, .int (iI nd)] ((wPrf z yh ya yb yw fY) ++ (wPrf z yh2 ya2 yb2 yw2 fY2)) (po_X7_isBetterThan z yh ya yb yw fY yh2 ya2 yb2 yw2 fY2 nd) := by
  refine zzMet.of (own := RX7) (ls0 := [(0, .ref yh), (1, .ref yh2), (2, .int (iI nd))]) (by decide) rfl (Nat.le_of_ble_eq_true rfl) rfl ?_
  intro p e s m below meth c A C hr hnm
  refine zz_aload_n C 1 dX7_isBetterThan_0 rfl rfl ?_
  refine zz_get C 2 (ci := 7) (k := 0) rfl rfl in_X7 (by decide) qw_99 rfl rfl dX7_isBetterThan_1 ?_
  refine zz_lconst (a := 0) C dX7_isBetterThan_4 (by decide +kernel) ?_
  refine zz_lcmp_ne (tgt := 11) C dX7_isBetterThan_5 dX7_isBetterThan_6 (by decide) (by unfold rL; omega) (by unfold rL; omega) (fun c5 => ?_) (fun c5 => ?_)
  · skip
    refine zz_aload_n C 1 dX7_isBetterThan_11 rfl rfl ?_
    have hp2 := hyw2 (by omega)
    refine zz_get C 2 (ci := 7) (k := 1) rfl rfl in_X7 (by decide) qw_102 rfl rfl dX7_isBetterThan_12 ?_
    refine zz_aload_n C 0 dX7_isBetterThan_15 rfl rfl ?_
    refine zz_get C 0 (ci := 7) (k := 0) rfl rfl in_X7 (by decide) qw_99 rfl rfl dX7_isBetterThan_16 ?_
    refine zz_lmul C dX7_isBetterThan_19 ?_
    refine zz_aload_n C 0 dX7_isBetterThan_20 rfl rfl ?_
    refine zz_get C 0 (ci := 7) (k := 1) rfl rfl in_X7 (by decide) qw_102 rfl rfl dX7_isBetterThan_21 ?_
    refine zz_aload_n C 1 dX7_isBetterThan_24 rfl rfl ?_
    refine zz_get C 2 (ci := 7) (k := 0) rfl rfl in_X7 (by decide) qw_99 rfl rfl dX7_isBetterThan_25 ?_
    refine zz_lmul C dX7_isBetterThan_28 ?_
    refine zz_callS (wr := (wPrf z yh ya yb yw fY) ++ (wPrf z yh2 ya2 yb2 yw2 fY2)) (st := []) C (cc_J13_compare_74951 l z (yw2 * yb) (yw * yb2) (pr_rL2 hp2 (by omega)) (pr_rL2 hyw (by omega))) yk_J13_compare_74951 qw_714 ⟨by decide, by decide⟩ [] [0, 1, 2, 3] rfl rfl rfl rfl (by decide) rfl rfl (Nat.le_of_ble_eq_true rfl) dX7_isBetterThan_29 ⟨by decide, by decide⟩ ?_
    rintro _ _ ⟨rfl, rfl⟩
    refine zz_st (st' := [.int (iI (cmpZ (yw2 * yb) (yw * yb2)))]) rfl (zz_ws (ws' := (wPrf z yh ya yb yw fY) ++ (wPrf z yh2 ya2 yb2 yw2 fY2)) rfl ?_)
    have hs29 : lexS 1 yb (kd yw fY) yb2 (kd yw2 fY2) (cmpZ (yw2 * yb) (yw * yb2)) := lexS_neg (by rw [kd_0, Int.neg_mul]) (by rw [kd_0, Int.neg_mul])
    refine zz_istore_n (ls' := [(3, .int (iI (cmpZ (yw2 * yb) (yw * yb2)))), (0, .ref yh), (1, .ref yh2), (2, .int (iI nd))]) C dX7_isBetterThan_32 rfl (by decide) rfl ?_
    refine zz_iconst C dX7_isBetterThan_33 ?_
    refine zz_istore (ls' := [(4, .int (iI 1)), (3, .int (iI (cmpZ (yw2 * yb) (yw * yb2)))), (0, .ref yh), (1, .ref yh2), (2, .int (iI nd))]) C dX7_isBetterThan_34 (by decide) rfl ?_
    have Lp36 : ∀ (fu9 : Nat) (b : Int) (o : Int), (1 ≤ b ∧ b ≤ nd + 1) → (lexS b yb (kd yw fY) yb2 (kd yw2 fY2) o) → (nd + 1 - b).toNat < fu9 → zzW p l e rm_X7_isBetterThan s m ([.ref yh, .ref yh2, .int (iI nd)] : List Value).toArray below meth c z A 5 (MQ below (zQ z A (po_X7_isBetterThan z yh ya yb yw fY yh2 ya2 yb2 yw2 fY2 nd)) ([.ref yh, .ref yh2, .int (iI nd)] : List Value).toArray s 0 0 A) 0 0 ((wPrf z yh ya yb yw fY) ++ (wPrf z yh2 ya2 yb2 yw2 fY2)) [(0, .ref yh), (1, .ref yh2), (2, .int (iI nd)), (3, .int (iI o)), (4, .int (iI b))] [] 36 := by
      intro fu9
      induction fu9 with
      | zero => intro b o hb hst h9; exact absurd h9 (Nat.not_lt_zero _)
      | succ fu9 ih36 =>
        intro b o hb hst hm36
        have ho := lexS_o hst
        refine zz_iload C 4 dX7_isBetterThan_36 rfl ?_
        refine zz_iload_n C 2 dX7_isBetterThan_38 rfl rfl ?_
        refine zz_icmp_gt (tgt := 80) C dX7_isBetterThan_39 (by decide) (by unfold rI; omega) (by unfold rI; omega) (fun c39 => ?_) (fun c39 => ?_)
        · skip
          refine zz_iload_n C 3 dX7_isBetterThan_80 rfl rfl ?_
          refine zz_if_ge (tgt := 88) C dX7_isBetterThan_81 (by decide) (by unfold rI; omega) (fun c81 => ?_) (fun c81 => ?_)
          · skip
            refine zz_iconst C dX7_isBetterThan_88 ?_
            exact zz_zret C hr (by decide +kernel) dX7_isBetterThan_89 ⟨0, Or.inr ⟨rfl, by omega, lexS_no hst (by omega) (by omega) (by omega) (by omega) (fun _ => by omega)⟩, rfl, rfl⟩
          · skip
            refine zz_iconst C dX7_isBetterThan_84 ?_
            refine zz_goto (tgt := 89) C dX7_isBetterThan_85 (by decide) ?_
            exact zz_zret C hr (by decide +kernel) dX7_isBetterThan_89 ⟨1, Or.inl ⟨rfl, Or.inr (lexS_yes hst (by omega) (by omega))⟩, rfl, rfl⟩
        · skip
          refine zz_iload_n C 3 dX7_isBetterThan_42 rfl rfl ?_
          refine zz_if_ne (tgt := 80) C dX7_isBetterThan_43 (by decide) (by unfold rI; omega) (fun c43 => ?_) (fun c43 => ?_)
          · skip
            refine zz_iload_n C 3 dX7_isBetterThan_80 rfl rfl ?_
            refine zz_if_ge (tgt := 88) C dX7_isBetterThan_81 (by decide) (by unfold rI; omega) (fun c81 => ?_) (fun c81 => ?_)
            · skip
              refine zz_iconst C dX7_isBetterThan_88 ?_
              exact zz_zret C hr (by decide +kernel) dX7_isBetterThan_89 ⟨0, Or.inr ⟨rfl, by omega, lexS_no hst (by omega) (by omega) (by omega) (by omega) (fun _ => by omega)⟩, rfl, rfl⟩
            · skip
              refine zz_iconst C dX7_isBetterThan_84 ?_
              refine zz_goto (tgt := 89) C dX7_isBetterThan_85 (by decide) ?_
              exact zz_zret C hr (by decide +kernel) dX7_isBetterThan_89 ⟨1, Or.inl ⟨rfl, Or.inr (lexS_yes hst (by omega) (by omega))⟩, rfl, rfl⟩
          · skip
            have hv1 := hY b (by omega) (by omega)
            have hv2 := hY2 (by omega) b (by omega) (by omega)
            refine zz_aload_n C 0 dX7_isBetterThan_46 rfl rfl ?_
            refine zz_get C 0 (ci := 7) (k := 2) rfl rfl in_X7 (by decide) qw_103 rfl rfl dX7_isBetterThan_47 ?_
            refine zz_iload C 4 dX7_isBetterThan_50 rfl ?_
            refine zz_lald C 1 rfl (by omega) (by omega) (by decide) dX7_isBetterThan_52 ?_
            refine zz_aload_n C 1 dX7_isBetterThan_53 rfl rfl ?_
            refine zz_get C 2 (ci := 7) (k := 0) rfl rfl in_X7 (by decide) qw_99 rfl rfl dX7_isBetterThan_54 ?_
            refine zz_lmul C dX7_isBetterThan_57 ?_
            refine zz_aload_n C 1 dX7_isBetterThan_58 rfl rfl ?_
            refine zz_get C 2 (ci := 7) (k := 2) rfl rfl in_X7 (by decide) qw_103 rfl rfl dX7_isBetterThan_59 ?_
            refine zz_iload C 4 dX7_isBetterThan_62 rfl ?_
            refine zz_lald C 3 rfl (by omega) (by omega) (by decide) dX7_isBetterThan_64 ?_
            refine zz_aload_n C 0 dX7_isBetterThan_65 rfl rfl ?_
            refine zz_get C 0 (ci := 7) (k := 0) rfl rfl in_X7 (by decide) qw_99 rfl rfl dX7_isBetterThan_66 ?_
            refine zz_lmul C dX7_isBetterThan_69 ?_
            refine zz_callS (wr := (wPrf z yh ya yb yw fY) ++ (wPrf z yh2 ya2 yb2 yw2 fY2)) (st := []) C (cc_J13_compare_74951 l z ((fY b) * yb2) ((fY2 b) * yb) (pr_rL2 (by omega) (by omega)) (pr_rL2 (by omega) (by omega))) yk_J13_compare_74951 qw_714 ⟨by decide, by decide⟩ [] [0, 1, 2, 3] rfl rfl rfl rfl (by decide) rfl rfl (Nat.le_of_ble_eq_true rfl) dX7_isBetterThan_70 ⟨by decide, by decide⟩ ?_
            rintro _ _ ⟨rfl, rfl⟩
            refine zz_st (st' := [.int (iI (cmpZ ((fY b) * yb2) ((fY2 b) * yb)))]) rfl (zz_ws (ws' := (wPrf z yh ya yb yw fY) ++ (wPrf z yh2 ya2 yb2 yw2 fY2)) rfl ?_)
            refine zz_istore_n (ls' := [(3, .int (iI (cmpZ ((fY b) * yb2) ((fY2 b) * yb)))), (0, .ref yh), (1, .ref yh2), (2, .int (iI nd)), (4, .int (iI b))]) C dX7_isBetterThan_73 rfl (by decide) rfl ?_
            refine zz_iinc (ls' := [(4, .int (iI (b + 1))), (3, .int (iI (cmpZ ((fY b) * yb2) ((fY2 b) * yb)))), (0, .ref yh), (1, .ref yh2), (2, .int (iI nd))]) C 4 dX7_isBetterThan_74 rfl (by decide) rfl ?_
            refine zz_goto (tgt := 36) C dX7_isBetterThan_77 (by decide) ?_
            refine zz_loc (ls' := [(0, .ref yh), (1, .ref yh2), (2, .int (iI nd)), (3, .int (iI (cmpZ ((fY b) * yb2) ((fY2 b) * yb)))), (4, .int (iI (b + 1)))]) [2, 3, 4, 1, 0] rfl ?_
            exact ih36 (b + 1) (cmpZ ((fY b) * yb2) ((fY2 b) * yb)) (by omega) (lexS_step hst (by omega) (by omega) (by rw [kd_s _ _ hb.1]) (by rw [kd_s _ _ hb.1])) (by omega)
    refine zz_loc (ls' := [(0, .ref yh), (1, .ref yh2), (2, .int (iI nd)), (3, .int (iI (cmpZ (yw2 * yb) (yw * yb2)))), (4, .int (iI 1))]) [2, 3, 4, 1, 0] rfl ?_
    exact Lp36 _ 1 (cmpZ (yw2 * yb) (yw * yb2)) (by omega) hs29 (Nat.lt_succ_self _)
  · skip
    refine zz_iconst C dX7_isBetterThan_9 ?_
    exact zz_zret C hr (by decide +kernel) dX7_isBetterThan_10 ⟨1, Or.inl ⟨rfl, Or.inl (by omega)⟩, rfl, rfl⟩
