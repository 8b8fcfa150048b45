def bitZ (m c : Int) : Int := m / 2 ^ c.toNat % 2
def cntB (m n : Int) : Int := zsum (bitZ m) n
theorem bitZ_rng (m c : Int) : 0 ≤ bitZ m c ∧ bitZ m c ≤ 1 := by unfold bitZ; omega
theorem cntB_succ (m : Int) {c : Int} (h : 0 ≤ c) : cntB m (c + 1) = cntB m c + bitZ m c := zsum_succ _ h
theorem cntB_mono {m a b : Int} (h0 : 0 ≤ a) (h : a ≤ b) : cntB m a ≤ cntB m b := by
  have key : ∀ n : Nat, cntB m a ≤ cntB m (a + (n : Int)) := by
    intro n
    induction n with
    | zero => simp
    | succ n ih =>
      have h1 := cntB_succ m (c := a + (n : Int)) (by omega)
      have h2 := bitZ_rng m (a + (n : Int))
      rw [show a + ((n + 1 : Nat) : Int) = a + (n : Int) + 1 by omega]
      omega
  have := key (b - a).toNat
  rwa [show a + ((b - a).toNat : Int) = b by omega] at this
theorem cntB_pos {m n : Int} (h : 0 ≤ n) : 0 ≤ cntB m n := by
  have := cntB_mono (m := m) (a := 0) (b := n) (by omega) h
  rwa [show cntB m 0 = 0 from rfl] at this
def swp (f : Int → Int → Int) (i k n : Int) : Int → Int → Int := fun r c => if 0 ≤ c ∧ c < n then (if r = i then f k c else if r = k then f i c else f r c) else f r c
theorem swp_step {f g : Int → Int → Int} {i k j : Int} (h : g = swp f i k j) (hj : 0 ≤ j) (hik : ¬ i = k) : zup2 (zup2 g i j (g k j)) k j (g i j) = swp f i k (j + 1) := by
  subst h
  funext r c
  have a1 : swp f i k j k j = f k j := by unfold swp; rw [if_neg (by omega)]
  have a2 : swp f i k j i j = f i j := by unfold swp; rw [if_neg (by omega)]
  rw [a1, a2]
  by_cases e1 : r = k ∧ c = j
  · obtain ⟨rfl, rfl⟩ := e1
    rw [zup2_eq]
    unfold swp
    rw [if_pos ⟨hj, by omega⟩, if_neg (fun q => hik q.symm), if_pos rfl]
  · rw [zup2_ne e1]
    by_cases e2 : r = i ∧ c = j
    · obtain ⟨rfl, rfl⟩ := e2
      rw [zup2_eq]
      unfold swp
      rw [if_pos ⟨hj, by omega⟩, if_pos rfl]
    · rw [zup2_ne e2]
      unfold swp
      by_cases q : 0 ≤ c ∧ c < j
      · rw [if_pos q, if_pos (show 0 ≤ c ∧ c < j + 1 by omega)]
      · rw [if_neg q]
        by_cases q2 : 0 ≤ c ∧ c < j + 1
        · rw [if_pos q2, if_neg (by omega), if_neg (by omega)]
        · rw [if_neg q2]
theorem swp_0 (f : Int → Int → Int) (i k : Int) : f = swp f i k 0 := by funext r c; unfold swp; rw [if_neg (by omega)]
theorem swp_self (f : Int → Int → Int) (i n : Int) : f = swp f i i n := by
  funext r c
  unfold swp
  split
  · split
    · rename_i q; rw [q]
    · rfl
  · rfl
/-- the rows but one, behind a column, take new values -/
def clr (f N : Int → Int → Int) (k n : Int) (up j : Int) : Int → Int → Int := fun r c => if 0 ≤ r ∧ ¬ r = k ∧ k < c ∧ c < n ∧ (r < up ∨ (r = up ∧ c < j)) then N r c else f r c
theorem clr_0 (f N : Int → Int → Int) (k n : Int) : f = clr f N k n 0 (k + 1) := by funext r c; unfold clr; rw [if_neg (by omega)]
theorem clr_next {f N : Int → Int → Int} {k n up j : Int} (h : up = k ∨ n ≤ j) (hu : 0 ≤ up) : clr f N k n up j = clr f N k n (up + 1) (k + 1) := by
  funext r c
  unfold clr
  by_cases q : 0 ≤ r ∧ ¬ r = k ∧ k < c ∧ c < n ∧ (r < up ∨ (r = up ∧ c < j))
  · rw [if_pos q, if_pos (by omega)]
  · rw [if_neg q, if_neg (by omega)]
theorem clr_step {f N : Int → Int → Int} {k n up j : Int} (hu : 0 ≤ up ∧ ¬ up = k) (hj : k < j ∧ j < n) : zup2 (clr f N k n up j) up j (N up j) = clr f N k n up (j + 1) := by
  funext r c
  by_cases e : r = up ∧ c = j
  · obtain ⟨rfl, rfl⟩ := e
    rw [zup2_eq]
    unfold clr
    rw [if_pos (by omega)]
  · rw [zup2_ne e]
    unfold clr
    by_cases q : 0 ≤ r ∧ ¬ r = k ∧ k < c ∧ c < n ∧ (r < up ∨ (r = up ∧ c < j))
    · rw [if_pos q, if_pos (by omega)]
    · rw [if_neg q, if_neg (by omega)]
theorem clr_k (f N : Int → Int → Int) (k n up j c : Int) : clr f N k n up j k c = f k c := by unfold clr; rw [if_neg (by omega)]
theorem clr_at (f N : Int → Int → Int) {k n up j : Int} : clr f N k n up j up j = f up j := by unfold clr; rw [if_neg (by omega)]
theorem clr_c (f N : Int → Int → Int) (k n up j r : Int) : clr f N k n up j r k = f r k := by unfold clr; rw [if_neg (by omega)]
theorem tdiv_of {x p N : Int} (h : x = p * N) (hp : ¬ p = 0) : x.tdiv p = N := by rw [h]; exact Int.mul_tdiv_cancel_left _ hp
/-- signs turned behind a column -/
def trn (f : Int → Int → Int) (n up j : Int) : Int → Int → Int := fun r c => if 0 ≤ r ∧ n ≤ c ∧ c < 2 * n ∧ (r < up ∨ (r = up ∧ c < j)) then -f r c else f r c
theorem trn_0 (f : Int → Int → Int) (n : Int) : f = trn f n 0 n := by funext r c; unfold trn; rw [if_neg (by omega)]
theorem trn_next {f : Int → Int → Int} {n up j : Int} (h : 2 * n ≤ j) (hu : 0 ≤ up) : trn f n up j = trn f n (up + 1) n := by
  funext r c
  unfold trn
  by_cases q : 0 ≤ r ∧ n ≤ c ∧ c < 2 * n ∧ (r < up ∨ (r = up ∧ c < j))
  · rw [if_pos q, if_pos (by omega)]
  · rw [if_neg q, if_neg (by omega)]
theorem trn_step {f : Int → Int → Int} {n up j : Int} (hu : 0 ≤ up) (hj : n ≤ j ∧ j < 2 * n) : zup2 (trn f n up j) up j (-trn f n up j up j) = trn f n up (j + 1) := by
  have a1 : trn f n up j up j = f up j := by unfold trn; rw [if_neg (by omega)]
  rw [a1]
  funext r c
  by_cases e : r = up ∧ c = j
  · obtain ⟨rfl, rfl⟩ := e
    rw [zup2_eq]
    unfold trn
    rw [if_pos (by omega)]
  · rw [zup2_ne e]
    unfold trn
    by_cases q : 0 ≤ r ∧ n ≤ c ∧ c < 2 * n ∧ (r < up ∨ (r = up ∧ c < j))
    · rw [if_pos q, if_pos (by omega)]
    · rw [if_neg q, if_neg (by omega)]
theorem swp_step2 {f g : Int → Int → Int} {i k j : Int} (h : g = swp f i k j) (hj : 0 ≤ j) (hik : ¬ i = k) : zup2 (zup2 g i j (g k j)) k j (g i j) = swp f i k (j + 1) := swp_step h hj hik
theorem choose_step {m k s : Int} {gC : Int → Int} (h : ∀ c9 : Int, 0 ≤ c9 → c9 < k → bitZ m c9 = 1 → gC (cntB m c9) = c9) (hs : s = cntB m k) (hk : 0 ≤ k) (c9 : Int) (h0 : 0 ≤ c9) (h1 : c9 < k + 1) (h2 : bitZ m c9 = 1) : zup gC s k (cntB m c9) = c9 := by
  by_cases e : c9 = k
  · rw [e, ← hs, zup_eq]
  · have h3 := cntB_succ m h0
    have h4 := cntB_mono (m := m) (a := c9 + 1) (b := k) (by omega) (by omega)
    rw [zup_ne (by omega)]
    exact h c9 h0 (by omega) h2
theorem fill_step {n i j v : Int} {E g : Int → Int → Int} {C : Int → Int} (h : ∀ r c9 : Int, 0 ≤ r → 0 ≤ c9 → c9 < n → (r < i ∨ (r = i ∧ c9 < j)) → g r c9 = E (C c9) (r + 1) ∧ g r (n + c9) = if r = c9 then 1 else 0) (hj : 0 ≤ j ∧ j < n) (_ : 0 ≤ i) (hv : v = if i = j then 1 else 0) : ∀ r c9 : Int, 0 ≤ r → 0 ≤ c9 → c9 < n → (r < i ∨ (r = i ∧ c9 < j + 1)) → zup2 (zup2 g i j (E (C j) (i + 1))) i (n + j) v r c9 = E (C c9) (r + 1) ∧ zup2 (zup2 g i j (E (C j) (i + 1))) i (n + j) v r (n + c9) = if r = c9 then 1 else 0 := by
  intro r c h0 h1 h2 h3
  by_cases e : r = i ∧ c = j
  · obtain ⟨rfl, rfl⟩ := e
    rw [zup2_ne (by omega), zup2_eq, zup2_eq]
    exact ⟨rfl, hv⟩
  · have h4 := h r c h0 h1 h2 (by omega)
    rw [zup2_ne (by omega), zup2_ne (by omega), zup2_ne (by omega), zup2_ne (by omega)]
    exact h4

abbrev po_X0_inverse (z : zC) (bh : Nat) (bc : Nat) (bo : Nat) (bR : Int → Nat) (bs : Int) (bd : Int) (fC : Int → Int) (fM : Int → Int → Int) (i8 : Int) (d8 : Int) : Option Value → va_W → Prop := fun v w => v = some (Value.long (iL (fM i8 (bs + d8 - 1)))) ∧ w = wBas z bh bc bo bR bs bd fC fM
abbrev rm_X0_inverse : Room := { frames := 1, cells := 0, slots := 0, locals := 40 }
set_option maxHeartbeats 4000000 in
set_option maxRecDepth 100000 in
theorem cc_X0_inverse (l : Launch) (z : zC) (bh : Nat) (bc : Nat) (bo : Nat) (bR : Int → Nat) (bs : Int) (bd : Int) (fC : Int → Int) (fM : Int → Int → Int) (i8 : Int) (d8 : Int) (hbs : 1 ≤ bs ∧ bs ≤ 4) (hi8 : 0 ≤ i8 ∧ i8 < 4) (hd8 : 1 ≤ d8 ∧ d8 ≤ bs) : zzMet l yX0_inverse cX0_inverse 3 (Option.some .long) rm_X0_inverse z [.ref bh, .int (iI i8), .int (iI d8)] (wBas z bh bc bo bR bs bd fC fM) (po_X0_inverse z bh bc bo bR bs bd fC fM i8 d8) := by
  refine zzMet.of (own := RX0) (ls0 := [(0, .ref bh), (1, .int (iI i8)), (2, .int (iI d8))]) (by decide) rfl (Nat.le_of_ble_eq_true rfl) rfl ?_
  intro p e s m below meth c A C hr hnm
  refine zz_aload_n C 0 dX0_inverse_0 rfl rfl ?_
  refine zz_get C 0 (ci := 0) (k := 3) rfl rfl in_X0 (by decide) qw_169 rfl rfl dX0_inverse_1 ?_
  refine zz_iload_n C 1 dX0_inverse_4 rfl rfl ?_
  refine zz_qald C 2 rfl (by omega) (by omega) (by decide) dX0_inverse_5 ?_
  refine zz_aload_n C 0 dX0_inverse_6 rfl rfl ?_
  refine zz_get C 0 (ci := 0) (k := 0) rfl rfl in_X0 (by decide) qw_160 rfl rfl dX0_inverse_7 ?_
  refine zz_iload_n C 2 dX0_inverse_10 rfl rfl ?_
  refine zz_iadd C dX0_inverse_11 ?_
  refine zz_iconst C dX0_inverse_12 ?_
  refine zz_isub C dX0_inverse_13 ?_
  refine zz_lald (T := fM i8) C (3 + i8.toNat) (zz_c4 (P := fun i9 => (wBas z bh bc bo bR bs bd fC fM : va_W)[3 + i9.toNat]? = some (bR i9, lrow 8 (z.2.1 2) (fM i9))) rfl rfl rfl rfl (by omega) (by omega)) (by omega) (by omega) (by decide) dX0_inverse_14 ?_
  exact zz_lret C hr dX0_inverse_15 ⟨zz_vL rfl, rfl⟩
abbrev po_X0_swapRows (z : zC) (bh : Nat) (bc : Nat) (bo : Nat) (bR : Int → Nat) (bs : Int) (bd : Int) (fC : Int → Int) (fM : Int → Int → Int) (i8 : Int) (k8 : Int) : Option Value → va_W → Prop := fun v w => ∃ (g2 : Int → Int → Int), (g2 = swp fM i8 k8 (2 * bs)) ∧ v = none ∧ w = wBas z bh bc bo bR bs bd fC g2
abbrev rm_X0_swapRows : Room := { frames := 1, cells := 0, slots := 0, locals := 40 }
set_option maxHeartbeats 4000000 in
set_option maxRecDepth 100000 in
theorem cc_X0_swapRows (l : Launch) (z : zC) (bh : Nat) (bc : Nat) (bo : Nat) (bR : Int → Nat) (bs : Int) (bd : Int) (fC : Int → Int) (fM : Int → Int → Int) (i8 : Int) (k8 : Int) (hbs : 1 ≤ bs ∧ bs ≤ 4) (hi8 : 0 ≤ i8 ∧ i8 < bs) (hk8 : 0 ≤ k8 ∧ k8 < bs) : zzMet l yX0_swapRows cX0_swapRows 6 none rm_X0_swapRows z [.ref bh, .int (iI i8), .int (iI k8)] (wBas z bh bc bo bR bs bd fC fM) (po_X0_swapRows z bh bc bo bR bs bd fC fM i8 k8) := by
  refine zzMet.of (own := RX0) (ls0 := [(0, .ref bh), (1, .int (iI i8)), (2, .int (iI k8))]) (by decide) rfl (Nat.le_of_ble_eq_true rfl) rfl ?_
  intro p e s m below meth c A C hr hnm
  refine zz_iconst C dX0_swapRows_0 ?_
  refine zz_istore_n (ls' := [(3, .int (iI 0)), (0, .ref bh), (1, .int (iI i8)), (2, .int (iI k8))]) C dX0_swapRows_1 rfl (by decide) rfl ?_
  have Lp2 : ∀ (fu9 : Nat) (j : Int) (g1 : Int → Int → Int), (0 ≤ j ∧ j ≤ 2 * bs) → (g1 = swp fM i8 k8 j) → (2 * bs - j).toNat < fu9 → zzW p l e rm_X0_swapRows s m ([.ref bh, .int (iI i8), .int (iI k8)] : List Value).toArray below meth c z A 6 (MQ below (zQ z A (po_X0_swapRows z bh bc bo bR bs bd fC fM i8 k8)) ([.ref bh, .int (iI i8), .int (iI k8)] : List Value).toArray s 0 0 A) 0 0 (wBas z bh bc bo bR bs bd fC g1) [(0, .ref bh), (1, .int (iI i8)), (2, .int (iI k8)), (3, .int (iI j))] [] 2 := by
    intro fu9
    induction fu9 with
    | zero => intro j g1 hj hg1 h9; exact absurd h9 (Nat.not_lt_zero _)
    | succ fu9 ih2 =>
      intro j g1 hj hg1 hm2
      refine zz_iload_n C 1 dX0_swapRows_2 rfl rfl ?_
      refine zz_iload_n C 2 dX0_swapRows_3 rfl rfl ?_
      refine zz_icmp_eq (tgt := 59) C dX0_swapRows_4 (by decide) (by unfold rI; omega) (by unfold rI; omega) (fun c4 => ?_) (fun c4 => ?_)
      · skip
        exact zz_vret C hr dX0_swapRows_59 ⟨_, by first | (have h9 : j = 2 * bs := by omega); rw [hg1, h9] | (rw [hg1, show i8 = k8 by omega]; rw [← swp_self, ← swp_self]), rfl, rfl⟩
      · skip
        refine zz_iload_n C 3 dX0_swapRows_7 rfl rfl ?_
        refine zz_iconst C dX0_swapRows_8 ?_
        refine zz_aload_n C 0 dX0_swapRows_9 rfl rfl ?_
        refine zz_get C 0 (ci := 0) (k := 0) rfl rfl in_X0 (by decide) qw_160 rfl rfl dX0_swapRows_10 ?_
        refine zz_imul C dX0_swapRows_13 ?_
        refine zz_icmp_ge (tgt := 59) C dX0_swapRows_14 (by decide) (by unfold rI; omega) (by unfold rI; omega) (fun c14 => ?_) (fun c14 => ?_)
        · skip
          exact zz_vret C hr dX0_swapRows_59 ⟨_, by first | (have h9 : j = 2 * bs := by omega); rw [hg1, h9] | (rw [hg1, show i8 = k8 by omega]; rw [← swp_self, ← swp_self]), rfl, rfl⟩
        · skip
          refine zz_aload_n C 0 dX0_swapRows_17 rfl rfl ?_
          refine zz_get C 0 (ci := 0) (k := 3) rfl rfl in_X0 (by decide) qw_169 rfl rfl dX0_swapRows_18 ?_
          refine zz_iload_n C 1 dX0_swapRows_21 rfl rfl ?_
          refine zz_qald C 2 rfl (by omega) (by omega) (by decide) dX0_swapRows_22 ?_
          refine zz_iload_n C 3 dX0_swapRows_23 rfl rfl ?_
          refine zz_lald (T := g1 i8) C (3 + i8.toNat) (zz_c4 (P := fun i9 => (wBas z bh bc bo bR bs bd fC g1 : va_W)[3 + i9.toNat]? = some (bR i9, lrow 8 (z.2.1 2) (g1 i9))) rfl rfl rfl rfl (by omega) (by omega)) (by omega) (by omega) (by decide) dX0_swapRows_24 ?_
          refine zz_lstore (ls' := [(4, .long (iL (g1 i8 j))), (0, .ref bh), (1, .int (iI i8)), (2, .int (iI k8)), (3, .int (iI j))]) C dX0_swapRows_25 (by decide) rfl ?_
          refine zz_aload_n C 1 dX0_swapRows_27 rfl rfl ?_
          refine zz_get C 0 (ci := 0) (k := 3) rfl rfl in_X0 (by decide) qw_169 rfl rfl dX0_swapRows_28 ?_
          refine zz_iload_n C 2 dX0_swapRows_31 rfl rfl ?_
          refine zz_qald C 2 rfl (by omega) (by omega) (by decide) dX0_swapRows_32 ?_
          refine zz_iload_n C 4 dX0_swapRows_33 rfl rfl ?_
          refine zz_aload_n C 1 dX0_swapRows_34 rfl rfl ?_
          refine zz_get C 0 (ci := 0) (k := 3) rfl rfl in_X0 (by decide) qw_169 rfl rfl dX0_swapRows_35 ?_
          refine zz_iload_n C 3 dX0_swapRows_38 rfl rfl ?_
          refine zz_qald C 2 rfl (by omega) (by omega) (by decide) dX0_swapRows_39 ?_
          refine zz_iload_n C 4 dX0_swapRows_40 rfl rfl ?_
          refine zz_lald (T := g1 k8) C (3 + k8.toNat) (zz_c4 (P := fun i9 => (wBas z bh bc bo bR bs bd fC g1 : va_W)[3 + i9.toNat]? = some (bR i9, lrow 8 (z.2.1 2) (g1 i9))) rfl rfl rfl rfl (by omega) (by omega)) (by omega) (by omega) (by decide) dX0_swapRows_41 ?_
          refine zz_last (T := g1 i8) (ws' := wBas z bh bc bo bR bs bd fC (zup2 g1 i8 j (g1 k8 j))) C (3 + i8.toNat) (zz_c4 (P := fun i9 => (wBas z bh bc bo bR bs bd fC g1 : va_W)[3 + i9.toNat]? = some (bR i9, lrow 8 (z.2.1 2) (g1 i9))) rfl rfl rfl rfl (by omega) (by omega)) (by omega) (by omega) (by decide) (zz_c4 (P := fun i9 => (wBas z bh bc bo bR bs bd fC g1 : va_W).set (3 + i9.toNat) (bR i9, lrow 8 (z.2.1 2) (zup (g1 i9) j (g1 k8 j))) = (wBas z bh bc bo bR bs bd fC (zup2 g1 i9 j (g1 k8 j)))) rfl rfl rfl rfl (by omega) (by omega)) dX0_swapRows_42 ?_
          refine zz_aload_n C 1 dX0_swapRows_43 rfl rfl ?_
          refine zz_get C 0 (ci := 0) (k := 3) rfl rfl in_X0 (by decide) qw_169 rfl rfl dX0_swapRows_44 ?_
          refine zz_iload_n C 3 dX0_swapRows_47 rfl rfl ?_
          refine zz_qald C 2 rfl (by omega) (by omega) (by decide) dX0_swapRows_48 ?_
          refine zz_iload_n C 4 dX0_swapRows_49 rfl rfl ?_
          refine zz_lload C 0 dX0_swapRows_50 rfl ?_
          refine zz_last (T := (zup2 g1 i8 j (g1 k8 j)) k8) (ws' := wBas z bh bc bo bR bs bd fC (zup2 (zup2 g1 i8 j (g1 k8 j)) k8 j (g1 i8 j))) C (3 + k8.toNat) (zz_c4 (P := fun i9 => (wBas z bh bc bo bR bs bd fC (zup2 g1 i8 j (g1 k8 j)) : va_W)[3 + i9.toNat]? = some (bR i9, lrow 8 (z.2.1 2) ((zup2 g1 i8 j (g1 k8 j)) i9))) rfl rfl rfl rfl (by omega) (by omega)) (by omega) (by omega) (by decide) (zz_c4 (P := fun i9 => (wBas z bh bc bo bR bs bd fC (zup2 g1 i8 j (g1 k8 j)) : va_W).set (3 + i9.toNat) (bR i9, lrow 8 (z.2.1 2) (zup ((zup2 g1 i8 j (g1 k8 j)) i9) j (g1 i8 j))) = (wBas z bh bc bo bR bs bd fC (zup2 (zup2 g1 i8 j (g1 k8 j)) i9 j (g1 i8 j)))) rfl rfl rfl rfl (by omega) (by omega)) dX0_swapRows_52 ?_
          refine zz_iinc (ls' := [(3, .int (iI (j + 1))), (4, .long (iL (g1 i8 j))), (0, .ref bh), (1, .int (iI i8)), (2, .int (iI k8))]) C 4 dX0_swapRows_53 rfl (by decide) rfl ?_
          refine zz_goto (tgt := 2) C dX0_swapRows_56 (by decide) ?_
          refine zz_loc (ls' := [(0, .ref bh), (1, .int (iI i8)), (2, .int (iI k8)), (3, .int (iI (j + 1)))]) [2, 3, 4, 0] rfl ?_
          exact ih2 (j + 1) (zup2 (zup2 g1 i8 j (g1 k8 j)) k8 j (g1 i8 j)) (by omega) (swp_step2 hg1 hj.1 (by omega)) (by omega)
  refine zz_loc (ls' := [(0, .ref bh), (1, .int (iI i8)), (2, .int (iI k8)), (3, .int (iI 0))]) [1, 2, 3, 0] rfl ?_
  exact Lp2 _ 0 fM (by omega) (swp_0 _ _ _) (Nat.lt_succ_self _)
abbrev po_X0_bringPivot (z : zC) (bh : Nat) (bc : Nat) (bo : Nat) (bR : Int → Nat) (bs : Int) (bd : Int) (fC : Int → Int) (fM : Int → Int → Int) (k8 : Int) : Option Value → va_W → Prop := fun v w => ∃ (q : Int), ∃ (g2 : Int → Int → Int), ((q = 1 ∧ ∃ i9 : Int, k8 ≤ i9 ∧ i9 < bs ∧ ¬ fM i9 k8 = 0 ∧ g2 = swp fM i9 k8 (2 * bs)) ∨ (q = 0 ∧ (∀ i9 : Int, k8 ≤ i9 → i9 < bs → fM i9 k8 = 0) ∧ g2 = fM)) ∧ v = some (Value.int (iI q)) ∧ w = wBas z bh bc bo bR bs bd fC g2
abbrev rm_X0_bringPivot : Room := { frames := 2, cells := 0, slots := 0, locals := 65 }
set_option maxHeartbeats 4000000 in
set_option maxRecDepth 100000 in
theorem cc_X0_bringPivot (l : Launch) (z : zC) (bh : Nat) (bc : Nat) (bo : Nat) (bR : Int → Nat) (bs : Int) (bd : Int) (fC : Int → Int) (fM : Int → Int → Int) (k8 : Int) (hbs : 1 ≤ bs ∧ bs ≤ 4) (hk8 : 0 ≤ k8 ∧ k8 < bs) (hrg : ∀ r : Int, 0 ≤ r → r < bs → -4000000000000000000 ≤ fM r k8 ∧ fM r k8 ≤ 4000000000000000000) : zzMet l yX0_bringPivot cX0_bringPivot 3 (Option.some .boolean) rm_X0_bringPivot z [.ref bh, .int (iI k8)] (wBas z bh bc bo bR bs bd fC fM) (po_X0_bringPivot z bh bc bo bR bs bd fC fM k8) := by
  refine zzMet.of (own := RX0) (ls0 := [(0, .ref bh), (1, .int (iI k8))]) (by decide) rfl (Nat.le_of_ble_eq_true rfl) rfl ?_
  intro p e s m below meth c A C hr hnm
  refine zz_iload_n C 1 dX0_bringPivot_0 rfl rfl ?_
  refine zz_istore_n (ls' := [(2, .int (iI k8)), (0, .ref bh), (1, .int (iI k8))]) C dX0_bringPivot_1 rfl (by decide) rfl ?_
  have Lp2 : ∀ (fu9 : Nat) (i8 : Int), (k8 ≤ i8 ∧ i8 ≤ bs) → (∀ i9 : Int, k8 ≤ i9 → i9 < i8 → fM i9 k8 = 0) → (bs - i8).toNat < fu9 → zzW p l e rm_X0_bringPivot s m ([.ref bh, .int (iI k8)] : List Value).toArray below meth c z A 3 (MQ below (zQ z A (po_X0_bringPivot z bh bc bo bR bs bd fC fM k8)) ([.ref bh, .int (iI k8)] : List Value).toArray s 0 0 A) 0 0 (wBas z bh bc bo bR bs bd fC fM) [(0, .ref bh), (1, .int (iI k8)), (2, .int (iI i8))] [] 2 := by
    intro fu9
    induction fu9 with
    | zero => intro i8 hi8 hz h9; exact absurd h9 (Nat.not_lt_zero _)
    | succ fu9 ih2 =>
      intro i8 hi8 hz hm2
      refine zz_iload_n C 2 dX0_bringPivot_2 rfl rfl ?_
      refine zz_aload_n C 0 dX0_bringPivot_3 rfl rfl ?_
      refine zz_get C 0 (ci := 0) (k := 0) rfl rfl in_X0 (by decide) qw_160 rfl rfl dX0_bringPivot_4 ?_
      refine zz_icmp_ge (tgt := 37) C dX0_bringPivot_7 (by decide) (by unfold rI; omega) (by unfold rI; omega) (fun c7 => ?_) (fun c7 => ?_)
      · skip
        refine zz_iconst C dX0_bringPivot_37 ?_
        exact zz_zret C hr (by decide +kernel) dX0_bringPivot_38 ⟨0, _, Or.inr ⟨rfl, fun i9 h0 h1 => hz i9 h0 (by omega), rfl⟩, rfl, rfl⟩
      · skip
        refine zz_aload_n C 0 dX0_bringPivot_10 rfl rfl ?_
        refine zz_get C 0 (ci := 0) (k := 3) rfl rfl in_X0 (by decide) qw_169 rfl rfl dX0_bringPivot_11 ?_
        refine zz_iload_n C 2 dX0_bringPivot_14 rfl rfl ?_
        refine zz_qald C 2 rfl (by omega) (by omega) (by decide) dX0_bringPivot_15 ?_
        refine zz_iload_n C 1 dX0_bringPivot_16 rfl rfl ?_
        refine zz_lald (T := fM i8) C (3 + i8.toNat) (zz_c4 (P := fun i9 => (wBas z bh bc bo bR bs bd fC fM : va_W)[3 + i9.toNat]? = some (bR i9, lrow 8 (z.2.1 2) (fM i9))) rfl rfl rfl rfl (by omega) (by omega)) (by omega) (by omega) (by decide) dX0_bringPivot_17 ?_
        have hr18 := hrg i8 (by omega) (by omega)
        refine zz_lconst (a := 0) C dX0_bringPivot_18 (by decide +kernel) ?_
        refine zz_lcmp_eq (tgt := 31) C dX0_bringPivot_19 dX0_bringPivot_20 (by decide) (by unfold rL; omega) (by unfold rL; omega) (fun c19 => ?_) (fun c19 => ?_)
        · skip
          refine zz_iinc (ls' := [(2, .int (iI (i8 + 1))), (0, .ref bh), (1, .int (iI k8))]) C 2 dX0_bringPivot_31 rfl (by decide) rfl ?_
          refine zz_goto (tgt := 2) C dX0_bringPivot_34 (by decide) ?_
          refine zz_loc (ls' := [(0, .ref bh), (1, .int (iI k8)), (2, .int (iI (i8 + 1)))]) [1, 2, 0] rfl ?_
          exact ih2 (i8 + 1) (by omega) (fun i9 h0 h1 => by rcases (show i9 = i8 ∨ i9 < i8 by omega) with e9 | e9; (rw [e9]; exact c19); exact hz i9 h0 e9) (by omega)
        · skip
          refine zz_aload_n C 0 dX0_bringPivot_23 rfl rfl ?_
          refine zz_iload_n C 2 dX0_bringPivot_24 rfl rfl ?_
          refine zz_iload_n C 1 dX0_bringPivot_25 rfl rfl ?_
          refine zz_callV (wr := ([] : va_W)) (st := []) C (cc_X0_swapRows l z bh bc bo bR bs bd fC fM i8 k8 (by omega) (by omega) (by omega)) yk_X0_swapRows qw_662 ⟨by decide, by decide⟩ [0, 1, 2, 3, 4, 5, 6] [] rfl rfl rfl rfl (by decide) 0 0 rfl rfl rfl rfl (Nat.le_of_ble_eq_true rfl) dX0_bringPivot_26 ⟨by decide, by decide⟩ ?_
          rintro _ _ ⟨g2_26, hg2_26, rfl, rfl⟩
          refine zz_st (st' := []) rfl (zz_ws (ws' := wBas z bh bc bo bR bs bd fC g2_26) rfl ?_)
          refine zz_iconst C dX0_bringPivot_29 ?_
          exact zz_zret C hr (by decide +kernel) dX0_bringPivot_30 ⟨1, _, Or.inl ⟨rfl, i8, by omega, by omega, c19, hg2_26⟩, rfl, rfl⟩
  refine zz_loc (ls' := [(0, .ref bh), (1, .int (iI k8)), (2, .int (iI k8))]) [1, 2, 0] rfl ?_
  exact Lp2 _ k8 (by omega) (fun i9 h0 h1 => by omega) (Nat.lt_succ_self _)
abbrev po_X0_clearColumn (z : zC) (bh : Nat) (bc : Nat) (bo : Nat) (bR : Int → Nat) (bs : Int) (bd : Int) (fC : Int → Int) (fM : Int → Int → Int) (k8 : Int) (pv : Int) (N8 : Int → Int → Int) : Option Value → va_W → Prop := fun v w => ∃ (g2 : Int → Int → Int), (g2 = clr fM N8 k8 (2 * bs) bs (k8 + 1)) ∧ v = none ∧ w = wBas z bh bc bo bR bs bd fC g2
abbrev rm_X0_clearColumn : Room := { frames := 1, cells := 0, slots := 0, locals := 40 }
set_option maxHeartbeats 4000000 in
set_option maxRecDepth 100000 in
theorem cc_X0_clearColumn (l : Launch) (z : zC) (bh : Nat) (bc : Nat) (bo : Nat) (bR : Int → Nat) (bs : Int) (bd : Int) (fC : Int → Int) (fM : Int → Int → Int) (k8 : Int) (pv : Int) (N8 : Int → Int → Int) (hbs : 1 ≤ bs ∧ bs ≤ 4) (hk8 : 0 ≤ k8 ∧ k8 < bs) (hpv : -4000000000000000000 ≤ pv ∧ pv ≤ 4000000000000000000 ∧ ¬ pv = 0) (hN : ∀ r c9 : Int, 0 ≤ r → r < bs → ¬ r = k8 → k8 < c9 → c9 < 2 * bs → fM k8 k8 * fM r c9 - fM r k8 * fM k8 c9 = pv * N8 r c9) (hX : ∀ r c9 : Int, 0 ≤ r → r < bs → ¬ r = k8 → k8 < c9 → c9 < 2 * bs → -4000000000000000000 ≤ fM k8 k8 * fM r c9 - fM r k8 * fM k8 c9 ∧ fM k8 k8 * fM r c9 - fM r k8 * fM k8 c9 ≤ 4000000000000000000) : zzMet l yX0_clearColumn cX0_clearColumn 10 none rm_X0_clearColumn z [.ref bh, .int (iI k8), .long (iL pv)] (wBas z bh bc bo bR bs bd fC fM) (po_X0_clearColumn z bh bc bo bR bs bd fC fM k8 pv N8) := by
  refine zzMet.of (own := RX0) (ls0 := [(0, .ref bh), (1, .int (iI k8)), (2, .long (iL pv))]) (by decide) rfl (Nat.le_of_ble_eq_true rfl) rfl ?_
  intro p e s m below meth c A C hr hnm
  refine zz_lload_n C 2 dX0_clearColumn_0 rfl rfl ?_
  refine zz_lconst (a := 0) C dX0_clearColumn_1 (by decide +kernel) ?_
  refine zz_lcmp_ne (tgt := 7) C dX0_clearColumn_2 dX0_clearColumn_3 (by decide) (by unfold rL; omega) (by unfold rL; omega) (fun c2 => ?_) (fun c2 => ?_)
  · skip
    refine zz_aload_n C 0 dX0_clearColumn_7 rfl rfl ?_
    refine zz_get C 0 (ci := 0) (k := 3) rfl rfl in_X0 (by decide) qw_169 rfl rfl dX0_clearColumn_8 ?_
    refine zz_iload_n C 1 dX0_clearColumn_11 rfl rfl ?_
    refine zz_qald C 2 rfl (by omega) (by omega) (by decide) dX0_clearColumn_12 ?_
    refine zz_iload_n C 1 dX0_clearColumn_13 rfl rfl ?_
    refine zz_lald (T := fM k8) C (3 + k8.toNat) (zz_c4 (P := fun i9 => (wBas z bh bc bo bR bs bd fC fM : va_W)[3 + i9.toNat]? = some (bR i9, lrow 8 (z.2.1 2) (fM i9))) rfl rfl rfl rfl (by omega) (by omega)) (by omega) (by omega) (by decide) dX0_clearColumn_14 ?_
    refine zz_lstore (ls' := [(4, .long (iL (fM k8 k8))), (0, .ref bh), (1, .int (iI k8)), (2, .long (iL pv))]) C dX0_clearColumn_15 (by decide) rfl ?_
    refine zz_iconst C dX0_clearColumn_17 ?_
    refine zz_istore (ls' := [(6, .int (iI 0)), (4, .long (iL (fM k8 k8))), (0, .ref bh), (1, .int (iI k8)), (2, .long (iL pv))]) C dX0_clearColumn_18 (by decide) rfl ?_
    have Lp20 : ∀ (fu9 : Nat) (i8 : Int) (g1 : Int → Int → Int), (0 ≤ i8 ∧ i8 ≤ bs) → (g1 = clr fM N8 k8 (2 * bs) i8 (k8 + 1)) → (bs - i8).toNat < fu9 → zzW p l e rm_X0_clearColumn s m ([.ref bh, .int (iI k8), .long (iL pv)] : List Value).toArray below meth c z A 10 (MQ below (zQ z A (po_X0_clearColumn z bh bc bo bR bs bd fC fM k8 pv N8)) ([.ref bh, .int (iI k8), .long (iL pv)] : List Value).toArray s 0 0 A) 0 0 (wBas z bh bc bo bR bs bd fC g1) [(0, .ref bh), (1, .int (iI k8)), (2, .long (iL pv)), (4, .long (iL (fM k8 k8))), (6, .int (iI i8))] [] 20 := by
      intro fu9
      induction fu9 with
      | zero => intro i8 g1 hi8 hg1 h9; exact absurd h9 (Nat.not_lt_zero _)
      | succ fu9 ih20 =>
        intro i8 g1 hi8 hg1 hm20
        refine zz_iload C 4 dX0_clearColumn_20 rfl ?_
        refine zz_aload_n C 0 dX0_clearColumn_22 rfl rfl ?_
        refine zz_get C 0 (ci := 0) (k := 0) rfl rfl in_X0 (by decide) qw_160 rfl rfl dX0_clearColumn_23 ?_
        refine zz_icmp_ge (tgt := 112) C dX0_clearColumn_26 (by decide) (by unfold rI; omega) (by unfold rI; omega) (fun c26 => ?_) (fun c26 => ?_)
        · skip
          exact zz_vret C hr dX0_clearColumn_112 ⟨_, by rw [hg1, show i8 = bs by omega], rfl, rfl⟩
        · skip
          refine zz_aload_n C 0 dX0_clearColumn_29 rfl rfl ?_
          refine zz_get C 0 (ci := 0) (k := 3) rfl rfl in_X0 (by decide) qw_169 rfl rfl dX0_clearColumn_30 ?_
          refine zz_iload C 4 dX0_clearColumn_33 rfl ?_
          refine zz_qald C 2 rfl (by omega) (by omega) (by decide) dX0_clearColumn_35 ?_
          refine zz_iload_n C 1 dX0_clearColumn_36 rfl rfl ?_
          refine zz_lald (T := g1 i8) C (3 + i8.toNat) (zz_c4 (P := fun i9 => (wBas z bh bc bo bR bs bd fC g1 : va_W)[3 + i9.toNat]? = some (bR i9, lrow 8 (z.2.1 2) (g1 i9))) rfl rfl rfl rfl (by omega) (by omega)) (by omega) (by omega) (by decide) dX0_clearColumn_37 ?_
          refine zz_lstore (ls' := [(7, .long (iL (g1 i8 k8))), (0, .ref bh), (1, .int (iI k8)), (2, .long (iL pv)), (4, .long (iL (fM k8 k8))), (6, .int (iI i8))]) C dX0_clearColumn_38 (by decide) rfl ?_
          refine zz_iload_n C 2 dX0_clearColumn_40 rfl rfl ?_
          refine zz_iconst C dX0_clearColumn_41 ?_
          refine zz_iadd C dX0_clearColumn_42 ?_
          refine zz_istore (ls' := [(9, .int (iI (k8 + 1))), (7, .long (iL (g1 i8 k8))), (0, .ref bh), (1, .int (iI k8)), (2, .long (iL pv)), (4, .long (iL (fM k8 k8))), (6, .int (iI i8))]) C dX0_clearColumn_43 (by decide) rfl ?_
          have Lp45 : ∀ (fu9 : Nat) (j8 : Int) (g3 : Int → Int → Int), (k8 < j8 ∧ j8 ≤ 2 * bs) → (g3 = clr fM N8 k8 (2 * bs) i8 j8) → (2 * bs - j8).toNat < fu9 → zzW p l e rm_X0_clearColumn s m ([.ref bh, .int (iI k8), .long (iL pv)] : List Value).toArray below meth c z A 10 (MQ below (zQ z A (po_X0_clearColumn z bh bc bo bR bs bd fC fM k8 pv N8)) ([.ref bh, .int (iI k8), .long (iL pv)] : List Value).toArray s 0 0 A) 0 0 (wBas z bh bc bo bR bs bd fC g3) [(0, .ref bh), (1, .int (iI k8)), (2, .long (iL pv)), (4, .long (iL (fM k8 k8))), (6, .int (iI i8)), (7, .long (iL (g1 i8 k8))), (9, .int (iI j8))] [] 45 := by
            intro fu9
            induction fu9 with
            | zero => intro j8 g3 hj8 hg3 h9; exact absurd h9 (Nat.not_lt_zero _)
            | succ fu9 ih45 =>
              intro j8 g3 hj8 hg3 hm45
              refine zz_iload C 4 dX0_clearColumn_45 rfl ?_
              refine zz_iload_n C 1 dX0_clearColumn_47 rfl rfl ?_
              refine zz_icmp_eq (tgt := 106) C dX0_clearColumn_48 (by decide) (by unfold rI; omega) (by unfold rI; omega) (fun c48 => ?_) (fun c48 => ?_)
              · skip
                refine zz_iinc (ls' := [(6, .int (iI (i8 + 1))), (0, .ref bh), (1, .int (iI k8)), (2, .long (iL pv)), (4, .long (iL (fM k8 k8))), (7, .long (iL (g1 i8 k8))), (9, .int (iI j8))]) C 4 dX0_clearColumn_106 rfl (by decide) rfl ?_
                refine zz_goto (tgt := 20) C dX0_clearColumn_109 (by decide) ?_
                refine zz_loc (ls' := [(0, .ref bh), (1, .int (iI k8)), (2, .long (iL pv)), (4, .long (iL (fM k8 k8))), (6, .int (iI (i8 + 1)))]) [1, 2, 3, 4, 0] rfl ?_
                exact ih20 (i8 + 1) g3 (by omega) (by rw [hg3]; exact clr_next (by omega) hi8.1) (by omega)
              · skip
                refine zz_iload C 6 dX0_clearColumn_51 rfl ?_
                refine zz_iconst C dX0_clearColumn_53 ?_
                refine zz_aload_n C 0 dX0_clearColumn_54 rfl rfl ?_
                refine zz_get C 0 (ci := 0) (k := 0) rfl rfl in_X0 (by decide) qw_160 rfl rfl dX0_clearColumn_55 ?_
                refine zz_imul C dX0_clearColumn_58 ?_
                refine zz_icmp_ge (tgt := 106) C dX0_clearColumn_59 (by decide) (by unfold rI; omega) (by unfold rI; omega) (fun c59 => ?_) (fun c59 => ?_)
                · skip
                  refine zz_iinc (ls' := [(6, .int (iI (i8 + 1))), (0, .ref bh), (1, .int (iI k8)), (2, .long (iL pv)), (4, .long (iL (fM k8 k8))), (7, .long (iL (g1 i8 k8))), (9, .int (iI j8))]) C 4 dX0_clearColumn_106 rfl (by decide) rfl ?_
                  refine zz_goto (tgt := 20) C dX0_clearColumn_109 (by decide) ?_
                  refine zz_loc (ls' := [(0, .ref bh), (1, .int (iI k8)), (2, .long (iL pv)), (4, .long (iL (fM k8 k8))), (6, .int (iI (i8 + 1)))]) [1, 2, 3, 4, 0] rfl ?_
                  exact ih20 (i8 + 1) g3 (by omega) (by rw [hg3]; exact clr_next (by omega) hi8.1) (by omega)
                · skip
                  refine zz_aload_n C 0 dX0_clearColumn_62 rfl rfl ?_
                  refine zz_get C 0 (ci := 0) (k := 3) rfl rfl in_X0 (by decide) qw_169 rfl rfl dX0_clearColumn_63 ?_
                  refine zz_iload C 4 dX0_clearColumn_66 rfl ?_
                  refine zz_qald C 2 rfl (by omega) (by omega) (by decide) dX0_clearColumn_68 ?_
                  refine zz_iload C 6 dX0_clearColumn_69 rfl ?_
                  refine zz_lload C 3 dX0_clearColumn_71 rfl ?_
                  refine zz_aload_n C 0 dX0_clearColumn_73 rfl rfl ?_
                  refine zz_get C 0 (ci := 0) (k := 3) rfl rfl in_X0 (by decide) qw_169 rfl rfl dX0_clearColumn_74 ?_
                  refine zz_iload C 4 dX0_clearColumn_77 rfl ?_
                  refine zz_qald C 2 rfl (by omega) (by omega) (by decide) dX0_clearColumn_79 ?_
                  refine zz_iload C 6 dX0_clearColumn_80 rfl ?_
                  refine zz_lald (T := g3 i8) C (3 + i8.toNat) (zz_c4 (P := fun i9 => (wBas z bh bc bo bR bs bd fC g3 : va_W)[3 + i9.toNat]? = some (bR i9, lrow 8 (z.2.1 2) (g3 i9))) rfl rfl rfl rfl (by omega) (by omega)) (by omega) (by omega) (by decide) dX0_clearColumn_82 ?_
                  refine zz_lmul C dX0_clearColumn_83 ?_
                  refine zz_lload C 5 dX0_clearColumn_84 rfl ?_
                  refine zz_aload_n C 0 dX0_clearColumn_86 rfl rfl ?_
                  refine zz_get C 0 (ci := 0) (k := 3) rfl rfl in_X0 (by decide) qw_169 rfl rfl dX0_clearColumn_87 ?_
                  refine zz_iload_n C 1 dX0_clearColumn_90 rfl rfl ?_
                  refine zz_qald C 2 rfl (by omega) (by omega) (by decide) dX0_clearColumn_91 ?_
                  refine zz_iload C 6 dX0_clearColumn_92 rfl ?_
                  refine zz_lald (T := g3 k8) C (3 + k8.toNat) (zz_c4 (P := fun i9 => (wBas z bh bc bo bR bs bd fC g3 : va_W)[3 + i9.toNat]? = some (bR i9, lrow 8 (z.2.1 2) (g3 i9))) rfl rfl rfl rfl (by omega) (by omega)) (by omega) (by omega) (by decide) dX0_clearColumn_94 ?_
                  refine zz_lmul C dX0_clearColumn_95 ?_
                  refine zz_lsub C dX0_clearColumn_96 ?_
                  refine zz_lload_n C 2 dX0_clearColumn_97 rfl rfl ?_
                  have hn9 := hN i8 j8 (by omega) (by omega) (by omega) (by omega) (by omega)
                  have hx9 := hX i8 j8 (by omega) (by omega) (by omega) (by omega) (by omega)
                  have hnum : fM k8 k8 * g3 i8 j8 - g1 i8 k8 * g3 k8 j8 = fM k8 k8 * fM i8 j8 - fM i8 k8 * fM k8 j8 := by rw [hg3, hg1, clr_at, clr_c, clr_k]
                  have htd : (fM k8 k8 * g3 i8 j8 - g1 i8 k8 * g3 k8 j8).tdiv pv = N8 i8 j8 := tdiv_of (by rw [hnum]; exact hn9) hpv.2.2
                  refine zz_ldiv C dX0_clearColumn_98 (by rw [hnum]; unfold rL; omega) (by unfold rL; omega) (by rw [hnum]; omega) (by omega) ?_
                  refine zz_last (T := g3 i8) (ws' := wBas z bh bc bo bR bs bd fC (zup2 g3 i8 j8 ((((fM k8 k8) * (g3 i8 j8)) - ((g1 i8 k8) * (g3 k8 j8))).tdiv pv))) C (3 + i8.toNat) (zz_c4 (P := fun i9 => (wBas z bh bc bo bR bs bd fC g3 : va_W)[3 + i9.toNat]? = some (bR i9, lrow 8 (z.2.1 2) (g3 i9))) rfl rfl rfl rfl (by omega) (by omega)) (by omega) (by omega) (by decide) (zz_c4 (P := fun i9 => (wBas z bh bc bo bR bs bd fC g3 : va_W).set (3 + i9.toNat) (bR i9, lrow 8 (z.2.1 2) (zup (g3 i9) j8 ((((fM k8 k8) * (g3 i8 j8)) - ((g1 i8 k8) * (g3 k8 j8))).tdiv pv))) = (wBas z bh bc bo bR bs bd fC (zup2 g3 i9 j8 ((((fM k8 k8) * (g3 i8 j8)) - ((g1 i8 k8) * (g3 k8 j8))).tdiv pv)))) rfl rfl rfl rfl (by omega) (by omega)) dX0_clearColumn_99 ?_
                  refine zz_iinc (ls' := [(9, .int (iI (j8 + 1))), (0, .ref bh), (1, .int (iI k8)), (2, .long (iL pv)), (4, .long (iL (fM k8 k8))), (6, .int (iI i8)), (7, .long (iL (g1 i8 k8)))]) C 6 dX0_clearColumn_100 rfl (by decide) rfl ?_
                  refine zz_goto (tgt := 45) C dX0_clearColumn_103 (by decide) ?_
                  refine zz_loc (ls' := [(0, .ref bh), (1, .int (iI k8)), (2, .long (iL pv)), (4, .long (iL (fM k8 k8))), (6, .int (iI i8)), (7, .long (iL (g1 i8 k8))), (9, .int (iI (j8 + 1)))]) [1, 2, 3, 4, 5, 6, 0] rfl ?_
                  exact ih45 (j8 + 1) (zup2 g3 i8 j8 ((((fM k8 k8) * (g3 i8 j8)) - ((g1 i8 k8) * (g3 k8 j8))).tdiv pv)) (by omega) (by rw [htd, hg3]; exact clr_step (by omega) (by omega)) (by omega)
          refine zz_loc (ls' := [(0, .ref bh), (1, .int (iI k8)), (2, .long (iL pv)), (4, .long (iL (fM k8 k8))), (6, .int (iI i8)), (7, .long (iL (g1 i8 k8))), (9, .int (iI (k8 + 1)))]) [2, 3, 4, 5, 6, 1, 0] rfl ?_
          exact Lp45 _ (k8 + 1) g1 (by omega) hg1 (Nat.lt_succ_self _)
    refine zz_loc (ls' := [(0, .ref bh), (1, .int (iI k8)), (2, .long (iL pv)), (4, .long (iL (fM k8 k8))), (6, .int (iI 0))]) [2, 3, 4, 1, 0] rfl ?_
    exact Lp20 _ 0 fM (by omega) (clr_0 _ _ _ _) (Nat.lt_succ_self _)
  · skip
    exfalso; omega
abbrev po_X0_turnSigns (z : zC) (bh : Nat) (bc : Nat) (bo : Nat) (bR : Int → Nat) (bs : Int) (bd : Int) (fC : Int → Int) (fM : Int → Int → Int) : Option Value → va_W → Prop := fun v w => ∃ (g2 : Int → Int → Int), (g2 = trn fM bs bs bs) ∧ v = none ∧ w = wBas z bh bc bo bR bs (-bd) fC g2
abbrev rm_X0_turnSigns : Room := { frames := 1, cells := 0, slots := 0, locals := 40 }
set_option maxHeartbeats 4000000 in
set_option maxRecDepth 100000 in
theorem cc_X0_turnSigns (l : Launch) (z : zC) (bh : Nat) (bc : Nat) (bo : Nat) (bR : Int → Nat) (bs : Int) (bd : Int) (fC : Int → Int) (fM : Int → Int → Int) (hbs : 1 ≤ bs ∧ bs ≤ 4) : zzMet l yX0_turnSigns cX0_turnSigns 3 none rm_X0_turnSigns z [.ref bh] (wBas z bh bc bo bR bs bd fC fM) (po_X0_turnSigns z bh bc bo bR bs bd fC fM) := by
  refine zzMet.of (own := RX0) (ls0 := [(0, .ref bh)]) (by decide) rfl (Nat.le_of_ble_eq_true rfl) rfl ?_
  intro p e s m below meth c A C hr hnm
  refine zz_aload_n C 0 dX0_turnSigns_0 rfl rfl ?_
  refine zz_aload_n C 0 dX0_turnSigns_1 rfl rfl ?_
  refine zz_get C 0 (ci := 0) (k := 1) rfl rfl in_X0 (by decide) qw_163 rfl rfl dX0_turnSigns_2 ?_
  refine zz_lneg C dX0_turnSigns_5 ?_
  refine zz_put (ty := .long) (ws' := wBas z bh bc bo bR bs (-bd) fC fM) C 0 (ci := 0) (k := 1) rfl rfl in_X0 tyX0 tyX0_ok nmX0 (by decide) qw_163 rfl rfl (by decide +kernel) rfl rfl (Nat.le_of_ble_eq_true rfl) rfl dX0_turnSigns_6 ?_
  refine zz_iconst C dX0_turnSigns_9 ?_
  refine zz_istore_n (ls' := [(1, .int (iI 0)), (0, .ref bh)]) C dX0_turnSigns_10 rfl (by decide) rfl ?_
  have Lp11 : ∀ (fu9 : Nat) (i8 : Int) (g1 : Int → Int → Int), (0 ≤ i8 ∧ i8 ≤ bs) → (g1 = trn fM bs i8 bs) → (bs - i8).toNat < fu9 → zzW p l e rm_X0_turnSigns s m ([.ref bh] : List Value).toArray below meth c z A 3 (MQ below (zQ z A (po_X0_turnSigns z bh bc bo bR bs bd fC fM)) ([.ref bh] : List Value).toArray s 0 0 A) 0 0 (wBas z bh bc bo bR bs (-bd) fC g1) [(0, .ref bh), (1, .int (iI i8))] [] 11 := by
    intro fu9
    induction fu9 with
    | zero => intro i8 g1 hi8 hg1 h9; exact absurd h9 (Nat.not_lt_zero _)
    | succ fu9 ih11 =>
      intro i8 g1 hi8 hg1 hm11
      refine zz_iload_n C 1 dX0_turnSigns_11 rfl rfl ?_
      refine zz_aload_n C 0 dX0_turnSigns_12 rfl rfl ?_
      refine zz_get C 0 (ci := 0) (k := 0) rfl rfl in_X0 (by decide) qw_160 rfl rfl dX0_turnSigns_13 ?_
      refine zz_icmp_ge (tgt := 63) C dX0_turnSigns_16 (by decide) (by unfold rI; omega) (by unfold rI; omega) (fun c16 => ?_) (fun c16 => ?_)
      · skip
        exact zz_vret C hr dX0_turnSigns_63 ⟨_, by rw [hg1, show i8 = bs by omega], rfl, rfl⟩
      · skip
        refine zz_aload_n C 0 dX0_turnSigns_19 rfl rfl ?_
        refine zz_get C 0 (ci := 0) (k := 0) rfl rfl in_X0 (by decide) qw_160 rfl rfl dX0_turnSigns_20 ?_
        refine zz_istore_n (ls' := [(2, .int (iI bs)), (0, .ref bh), (1, .int (iI i8))]) C dX0_turnSigns_23 rfl (by decide) rfl ?_
        have Lp24 : ∀ (fu9 : Nat) (j8 : Int) (g3 : Int → Int → Int), (bs ≤ j8 ∧ j8 ≤ 2 * bs) → (g3 = trn fM bs i8 j8) → (2 * bs - j8).toNat < fu9 → zzW p l e rm_X0_turnSigns s m ([.ref bh] : List Value).toArray below meth c z A 3 (MQ below (zQ z A (po_X0_turnSigns z bh bc bo bR bs bd fC fM)) ([.ref bh] : List Value).toArray s 0 0 A) 0 0 (wBas z bh bc bo bR bs (-bd) fC g3) [(0, .ref bh), (1, .int (iI i8)), (2, .int (iI j8))] [] 24 := by
          intro fu9
          induction fu9 with
          | zero => intro j8 g3 hj8 hg3 h9; exact absurd h9 (Nat.not_lt_zero _)
          | succ fu9 ih24 =>
            intro j8 g3 hj8 hg3 hm24
            refine zz_iload_n C 2 dX0_turnSigns_24 rfl rfl ?_
            refine zz_iconst C dX0_turnSigns_25 ?_
            refine zz_aload_n C 0 dX0_turnSigns_26 rfl rfl ?_
            refine zz_get C 0 (ci := 0) (k := 0) rfl rfl in_X0 (by decide) qw_160 rfl rfl dX0_turnSigns_27 ?_
            refine zz_imul C dX0_turnSigns_30 ?_
            refine zz_icmp_ge (tgt := 57) C dX0_turnSigns_31 (by decide) (by unfold rI; omega) (by unfold rI; omega) (fun c31 => ?_) (fun c31 => ?_)
            · skip
              refine zz_iinc (ls' := [(1, .int (iI (i8 + 1))), (0, .ref bh), (2, .int (iI j8))]) C 1 dX0_turnSigns_57 rfl (by decide) rfl ?_
              refine zz_goto (tgt := 11) C dX0_turnSigns_60 (by decide) ?_
              refine zz_loc (ls' := [(0, .ref bh), (1, .int (iI (i8 + 1)))]) [1, 0] rfl ?_
              exact ih11 (i8 + 1) g3 (by omega) (by rw [hg3]; exact trn_next (by omega) hi8.1) (by omega)
            · skip
              refine zz_aload_n C 0 dX0_turnSigns_34 rfl rfl ?_
              refine zz_get C 0 (ci := 0) (k := 3) rfl rfl in_X0 (by decide) qw_169 rfl rfl dX0_turnSigns_35 ?_
              refine zz_iload_n C 1 dX0_turnSigns_38 rfl rfl ?_
              refine zz_qald C 2 rfl (by omega) (by omega) (by decide) dX0_turnSigns_39 ?_
              refine zz_iload_n C 2 dX0_turnSigns_40 rfl rfl ?_
              refine zz_aload_n C 0 dX0_turnSigns_41 rfl rfl ?_
              refine zz_get C 0 (ci := 0) (k := 3) rfl rfl in_X0 (by decide) qw_169 rfl rfl dX0_turnSigns_42 ?_
              refine zz_iload_n C 1 dX0_turnSigns_45 rfl rfl ?_
              refine zz_qald C 2 rfl (by omega) (by omega) (by decide) dX0_turnSigns_46 ?_
              refine zz_iload_n C 2 dX0_turnSigns_47 rfl rfl ?_
              refine zz_lald (T := g3 i8) C (3 + i8.toNat) (zz_c4 (P := fun i9 => (wBas z bh bc bo bR bs (-bd) fC g3 : va_W)[3 + i9.toNat]? = some (bR i9, lrow 8 (z.2.1 2) (g3 i9))) rfl rfl rfl rfl (by omega) (by omega)) (by omega) (by omega) (by decide) dX0_turnSigns_48 ?_
              refine zz_lneg C dX0_turnSigns_49 ?_
              refine zz_last (T := g3 i8) (ws' := wBas z bh bc bo bR bs (-bd) fC (zup2 g3 i8 j8 (-(g3 i8 j8)))) C (3 + i8.toNat) (zz_c4 (P := fun i9 => (wBas z bh bc bo bR bs (-bd) fC g3 : va_W)[3 + i9.toNat]? = some (bR i9, lrow 8 (z.2.1 2) (g3 i9))) rfl rfl rfl rfl (by omega) (by omega)) (by omega) (by omega) (by decide) (zz_c4 (P := fun i9 => (wBas z bh bc bo bR bs (-bd) fC g3 : va_W).set (3 + i9.toNat) (bR i9, lrow 8 (z.2.1 2) (zup (g3 i9) j8 (-(g3 i8 j8)))) = (wBas z bh bc bo bR bs (-bd) fC (zup2 g3 i9 j8 (-(g3 i8 j8))))) rfl rfl rfl rfl (by omega) (by omega)) dX0_turnSigns_50 ?_
              refine zz_iinc (ls' := [(2, .int (iI (j8 + 1))), (0, .ref bh), (1, .int (iI i8))]) C 2 dX0_turnSigns_51 rfl (by decide) rfl ?_
              refine zz_goto (tgt := 24) C dX0_turnSigns_54 (by decide) ?_
              refine zz_loc (ls' := [(0, .ref bh), (1, .int (iI i8)), (2, .int (iI (j8 + 1)))]) [1, 2, 0] rfl ?_
              exact ih24 (j8 + 1) (zup2 g3 i8 j8 (-(g3 i8 j8))) (by omega) (by rw [hg3]; exact trn_step hi8.1 (by omega)) (by omega)
        refine zz_loc (ls' := [(0, .ref bh), (1, .int (iI i8)), (2, .int (iI bs))]) [1, 2, 0] rfl ?_
        exact Lp24 _ bs g1 (by omega) hg1 (Nat.lt_succ_self _)
  refine zz_loc (ls' := [(0, .ref bh), (1, .int (iI 0))]) [1, 0] rfl ?_
  exact Lp11 _ 0 fM (by omega) (trn_0 _ _) (Nat.lt_succ_self _)
abbrev po_X0_choose (z : zC) (bh : Nat) (bc : Nat) (bo : Nat) (bR : Int → Nat) (bs : Int) (bd : Int) (fC : Int → Int) (fM : Int → Int → Int) (eh : Nat) (eo : Nat) (ep : Nat) (ew : Nat) (eR : Int → Nat) (ed : Int) (eb : Int) (ec : Int) (fE : Int → Int → Int) (fQ : Int → Int) (fO : Int → Int) (m8 : Int) (n8 : Int) : Option Value → va_W → Prop := fun v w => ∃ (gC : Int → Int), (∀ c9 : Int, 0 ≤ c9 → c9 < ec → bitZ m8 c9 = 1 → gC (cntB m8 c9) = c9) ∧ v = none ∧ w = (wBas z bh bc bo bR n8 bd gC fM) ++ (wEq z eh eo ep ew eR ed eb ec fE fQ fO)
abbrev rm_X0_choose : Room := { frames := 1, cells := 0, slots := 0, locals := 40 }
set_option maxHeartbeats 4000000 in
set_option maxRecDepth 100000 in
theorem cc_X0_choose (l : Launch) (z : zC) (bh : Nat) (bc : Nat) (bo : Nat) (bR : Int → Nat) (bs : Int) (bd : Int) (fC : Int → Int) (fM : Int → Int → Int) (eh : Nat) (eo : Nat) (ep : Nat) (ew : Nat) (eR : Int → Nat) (ed : Int) (eb : Int) (ec : Int) (fE : Int → Int → Int) (fQ : Int → Int) (fO : Int → Int) (m8 : Int) (n8 : Int) (hec : 0 ≤ ec ∧ ec ≤ 10) (hm8 : 0 ≤ m8 ∧ m8 < 1024) (hct : cntB m8 ec = n8 ∧ n8 ≤ 4) : zzMet l yX0_choose cX0_choose 4 none rm_X0_choose z [.ref bh, .ref eh, .int (iI m8)] ((wBas z bh bc bo bR bs bd fC fM) ++ (wEq z eh eo ep ew eR ed eb ec fE fQ fO)) (po_X0_choose z bh bc bo bR bs bd fC fM eh eo ep ew eR ed eb ec fE fQ fO m8 n8) := by
  refine zzMet.of (own := RX0) (ls0 := [(0, .ref bh), (1, .ref eh), (2, .int (iI m8))]) (by decide) rfl (Nat.le_of_ble_eq_true rfl) rfl ?_
  intro p e s m below meth c A C hr hnm
  refine zz_aload_n C 0 dX0_choose_0 rfl rfl ?_
  refine zz_iconst C dX0_choose_1 ?_
  refine zz_put (ty := .int) (ws' := (wBas z bh bc bo bR 0 bd fC fM) ++ (wEq z eh eo ep ew eR ed eb ec fE fQ fO)) C 0 (ci := 0) (k := 0) rfl rfl in_X0 tyX0 tyX0_ok nmX0 (by decide) qw_160 rfl rfl (by decide +kernel) rfl rfl (Nat.le_of_ble_eq_true rfl) rfl dX0_choose_2 ?_
  refine zz_iconst C dX0_choose_5 ?_
  refine zz_istore_n (ls' := [(3, .int (iI 0)), (0, .ref bh), (1, .ref eh), (2, .int (iI m8))]) C dX0_choose_6 rfl (by decide) rfl ?_
  have Lp7 : ∀ (fu9 : Nat) (k : Int) (gs : Int) (gC : Int → Int), (0 ≤ k ∧ k ≤ ec) → (gs = cntB m8 k) → (∀ c9 : Int, 0 ≤ c9 → c9 < k → bitZ m8 c9 = 1 → gC (cntB m8 c9) = c9) → (ec - k).toNat < fu9 → zzW p l e rm_X0_choose s m ([.ref bh, .ref eh, .int (iI m8)] : List Value).toArray below meth c z A 4 (MQ below (zQ z A (po_X0_choose z bh bc bo bR bs bd fC fM eh eo ep ew eR ed eb ec fE fQ fO m8 n8)) ([.ref bh, .ref eh, .int (iI m8)] : List Value).toArray s 0 0 A) 0 0 ((wBas z bh bc bo bR gs bd gC fM) ++ (wEq z eh eo ep ew eR ed eb ec fE fQ fO)) [(0, .ref bh), (1, .ref eh), (2, .int (iI m8)), (3, .int (iI k))] [] 7 := by
    intro fu9
    induction fu9 with
    | zero => intro k gs gC hk hgs hgC h9; exact absurd h9 (Nat.not_lt_zero _)
    | succ fu9 ih7 =>
      intro k gs gC hk hgs hgC hm7
      have hb9 := bitZ_rng m8 k
      have hs9 := cntB_succ m8 hk.1
      have hp9 := cntB_pos (m := m8) hk.1
      have hm9 : k < ec → cntB m8 (k + 1) ≤ cntB m8 ec := fun h => cntB_mono (by omega) (by omega)
      have hbd : m8 / 2 ^ k.toNat % 2 = bitZ m8 k := rfl
      refine zz_iload_n C 3 dX0_choose_7 rfl rfl ?_
      refine zz_aload_n C 1 dX0_choose_8 rfl rfl ?_
      refine zz_get C 7 (ci := 3) (k := 2) rfl rfl in_X3 (by decide) qw_130 rfl rfl dX0_choose_9 ?_
      refine zz_icmp_ge (tgt := 58) C dX0_choose_12 (by decide) (by unfold rI; omega) (by unfold rI; omega) (fun c12 => ?_) (fun c12 => ?_)
      · skip
        exact zz_vret C hr dX0_choose_58 ⟨_, fun c9 h0 h1 => hgC c9 h0 (by omega), rfl, by rw [show gs = n8 by rw [hgs, show k = ec by omega]; exact hct.1]⟩
      · skip
        refine zz_iload_n C 2 dX0_choose_15 rfl rfl ?_
        refine zz_iload_n C 3 dX0_choose_16 rfl rfl ?_
        refine zz_ishr C (by unfold rI; omega) (by omega) dX0_choose_17 ?_
        refine zz_iconst C dX0_choose_18 ?_
        refine zz_iand1 C dX0_choose_19 ?_
        refine zz_iconst C dX0_choose_20 ?_
        refine zz_icmp_ne (tgt := 52) C dX0_choose_21 (by decide) (by unfold rI; omega) (by unfold rI; omega) (fun c21 => ?_) (fun c21 => ?_)
        · skip
          have hC9 : ∀ c9 : Int, 0 ≤ c9 → c9 < k + 1 → bitZ m8 c9 = 1 → gC (cntB m8 c9) = c9 := fun c9 h0 h1 h2 => by rcases (show c9 = k ∨ c9 < k by omega) with e9 | e9; (rw [e9] at h2; omega); exact hgC c9 h0 e9 h2
          refine zz_iinc (ls' := [(3, .int (iI (k + 1))), (0, .ref bh), (1, .ref eh), (2, .int (iI m8))]) C 3 dX0_choose_52 rfl (by decide) rfl ?_
          refine zz_goto (tgt := 7) C dX0_choose_55 (by decide) ?_
          refine zz_loc (ls' := [(0, .ref bh), (1, .ref eh), (2, .int (iI m8)), (3, .int (iI (k + 1)))]) [1, 2, 3, 0] rfl ?_
          exact ih7 (k + 1) gs gC (by omega) (by omega) hC9 (by omega)
        · skip
          refine zz_aload_n C 0 dX0_choose_24 rfl rfl ?_
          refine zz_get C 0 (ci := 0) (k := 0) rfl rfl in_X0 (by decide) qw_160 rfl rfl dX0_choose_25 ?_
          refine zz_iconst C dX0_choose_28 ?_
          refine zz_icmp_ge (tgt := 52) C dX0_choose_29 (by decide) (by unfold rI; omega) (by unfold rI; omega) (fun c29 => ?_) (fun c29 => ?_)
          · skip
            exfalso; have := hm9 (by omega); omega
          · skip
            have hC9 : ∀ c9 : Int, 0 ≤ c9 → c9 < k + 1 → bitZ m8 c9 = 1 → zup gC gs k (cntB m8 c9) = c9 := fun c9 h0 h1 h2 => choose_step hgC hgs hk.1 c9 h0 h1 h2
            refine zz_aload_n C 0 dX0_choose_32 rfl rfl ?_
            refine zz_get C 0 (ci := 0) (k := 2) rfl rfl in_X0 (by decide) qw_166 rfl rfl dX0_choose_33 ?_
            refine zz_aload_n C 0 dX0_choose_36 rfl rfl ?_
            refine zz_get C 0 (ci := 0) (k := 0) rfl rfl in_X0 (by decide) qw_160 rfl rfl dX0_choose_37 ?_
            refine zz_iload_n C 3 dX0_choose_40 rfl rfl ?_
            refine zz_iast (ws' := (wBas z bh bc bo bR gs bd (zup gC gs k) fM) ++ (wEq z eh eo ep ew eR ed eb ec fE fQ fO)) C 1 rfl (by omega) (by omega) (by decide) rfl dX0_choose_41 ?_
            refine zz_aload_n C 0 dX0_choose_42 rfl rfl ?_
            refine zz_dup C dX0_choose_43 rfl ?_
            refine zz_get C 0 (ci := 0) (k := 0) rfl rfl in_X0 (by decide) qw_160 rfl rfl dX0_choose_44 ?_
            refine zz_iconst C dX0_choose_47 ?_
            refine zz_iadd C dX0_choose_48 ?_
            refine zz_put (ty := .int) (ws' := (wBas z bh bc bo bR (gs + 1) bd (zup gC gs k) fM) ++ (wEq z eh eo ep ew eR ed eb ec fE fQ fO)) C 0 (ci := 0) (k := 0) rfl rfl in_X0 tyX0 tyX0_ok nmX0 (by decide) qw_160 rfl rfl (by decide +kernel) rfl rfl (Nat.le_of_ble_eq_true rfl) rfl dX0_choose_49 ?_
            refine zz_iinc (ls' := [(3, .int (iI (k + 1))), (0, .ref bh), (1, .ref eh), (2, .int (iI m8))]) C 3 dX0_choose_52 rfl (by decide) rfl ?_
            refine zz_goto (tgt := 7) C dX0_choose_55 (by decide) ?_
            refine zz_loc (ls' := [(0, .ref bh), (1, .ref eh), (2, .int (iI m8)), (3, .int (iI (k + 1)))]) [1, 2, 3, 0] rfl ?_
            exact ih7 (k + 1) (gs + 1) (zup gC gs k) (by omega) (by omega) hC9 (by omega)
  refine zz_loc (ls' := [(0, .ref bh), (1, .ref eh), (2, .int (iI m8)), (3, .int (iI 0))]) [1, 2, 3, 0] rfl ?_
  exact Lp7 _ 0 0 fC (by omega) rfl (fun c9 h0 h1 => by omega) (Nat.lt_succ_self _)
abbrev po_X0_fill (z : zC) (bh : Nat) (bc : Nat) (bo : Nat) (bR : Int → Nat) (bs : Int) (bd : Int) (fC : Int → Int) (fM : Int → Int → Int) (eh : Nat) (eo : Nat) (ep : Nat) (ew : Nat) (eR : Int → Nat) (ed : Int) (eb : Int) (ec : Int) (fE : Int → Int → Int) (fQ : Int → Int) (fO : Int → Int) : Option Value → va_W → Prop := fun v w => ∃ (g2 : Int → Int → Int), (∀ r c9 : Int, 0 ≤ r → r < bs → 0 ≤ c9 → c9 < bs → g2 r c9 = fE (fC c9) (r + 1) ∧ g2 r (bs + c9) = if r = c9 then 1 else 0) ∧ v = none ∧ w = (wBas z bh bc bo bR bs bd fC g2) ++ (wEq z eh eo ep ew eR ed eb ec fE fQ fO)
abbrev rm_X0_fill : Room := { frames := 1, cells := 0, slots := 0, locals := 40 }
set_option maxHeartbeats 4000000 in
set_option maxRecDepth 100000 in
theorem cc_X0_fill (l : Launch) (z : zC) (bh : Nat) (bc : Nat) (bo : Nat) (bR : Int → Nat) (bs : Int) (bd : Int) (fC : Int → Int) (fM : Int → Int → Int) (eh : Nat) (eo : Nat) (ep : Nat) (ew : Nat) (eR : Int → Nat) (ed : Int) (eb : Int) (ec : Int) (fE : Int → Int → Int) (fQ : Int → Int) (fO : Int → Int) (hbs : 1 ≤ bs ∧ bs ≤ 4) (hfC : ∀ c9 : Int, 0 ≤ c9 → c9 < bs → 0 ≤ fC c9 ∧ fC c9 < 10) : zzMet l yX0_fill cX0_fill 4 none rm_X0_fill z [.ref bh, .ref eh] ((wBas z bh bc bo bR bs bd fC fM) ++ (wEq z eh eo ep ew eR ed eb ec fE fQ fO)) (po_X0_fill z bh bc bo bR bs bd fC fM eh eo ep ew eR ed eb ec fE fQ fO) := by
  refine zzMet.of (own := RX0) (ls0 := [(0, .ref bh), (1, .ref eh)]) (by decide) rfl (Nat.le_of_ble_eq_true rfl) rfl ?_
  intro p e s m below meth c A C hr hnm
  refine zz_iconst C dX0_fill_0 ?_
  refine zz_istore_n (ls' := [(2, .int (iI 0)), (0, .ref bh), (1, .ref eh)]) C dX0_fill_1 rfl (by decide) rfl ?_
  have Lp2 : ∀ (fu9 : Nat) (i8 : Int) (g1 : Int → Int → Int), (0 ≤ i8 ∧ i8 ≤ bs) → (∀ r c9 : Int, 0 ≤ r → r < i8 → 0 ≤ c9 → c9 < bs → g1 r c9 = fE (fC c9) (r + 1) ∧ g1 r (bs + c9) = if r = c9 then 1 else 0) → (bs - i8).toNat < fu9 → zzW p l e rm_X0_fill s m ([.ref bh, .ref eh] : List Value).toArray below meth c z A 4 (MQ below (zQ z A (po_X0_fill z bh bc bo bR bs bd fC fM eh eo ep ew eR ed eb ec fE fQ fO)) ([.ref bh, .ref eh] : List Value).toArray s 0 0 A) 0 0 ((wBas z bh bc bo bR bs bd fC g1) ++ (wEq z eh eo ep ew eR ed eb ec fE fQ fO)) [(0, .ref bh), (1, .ref eh), (2, .int (iI i8))] [] 2 := by
    intro fu9
    induction fu9 with
    | zero => intro i8 g1 hi8 hg1 h9; exact absurd h9 (Nat.not_lt_zero _)
    | succ fu9 ih2 =>
      intro i8 g1 hi8 hg1 hm2
      refine zz_iload_n C 2 dX0_fill_2 rfl rfl ?_
      refine zz_aload_n C 0 dX0_fill_3 rfl rfl ?_
      refine zz_get C 0 (ci := 0) (k := 0) rfl rfl in_X0 (by decide) qw_160 rfl rfl dX0_fill_4 ?_
      refine zz_icmp_ge (tgt := 78) C dX0_fill_7 (by decide) (by unfold rI; omega) (by unfold rI; omega) (fun c7 => ?_) (fun c7 => ?_)
      · skip
        exact zz_vret C hr dX0_fill_78 ⟨_, fun r c9 h0 h1 h2 h3 => hg1 r c9 h0 (by omega) h2 h3, rfl, rfl⟩
      · skip
        refine zz_iconst C dX0_fill_10 ?_
        refine zz_istore_n (ls' := [(3, .int (iI 0)), (0, .ref bh), (1, .ref eh), (2, .int (iI i8))]) C dX0_fill_11 rfl (by decide) rfl ?_
        have Lp12 : ∀ (fu9 : Nat) (j8 : Int) (g3 : Int → Int → Int), (0 ≤ j8 ∧ j8 ≤ bs) → (∀ r c9 : Int, 0 ≤ r → 0 ≤ c9 → c9 < bs → (r < i8 ∨ (r = i8 ∧ c9 < j8)) → g3 r c9 = fE (fC c9) (r + 1) ∧ g3 r (bs + c9) = if r = c9 then 1 else 0) → (bs - j8).toNat < fu9 → zzW p l e rm_X0_fill s m ([.ref bh, .ref eh] : List Value).toArray below meth c z A 4 (MQ below (zQ z A (po_X0_fill z bh bc bo bR bs bd fC fM eh eo ep ew eR ed eb ec fE fQ fO)) ([.ref bh, .ref eh] : List Value).toArray s 0 0 A) 0 0 ((wBas z bh bc bo bR bs bd fC g3) ++ (wEq z eh eo ep ew eR ed eb ec fE fQ fO)) [(0, .ref bh), (1, .ref eh), (2, .int (iI i8)), (3, .int (iI j8))] [] 12 := by
          intro fu9
          induction fu9 with
          | zero => intro j8 g3 hj8 hg3 h9; exact absurd h9 (Nat.not_lt_zero _)
          | succ fu9 ih12 =>
            intro j8 g3 hj8 hg3 hm12
            refine zz_iload_n C 3 dX0_fill_12 rfl rfl ?_
            refine zz_aload_n C 0 dX0_fill_13 rfl rfl ?_
            refine zz_get C 0 (ci := 0) (k := 0) rfl rfl in_X0 (by decide) qw_160 rfl rfl dX0_fill_14 ?_
            refine zz_icmp_ge (tgt := 72) C dX0_fill_17 (by decide) (by unfold rI; omega) (by unfold rI; omega) (fun c17 => ?_) (fun c17 => ?_)
            · skip
              refine zz_iinc (ls' := [(2, .int (iI (i8 + 1))), (0, .ref bh), (1, .ref eh), (3, .int (iI j8))]) C 2 dX0_fill_72 rfl (by decide) rfl ?_
              refine zz_goto (tgt := 2) C dX0_fill_75 (by decide) ?_
              refine zz_loc (ls' := [(0, .ref bh), (1, .ref eh), (2, .int (iI (i8 + 1)))]) [1, 2, 0] rfl ?_
              exact ih2 (i8 + 1) g3 (by omega) (fun r c9 h0 h1 h2 h3 => hg3 r c9 h0 h2 h3 (by omega)) (by omega)
            · skip
              refine zz_aload_n C 0 dX0_fill_20 rfl rfl ?_
              refine zz_get C 0 (ci := 0) (k := 3) rfl rfl in_X0 (by decide) qw_169 rfl rfl dX0_fill_21 ?_
              refine zz_iload_n C 2 dX0_fill_24 rfl rfl ?_
              refine zz_qald C 2 rfl (by omega) (by omega) (by decide) dX0_fill_25 ?_
              refine zz_iload_n C 3 dX0_fill_26 rfl rfl ?_
              refine zz_aload_n C 1 dX0_fill_27 rfl rfl ?_
              refine zz_get C 7 (ci := 3) (k := 3) rfl rfl in_X3 (by decide) qw_133 rfl rfl dX0_fill_28 ?_
              refine zz_aload_n C 0 dX0_fill_31 rfl rfl ?_
              refine zz_get C 0 (ci := 0) (k := 2) rfl rfl in_X0 (by decide) qw_166 rfl rfl dX0_fill_32 ?_
              refine zz_iload_n C 3 dX0_fill_35 rfl rfl ?_
              have hf36 := hfC j8 (by omega) (by omega)
              refine zz_iald C 1 rfl (by omega) (by omega) (by decide) dX0_fill_36 ?_
              refine zz_qald C 8 rfl (by omega) (by omega) (by decide) dX0_fill_37 ?_
              refine zz_iload_n C 2 dX0_fill_38 rfl rfl ?_
              refine zz_iconst C dX0_fill_39 ?_
              refine zz_iadd C dX0_fill_40 ?_
              refine zz_lald (T := fE (fC j8)) C (11 + (fC j8).toNat) (zz_c10 (P := fun i9 => ((wBas z bh bc bo bR bs bd fC g3) ++ (wEq z eh eo ep ew eR ed eb ec fE fQ fO) : va_W)[11 + i9.toNat]? = some (eR i9, lrow 5 (z.2.1 2) (fE i9))) rfl rfl rfl rfl rfl rfl rfl rfl rfl rfl (by omega) (by omega)) (by omega) (by omega) (by decide) dX0_fill_41 ?_
              refine zz_last (T := g3 i8) (ws' := (wBas z bh bc bo bR bs bd fC (zup2 g3 i8 j8 (fE (fC j8) (i8 + 1)))) ++ (wEq z eh eo ep ew eR ed eb ec fE fQ fO)) C (3 + i8.toNat) (zz_c4 (P := fun i9 => ((wBas z bh bc bo bR bs bd fC g3) ++ (wEq z eh eo ep ew eR ed eb ec fE fQ fO) : va_W)[3 + i9.toNat]? = some (bR i9, lrow 8 (z.2.1 2) (g3 i9))) rfl rfl rfl rfl (by omega) (by omega)) (by omega) (by omega) (by decide) (zz_c4 (P := fun i9 => ((wBas z bh bc bo bR bs bd fC g3) ++ (wEq z eh eo ep ew eR ed eb ec fE fQ fO) : va_W).set (3 + i9.toNat) (bR i9, lrow 8 (z.2.1 2) (zup (g3 i9) j8 (fE (fC j8) (i8 + 1)))) = ((wBas z bh bc bo bR bs bd fC (zup2 g3 i9 j8 (fE (fC j8) (i8 + 1)))) ++ (wEq z eh eo ep ew eR ed eb ec fE fQ fO))) rfl rfl rfl rfl (by omega) (by omega)) dX0_fill_42 ?_
              refine zz_aload_n C 0 dX0_fill_43 rfl rfl ?_
              refine zz_get C 0 (ci := 0) (k := 3) rfl rfl in_X0 (by decide) qw_169 rfl rfl dX0_fill_44 ?_
              refine zz_iload_n C 2 dX0_fill_47 rfl rfl ?_
              refine zz_qald C 2 rfl (by omega) (by omega) (by decide) dX0_fill_48 ?_
              refine zz_aload_n C 0 dX0_fill_49 rfl rfl ?_
              refine zz_get C 0 (ci := 0) (k := 0) rfl rfl in_X0 (by decide) qw_160 rfl rfl dX0_fill_50 ?_
              refine zz_iload_n C 3 dX0_fill_53 rfl rfl ?_
              refine zz_iadd C dX0_fill_54 ?_
              refine zz_iload_n C 2 dX0_fill_55 rfl rfl ?_
              refine zz_iload_n C 3 dX0_fill_56 rfl rfl ?_
              refine zz_icmp_ne (tgt := 64) C dX0_fill_57 (by decide) (by unfold rI; omega) (by unfold rI; omega) (fun c57 => ?_) (fun c57 => ?_)
              · skip
                have hv9 : (0 : Int) = if i8 = j8 then 1 else 0 := by rw [if_neg (by omega)]
                refine zz_lconst (a := 0) C dX0_fill_64 (by decide +kernel) ?_
                refine zz_last (T := (zup2 g3 i8 j8 (fE (fC j8) (i8 + 1))) i8) (ws' := (wBas z bh bc bo bR bs bd fC (zup2 (zup2 g3 i8 j8 (fE (fC j8) (i8 + 1))) i8 (bs + j8) 0)) ++ (wEq z eh eo ep ew eR ed eb ec fE fQ fO)) C (3 + i8.toNat) (zz_c4 (P := fun i9 => ((wBas z bh bc bo bR bs bd fC (zup2 g3 i8 j8 (fE (fC j8) (i8 + 1)))) ++ (wEq z eh eo ep ew eR ed eb ec fE fQ fO) : va_W)[3 + i9.toNat]? = some (bR i9, lrow 8 (z.2.1 2) ((zup2 g3 i8 j8 (fE (fC j8) (i8 + 1))) i9))) rfl rfl rfl rfl (by omega) (by omega)) (by omega) (by omega) (by decide) (zz_c4 (P := fun i9 => ((wBas z bh bc bo bR bs bd fC (zup2 g3 i8 j8 (fE (fC j8) (i8 + 1)))) ++ (wEq z eh eo ep ew eR ed eb ec fE fQ fO) : va_W).set (3 + i9.toNat) (bR i9, lrow 8 (z.2.1 2) (zup ((zup2 g3 i8 j8 (fE (fC j8) (i8 + 1))) i9) (bs + j8) 0)) = ((wBas z bh bc bo bR bs bd fC (zup2 (zup2 g3 i8 j8 (fE (fC j8) (i8 + 1))) i9 (bs + j8) 0)) ++ (wEq z eh eo ep ew eR ed eb ec fE fQ fO))) rfl rfl rfl rfl (by omega) (by omega)) dX0_fill_65 ?_
                refine zz_iinc (ls' := [(3, .int (iI (j8 + 1))), (0, .ref bh), (1, .ref eh), (2, .int (iI i8))]) C 3 dX0_fill_66 rfl (by decide) rfl ?_
                refine zz_goto (tgt := 12) C dX0_fill_69 (by decide) ?_
                refine zz_loc (ls' := [(0, .ref bh), (1, .ref eh), (2, .int (iI i8)), (3, .int (iI (j8 + 1)))]) [1, 2, 3, 0] rfl ?_
                exact ih12 (j8 + 1) (zup2 (zup2 g3 i8 j8 (fE (fC j8) (i8 + 1))) i8 (bs + j8) 0) (by omega) (fill_step hg3 (by omega) (by omega) hv9) (by omega)
              · skip
                have hv9 : (1 : Int) = if i8 = j8 then 1 else 0 := by rw [if_pos (by omega)]
                refine zz_lconst (a := 1) C dX0_fill_60 (by decide +kernel) ?_
                refine zz_goto (tgt := 65) C dX0_fill_61 (by decide) ?_
                refine zz_last (T := (zup2 g3 i8 j8 (fE (fC j8) (i8 + 1))) i8) (ws' := (wBas z bh bc bo bR bs bd fC (zup2 (zup2 g3 i8 j8 (fE (fC j8) (i8 + 1))) i8 (bs + j8) 1)) ++ (wEq z eh eo ep ew eR ed eb ec fE fQ fO)) C (3 + i8.toNat) (zz_c4 (P := fun i9 => ((wBas z bh bc bo bR bs bd fC (zup2 g3 i8 j8 (fE (fC j8) (i8 + 1)))) ++ (wEq z eh eo ep ew eR ed eb ec fE fQ fO) : va_W)[3 + i9.toNat]? = some (bR i9, lrow 8 (z.2.1 2) ((zup2 g3 i8 j8 (fE (fC j8) (i8 + 1))) i9))) rfl rfl rfl rfl (by omega) (by omega)) (by omega) (by omega) (by decide) (zz_c4 (P := fun i9 => ((wBas z bh bc bo bR bs bd fC (zup2 g3 i8 j8 (fE (fC j8) (i8 + 1)))) ++ (wEq z eh eo ep ew eR ed eb ec fE fQ fO) : va_W).set (3 + i9.toNat) (bR i9, lrow 8 (z.2.1 2) (zup ((zup2 g3 i8 j8 (fE (fC j8) (i8 + 1))) i9) (bs + j8) 1)) = ((wBas z bh bc bo bR bs bd fC (zup2 (zup2 g3 i8 j8 (fE (fC j8) (i8 + 1))) i9 (bs + j8) 1)) ++ (wEq z eh eo ep ew eR ed eb ec fE fQ fO))) rfl rfl rfl rfl (by omega) (by omega)) dX0_fill_65 ?_
                refine zz_iinc (ls' := [(3, .int (iI (j8 + 1))), (0, .ref bh), (1, .ref eh), (2, .int (iI i8))]) C 3 dX0_fill_66 rfl (by decide) rfl ?_
                refine zz_goto (tgt := 12) C dX0_fill_69 (by decide) ?_
                refine zz_loc (ls' := [(0, .ref bh), (1, .ref eh), (2, .int (iI i8)), (3, .int (iI (j8 + 1)))]) [1, 2, 3, 0] rfl ?_
                exact ih12 (j8 + 1) (zup2 (zup2 g3 i8 j8 (fE (fC j8) (i8 + 1))) i8 (bs + j8) 1) (by omega) (fill_step hg3 (by omega) (by omega) hv9) (by omega)
        refine zz_loc (ls' := [(0, .ref bh), (1, .ref eh), (2, .int (iI i8)), (3, .int (iI 0))]) [1, 2, 3, 0] rfl ?_
        exact Lp12 _ 0 g1 (by omega) (fun r c9 h0 h2 h3 h4 => hg1 r c9 h0 (by omega) h2 h3) (Nat.lt_succ_self _)
  refine zz_loc (ls' := [(0, .ref bh), (1, .ref eh), (2, .int (iI 0))]) [1, 2, 0] rfl ?_
  exact Lp2 _ 0 fM (by omega) (fun r c9 h0 h1 => by omega) (Nat.lt_succ_self _)
