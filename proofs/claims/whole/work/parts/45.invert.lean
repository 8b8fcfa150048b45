theorem sig_k (i k : Int) : sig i k k = i := by
  unfold sig
  split
  · rename_i h; exact h
  · rw [if_pos rfl]
def isInv (T : Int) (fE : Int → Int → Int) (gC : Int → Int) (D : Int) (M : Int → Int → Int) : Prop :=
  (1 ≤ D ∧ D ≤ 23040000) ∧ (∀ i j : Int, 0 ≤ i → i < T → T ≤ j → j < 2 * T → -332554 ≤ M i j ∧ M i j ≤ 332554) ∧ (∀ q j : Int, 0 ≤ q → q < T → 0 ≤ j → j < T → zsum (fun i => fE (gC i) (q + 1) * M i (T + j)) T = D * (if q = j then 1 else 0)) ∧ ¬ mK T (orig T fE gC) = 0
theorem inv_rng {m n T : Int} {gC : Int → Int} (hn : 0 ≤ n) (hT : cntB m n = T) (hC : ∀ c9 : Int, 0 ≤ c9 → c9 < n → bitZ m c9 = 1 → gC (cntB m c9) = c9) : ∀ c : Int, 0 ≤ c → c < T → 0 ≤ gC c ∧ gC c < n := by
  intro c c0 c1
  obtain ⟨x, x0, x1, x2, x3⟩ := cntB_hit2 (m := m) hn c0 (by rw [hT]; exact c1)
  have := hC x x0 x1 x2
  rw [x3] at this
  omega
theorem inv_fill {T : Int} {fE g : Int → Int → Int} {gC : Int → Int} (h : ∀ r c9 : Int, 0 ≤ r → r < T → 0 ≤ c9 → c9 < T → g r c9 = fE (gC c9) (r + 1) ∧ g r (T + c9) = if r = c9 then 1 else 0) : ∀ i j : Int, 0 ≤ i → i < T → 0 ≤ j → j < 2 * T → g i j = orig T fE gC i j := by
  intro i j i0 i1 j0 j1
  unfold orig
  rw [if_pos ⟨i0, i1⟩]
  by_cases e : j < T
  · rw [if_pos ⟨j0, e⟩]; exact (h i j i0 i1 j0 e).1
  · rw [if_neg (by omega)]
    have := (h i (j - T) i0 i1 (by omega) (by omega)).2
    rw [show T + (j - T) = j by omega] at this
    rw [this]
    by_cases q : i = j - T
    · rw [if_pos q, if_pos (by omega)]
    · rw [if_neg q, if_neg (by omega)]
theorem gau_pv {T k pv : Int} {O a M : Int → Int → Int} (h : gau T O k a M pv) (h0 : 0 ≤ k) (hk : k ≤ T) (h4 : T ≤ 4) : -311040000 ≤ pv ∧ pv ≤ 311040000 := by
  rw [h.1.1]
  by_cases e : k = 0
  · rw [e, mK0]; omega
  · have := FK_piv a (k := k - 1) (by omega) (by omega)
    rw [show k - 1 + 1 = k by omega] at this
    rw [← this]
    exact FK_rng (fun r c _ _ _ => (h.2.2.1 r c).1) (by omega) (by omega) (by omega) (by omega)
theorem inv_num {T k pv : Int} {O a M : Int → Int → Int} (h : gau T O k a M pv) (h0 : 0 ≤ k) (hk : k < T) (h4 : T ≤ 4) {r c : Int} (r0 : 0 ≤ r) (r1 : r < T) (c0 : k < c) (c1 : c < 2 * T) : -4000000000000000000 ≤ M k k * M r c - M r k * M k c ∧ M k k * M r c - M r k * M k c ≤ 4000000000000000000 := by
  have a1 := mul_abs (gau_rng h h0 (by omega) h4 (i := k) (j := k) h0 hk (by omega) (by omega)) (gau_rng h h0 (by omega) h4 (i := r) (j := c) r0 r1 (by omega) c1)
  have a2 := mul_abs (gau_rng h h0 (by omega) h4 (i := r) (j := k) r0 r1 (by omega) (by omega)) (gau_rng h h0 (by omega) h4 (i := k) (j := c) h0 hk (by omega) c1)
  omega
theorem inv_eq {T pv : Int} {fE a M : Int → Int → Int} {gC : Int → Int} (h : gau T (orig T fE gC) T a M pv) (h1 : 1 ≤ T) (h4 : T ≤ 4) {q j : Int} (q0 : 0 ≤ q) (q1 : q < T) (j0 : 0 ≤ j) (j1 : j < T) : zsum (fun i => fE (gC i) (q + 1) * M i (T + j)) T = pv * (if q = j then 1 else 0) := by
  have := gau_end h h1 h4 q0 q1 (j := T + j) (by omega) (by omega)
  have e : orig T fE gC q (T + j) = if q = j then 1 else 0 := by
    unfold orig
    rw [if_pos ⟨q0, q1⟩, if_neg (by omega)]
    by_cases w : q = j
    · rw [if_pos w, if_pos (by omega)]
    · rw [if_neg w, if_neg (by omega)]
  rw [e] at this
  rw [← this]
  refine zsum_congr (fun i i0 i1 => ?_)
  show fE (gC i) (q + 1) * M i (T + j) = orig T fE gC q i * M i (T + j)
  unfold orig
  rw [if_pos ⟨q0, q1⟩, if_pos ⟨i0, i1⟩]
theorem inv_pos {T n pv : Int} {fE a M : Int → Int → Int} {gC : Int → Int} (h : gau T (orig T fE gC) T a M pv) (h1 : 1 ≤ T) (h4 : T ≤ 4) (hC : ∀ c : Int, 0 ≤ c → c < T → 0 ≤ gC c ∧ gC c < n) (hE4 : T = 4 → ∀ c : Int, 0 ≤ c → c < n → fE c 1 * fE c 1 + fE c 2 * fE c 2 + fE c 3 * fE c 3 + fE c 4 * fE c 4 ≤ 4800) (hp : 0 ≤ pv) : isInv T fE gC pv M := by
  have b := gau_bd h h1 h4 (fun e => by subst e; exact orig_sq hC (hE4 rfl)) (fun e => by subst e; exact orig_sq1)
  have := h.1.2
  exact ⟨⟨by omega, b.1.2⟩, b.2, fun q j q0 q1 j0 j1 => inv_eq h h1 h4 q0 q1 j0 j1, gau_det h⟩
theorem zsum_neg (f : Int → Int) (n : Int) : zsum (fun i => -f i) n = -zsum f n := by
  have : ∀ m : Nat, sumN (fun i => -f i) m = -sumN f m := by
    intro m
    induction m with
    | zero => rfl
    | succ m ih => show sumN (fun i => -f i) m + -f m = -(sumN f m + f m); rw [ih]; omega
  exact this n.toNat
theorem inv_neg {T n pv : Int} {fE a M N : Int → Int → Int} {gC : Int → Int} (h : gau T (orig T fE gC) T a M pv) (h1 : 1 ≤ T) (h4 : T ≤ 4) (hC : ∀ c : Int, 0 ≤ c → c < T → 0 ≤ gC c ∧ gC c < n) (hE4 : T = 4 → ∀ c : Int, 0 ≤ c → c < n → fE c 1 * fE c 1 + fE c 2 * fE c 2 + fE c 3 * fE c 3 + fE c 4 * fE c 4 ≤ 4800) (hp : pv < 0) (hN : N = trn M T T T) : isInv T fE gC (-pv) N := by
  have b := gau_bd h h1 h4 (fun e => by subst e; exact orig_sq hC (hE4 rfl)) (fun e => by subst e; exact orig_sq1)
  have e : ∀ i j : Int, 0 ≤ i → i < T → T ≤ j → j < 2 * T → N i j = -M i j := fun i j i0 i1 j0 j1 => by rw [hN]; unfold trn; rw [if_pos (by omega)]
  refine ⟨⟨by omega, by have := b.1.1; omega⟩, fun i j i0 i1 j0 j1 => by rw [e i j i0 i1 j0 j1]; have := b.2 i j i0 i1 j0 j1; omega, fun q j q0 q1 j0 j1 => ?_, gau_det h⟩
  have := inv_eq h h1 h4 q0 q1 j0 j1
  rw [Int.neg_mul, ← this, ← zsum_neg]
  refine zsum_congr (fun i i0 i1 => ?_)
  show fE (gC i) (q + 1) * N i (T + j) = -(fE (gC i) (q + 1) * M i (T + j))
  rw [e i (T + j) i0 i1 (by omega) (by omega), Int.mul_neg]

abbrev po_X0_invert (z : zC) (bh : Nat) (bc : Nat) (bo : Nat) (bR : Int → Nat) (bs : Int) (bd : Int) (fC : Int → Int) (fM : Int → Int → Int) (eh : Nat) (eo : Nat) (ep : Nat) (ew : Nat) (eR : Int → Nat) (ed : Int) (eb : Int) (ec : Int) (fE : Int → Int → Int) (fQ : Int → Int) (fO : Int → Int) (m8 : Int) : Option Value → va_W → Prop := fun v w => ∃ (q : Int), ∃ (gd : Int), ∃ (gC : Int → Int), ∃ (gM : Int → Int → Int), (∀ c9 : Int, 0 ≤ c9 → c9 < ec → bitZ m8 c9 = 1 → gC (cntB m8 c9) = c9) ∧ ((q = 1 ∧ isInv ed fE gC gd gM) ∨ (q = 0 ∧ mK ed (orig ed fE gC) = 0)) ∧ v = some (Value.int (iI q)) ∧ w = (wBas z bh bc bo bR ed gd gC gM) ++ (wEq z eh eo ep ew eR ed eb ec fE fQ fO)
abbrev rm_X0_invert : Room := { frames := 3, cells := 0, slots := 0, locals := 87 }
set_option maxHeartbeats 4000000 in
set_option maxRecDepth 100000 in
theorem cc_X0_invert (l : Launch) (z : zC) (bh : Nat) (bc : Nat) (bo : Nat) (bR : Int → Nat) (bs : Int) (bd : Int) (fC : Int → Int) (fM : Int → Int → Int) (eh : Nat) (eo : Nat) (ep : Nat) (ew : Nat) (eR : Int → Nat) (ed : Int) (eb : Int) (ec : Int) (fE : Int → Int → Int) (fQ : Int → Int) (fO : Int → Int) (m8 : Int) (hed : 1 ≤ ed ∧ ed ≤ 4) (hec : 0 ≤ ec ∧ ec ≤ 10) (hm8 : 0 ≤ m8 ∧ m8 < 1024) (hct : cntB m8 ec = ed) (hE : ∀ c d : Int, 0 ≤ c → c < ec → 1 ≤ d → d ≤ ed → -60 ≤ fE c d ∧ fE c d ≤ 60) (hE4 : ed = 4 → ∀ c : Int, 0 ≤ c → c < ec → fE c 1 * fE c 1 + fE c 2 * fE c 2 + fE c 3 * fE c 3 + fE c 4 * fE c 4 ≤ 4800) : zzMet l yX0_invert cX0_invert 6 (Option.some .boolean) rm_X0_invert z [.ref bh, .ref eh, .int (iI m8)] ((wBas z bh bc bo bR bs bd fC fM) ++ (wEq z eh eo ep ew eR ed eb ec fE fQ fO)) (po_X0_invert z bh bc bo bR bs bd fC fM eh eo ep ew eR ed eb ec fE fQ fO m8) := by
  refine zzMet.of (own := RX0) (ls0 := [(0, .ref bh), (1, .ref eh), (2, .int (iI m8))]) (by decide) rfl (Nat.le_of_ble_eq_true rfl) rfl ?_
  intro p e s m below meth c A C hr hnm
  refine zz_aload_n C 0 dX0_invert_0 rfl rfl ?_
  refine zz_aload_n C 1 dX0_invert_1 rfl rfl ?_
  refine zz_iload_n C 2 dX0_invert_2 rfl rfl ?_
  refine zz_callV (wr := ([] : va_W)) (st := []) C (cc_X0_choose l z bh bc bo bR bs bd fC fM eh eo ep ew eR ed eb ec fE fQ fO m8 ed (by omega) (by omega) (by omega)) yk_X0_choose qw_650 ⟨by decide, by decide⟩ [0, 1, 2, 3, 4, 5, 6, 7, 8, 9, 10, 11, 12, 13, 14, 15, 16, 17, 18, 19, 20] [] rfl rfl rfl rfl (by decide) 0 0 rfl rfl rfl rfl (Nat.le_of_ble_eq_true rfl) dX0_invert_3 ⟨by decide, by decide⟩ ?_
  rintro _ _ ⟨gC_3, hgC_3, rfl, rfl⟩
  refine zz_st (st' := []) rfl (zz_ws (ws' := (wBas z bh bc bo bR ed bd gC_3 fM) ++ (wEq z eh eo ep ew eR ed eb ec fE fQ fO)) rfl ?_)
  have hC3 : ∀ c : Int, 0 ≤ c → c < ed → 0 ≤ gC_3 c ∧ gC_3 c < ec := inv_rng hec.1 hct hgC_3
  have hO3 := orig_rng hC3 hE
  refine zz_aload_n C 0 dX0_invert_6 rfl rfl ?_
  refine zz_aload_n C 1 dX0_invert_7 rfl rfl ?_
  refine zz_callV (wr := ([] : va_W)) (st := []) C (cc_X0_fill l z bh bc bo bR ed bd gC_3 fM eh eo ep ew eR ed eb ec fE fQ fO (by omega) (fun c9 h0 h1 => by have := hC3 c9 h0 h1; omega)) yk_X0_fill qw_654 ⟨by decide, by decide⟩ [0, 1, 2, 3, 4, 5, 6, 7, 8, 9, 10, 11, 12, 13, 14, 15, 16, 17, 18, 19, 20] [] rfl rfl rfl rfl (by decide) 0 0 rfl rfl rfl rfl (Nat.le_of_ble_eq_true rfl) dX0_invert_8 ⟨by decide, by decide⟩ ?_
  rintro _ _ ⟨g2_8, hg2_8, rfl, rfl⟩
  refine zz_st (st' := []) rfl (zz_ws (ws' := (wBas z bh bc bo bR ed bd gC_3 g2_8) ++ (wEq z eh eo ep ew eR ed eb ec fE fQ fO)) rfl ?_)
  refine zz_lconst (a := 1) C dX0_invert_11 (by decide +kernel) ?_
  refine zz_lstore_n (ls' := [(3, .long (iL 1)), (0, .ref bh), (1, .ref eh), (2, .int (iI m8))]) C dX0_invert_12 rfl (by decide) rfl ?_
  refine zz_iconst C dX0_invert_13 ?_
  refine zz_istore (ls' := [(5, .int (iI 0)), (3, .long (iL 1)), (0, .ref bh), (1, .ref eh), (2, .int (iI m8))]) C dX0_invert_14 (by decide) rfl ?_
  have Lp16 : ∀ (fu9 : Nat) (k : Int) (pv : Int) (a8 : Int → Int → Int) (gM : Int → Int → Int), (0 ≤ k ∧ k ≤ ed) → (gau ed (orig ed fE gC_3) k a8 gM pv) → (ed - k).toNat < fu9 → zzW p l e rm_X0_invert s m ([.ref bh, .ref eh, .int (iI m8)] : List Value).toArray below meth c z A 6 (MQ below (zQ z A (po_X0_invert z bh bc bo bR bs bd fC fM eh eo ep ew eR ed eb ec fE fQ fO m8)) ([.ref bh, .ref eh, .int (iI m8)] : List Value).toArray s 0 0 A) 0 0 ((wBas z bh bc bo bR ed bd gC_3 gM) ++ (wEq z eh eo ep ew eR ed eb ec fE fQ fO)) [(0, .ref bh), (1, .ref eh), (2, .int (iI m8)), (3, .long (iL pv)), (5, .int (iI k))] [] 16 := by
    intro fu9
    induction fu9 with
    | zero => intro k pv a8 gM hk hG h9; exact absurd h9 (Nat.not_lt_zero _)
    | succ fu9 ih16 =>
      intro k pv a8 gM hk hG hm16
      have hpr := gau_pv hG hk.1 hk.2 hed.2
      refine zz_iload C 4 dX0_invert_16 rfl ?_
      refine zz_aload_n C 0 dX0_invert_18 rfl rfl ?_
      refine zz_get C 0 (ci := 0) (k := 0) rfl rfl in_X0 (by decide) qw_160 rfl rfl dX0_invert_19 ?_
      refine zz_icmp_ge (tgt := 66) C dX0_invert_22 (by decide) (by unfold rI; omega) (by unfold rI; omega) (fun c22 => ?_) (fun c22 => ?_)
      · skip
        refine zz_aload_n C 0 dX0_invert_66 rfl rfl ?_
        refine zz_lload_n C 3 dX0_invert_67 rfl rfl ?_
        refine zz_put (ty := .long) (ws' := (wBas z bh bc bo bR ed pv gC_3 gM) ++ (wEq z eh eo ep ew eR ed eb ec fE fQ fO)) C 0 (ci := 0) (k := 1) rfl rfl in_X0 tyX0 tyX0_ok nmX0 (by decide) qw_163 rfl rfl (by decide +kernel) rfl rfl (Nat.le_of_ble_eq_true rfl) rfl dX0_invert_68 ?_
        refine zz_aload_n C 0 dX0_invert_71 rfl rfl ?_
        refine zz_get C 0 (ci := 0) (k := 1) rfl rfl in_X0 (by decide) qw_163 rfl rfl dX0_invert_72 ?_
        refine zz_lconst (a := 0) C dX0_invert_75 (by decide +kernel) ?_
        refine zz_lcmp_ge (tgt := 84) C dX0_invert_76 dX0_invert_77 (by decide) (by unfold rL; omega) (by unfold rL; omega) (fun c76 => ?_) (fun c76 => ?_)
        · skip
          have hke : k = ed := by omega
          rw [hke] at hG
          refine zz_iconst C dX0_invert_84 ?_
          exact zz_zret C hr (by decide +kernel) dX0_invert_85 ⟨1, _, _, _, hgC_3, Or.inl ⟨rfl, by first | exact inv_pos hG hed.1 hed.2 hC3 hE4 c76 | exact inv_neg hG hed.1 hed.2 hC3 hE4 c76 hg2_81⟩, rfl, rfl⟩
        · skip
          have hke : k = ed := by omega
          rw [hke] at hG
          refine zz_aload_n C 0 dX0_invert_80 rfl rfl ?_
          refine zz_callV (wr := wEq z eh eo ep ew eR ed eb ec fE fQ fO) (st := []) C (cc_X0_turnSigns l z bh bc bo bR ed pv gC_3 gM (by omega)) yk_X0_turnSigns qw_670 ⟨by decide, by decide⟩ [0, 1, 2, 3, 4, 5, 6] [7, 8, 9, 10, 11, 12, 13, 14, 15, 16, 17, 18, 19, 20] rfl rfl rfl rfl (by decide) 0 0 rfl rfl rfl rfl (Nat.le_of_ble_eq_true rfl) dX0_invert_81 ⟨by decide, by decide⟩ ?_
          rintro _ _ ⟨g2_81, hg2_81, rfl, rfl⟩
          refine zz_st (st' := []) rfl (zz_ws (ws' := (wEq z eh eo ep ew eR ed eb ec fE fQ fO) ++ (wBas z bh bc bo bR ed (-pv) gC_3 g2_81)) rfl ?_)
          refine zz_iconst C dX0_invert_84 ?_
          refine zz_sub (ws' := (wBas z bh bc bo bR ed (-pv) gC_3 g2_81) ++ (wEq z eh eo ep ew eR ed eb ec fE fQ fO)) [14, 15, 16, 17, 18, 19, 20, 0, 1, 2, 3, 4, 5, 6, 7, 8, 9, 10, 11, 12, 13] rfl rfl ?_
          exact zz_zret C hr (by decide +kernel) dX0_invert_85 ⟨1, _, _, _, hgC_3, Or.inl ⟨rfl, by first | exact inv_pos hG hed.1 hed.2 hC3 hE4 c76 | exact inv_neg hG hed.1 hed.2 hC3 hE4 c76 hg2_81⟩, rfl, rfl⟩
      · skip
        refine zz_lload_n C 3 dX0_invert_25 rfl rfl ?_
        refine zz_lconst (a := 0) C dX0_invert_26 (by decide +kernel) ?_
        refine zz_lcmp_eq (tgt := 40) C dX0_invert_27 dX0_invert_28 (by decide) (by unfold rL; omega) (by unfold rL; omega) (fun c27 => ?_) (fun c27 => ?_)
        · skip
          exfalso; exact hG.1.2 c27
        · skip
          refine zz_aload_n C 0 dX0_invert_31 rfl rfl ?_
          refine zz_iload C 4 dX0_invert_32 rfl ?_
          refine zz_callV (wr := wEq z eh eo ep ew eR ed eb ec fE fQ fO) (st := []) C (cc_X0_bringPivot l z bh bc bo bR ed bd gC_3 gM k (by omega) (by omega) (fun r h0 h1 => by have := gau_rng hG hk.1 hk.2 hed.2 (i := r) (j := k) h0 h1 (by omega) (by omega); omega)) yk_X0_bringPivot qw_658 ⟨by decide, by decide⟩ [0, 1, 2, 3, 4, 5, 6] [7, 8, 9, 10, 11, 12, 13, 14, 15, 16, 17, 18, 19, 20] rfl rfl rfl rfl (by decide) 0 0 rfl rfl rfl rfl (Nat.le_of_ble_eq_true rfl) dX0_invert_34 ⟨by decide, by decide⟩ ?_
          rintro _ _ ⟨q_34, g2_34, hq_34, rfl, rfl⟩
          refine zz_st (st' := [.int (iI q_34)]) rfl (zz_ws (ws' := (wEq z eh eo ep ew eR ed eb ec fE fQ fO) ++ (wBas z bh bc bo bR ed bd gC_3 g2_34)) rfl ?_)
          refine zz_if_ne (tgt := 42) C dX0_invert_37 (by decide) (by unfold rI; omega) (fun c37 => ?_) (fun c37 => ?_)
          · skip
            obtain ⟨i9, hi0, hi1, hi2, hgs⟩ := (hq_34.resolve_right (fun h => by omega)).2
            have hG1 := gau_swap hG hk.1 hi0 hi1 hed.2
            rw [← hgs] at hG1
            have hpz : ¬ g2_34 k k = 0 := by rw [hgs, swp_sig _ _ _ _ _ _ ⟨by omega, by omega⟩]; rw [sig_k]; exact hi2
            clear hq_34
            have hG9 := gau_clear hG1 hk.1 (by omega) hed.2 hpz
            refine zz_aload_n C 0 dX0_invert_42 rfl rfl ?_
            refine zz_iload C 4 dX0_invert_43 rfl ?_
            refine zz_lload_n C 3 dX0_invert_45 rfl rfl ?_
            refine zz_callV (wr := wEq z eh eo ep ew eR ed eb ec fE fQ fO) (st := []) C (cc_X0_clearColumn l z bh bc bo bR ed bd gC_3 g2_34 k pv (FK (k + 1) (swp a8 i9 k (2 * ed))) (by omega) (by omega) ⟨by omega, by omega, hG1.1.2⟩ (fun r c9 h0 h1 h2 h3 h4 => gau_syl hG1 hk.1 (by omega) hed.2 h0 h1 h2 h3 h4) (fun r c9 h0 h1 h2 h3 h4 => inv_num hG1 hk.1 (by omega) hed.2 h0 h1 h3 h4)) yk_X0_clearColumn qw_666 ⟨by decide, by decide⟩ [14, 15, 16, 17, 18, 19, 20] [0, 1, 2, 3, 4, 5, 6, 7, 8, 9, 10, 11, 12, 13] rfl rfl rfl rfl (by decide) 0 0 rfl rfl rfl rfl (Nat.le_of_ble_eq_true rfl) dX0_invert_46 ⟨by decide, by decide⟩ ?_
            rintro _ _ ⟨g2_46, hg2_46, rfl, rfl⟩
            refine zz_st (st' := []) rfl (zz_ws (ws' := (wEq z eh eo ep ew eR ed eb ec fE fQ fO) ++ (wBas z bh bc bo bR ed bd gC_3 g2_46)) rfl ?_)
            refine zz_aload_n C 0 dX0_invert_49 rfl rfl ?_
            refine zz_get C 14 (ci := 0) (k := 3) rfl rfl in_X0 (by decide) qw_169 rfl rfl dX0_invert_50 ?_
            refine zz_iload C 4 dX0_invert_53 rfl ?_
            refine zz_qald C 16 rfl (by omega) (by omega) (by decide) dX0_invert_55 ?_
            refine zz_iload C 4 dX0_invert_56 rfl ?_
            refine zz_lald (T := g2_46 k) C (17 + k.toNat) (zz_c4 (P := fun i9 => ((wEq z eh eo ep ew eR ed eb ec fE fQ fO) ++ (wBas z bh bc bo bR ed bd gC_3 g2_46) : va_W)[17 + i9.toNat]? = some (bR i9, lrow 8 (z.2.1 2) (g2_46 i9))) rfl rfl rfl rfl (by omega) (by omega)) (by omega) (by omega) (by decide) dX0_invert_58 ?_
            refine zz_lstore_n (ls' := [(3, .long (iL (g2_46 k k))), (0, .ref bh), (1, .ref eh), (2, .int (iI m8)), (5, .int (iI k))]) C dX0_invert_59 rfl (by decide) rfl ?_
            refine zz_iinc (ls' := [(5, .int (iI (k + 1))), (3, .long (iL (g2_46 k k))), (0, .ref bh), (1, .ref eh), (2, .int (iI m8))]) C 4 dX0_invert_60 rfl (by decide) rfl ?_
            refine zz_goto (tgt := 16) C dX0_invert_63 (by decide) ?_
            refine zz_sub (ws' := (wBas z bh bc bo bR ed bd gC_3 g2_46) ++ (wEq z eh eo ep ew eR ed eb ec fE fQ fO)) [14, 15, 16, 17, 18, 19, 20, 0, 1, 2, 3, 4, 5, 6, 7, 8, 9, 10, 11, 12, 13] rfl rfl ?_
            refine zz_loc (ls' := [(0, .ref bh), (1, .ref eh), (2, .int (iI m8)), (3, .long (iL (g2_46 k k))), (5, .int (iI (k + 1)))]) [2, 3, 4, 1, 0] rfl ?_
            exact ih16 (k + 1) (g2_46 k k) (swp a8 i9 k (2 * ed)) g2_46 (by omega) (by rw [hg2_46, clr_k]; exact hG9) (by omega)
          · skip
            obtain ⟨hz, hgz⟩ := (hq_34.resolve_left (fun h => by omega)).2
            clear hq_34
            refine zz_iconst C dX0_invert_40 ?_
            refine zz_sub (ws' := (wBas z bh bc bo bR ed bd gC_3 g2_34) ++ (wEq z eh eo ep ew eR ed eb ec fE fQ fO)) [14, 15, 16, 17, 18, 19, 20, 0, 1, 2, 3, 4, 5, 6, 7, 8, 9, 10, 11, 12, 13] rfl rfl ?_
            exact zz_zret C hr (by decide +kernel) dX0_invert_41 ⟨0, _, _, _, hgC_3, Or.inr ⟨rfl, gau_none hG hk.1 (by omega) hed.2 hz⟩, rfl, rfl⟩
  refine zz_loc (ls' := [(0, .ref bh), (1, .ref eh), (2, .int (iI m8)), (3, .long (iL 1)), (5, .int (iI 0))]) [2, 3, 4, 1, 0] rfl ?_
  exact Lp16 _ 0 1 (orig ed fE gC_3) g2_8 (by omega) (gau_0 (inv_fill hg2_8) hO3) (Nat.lt_succ_self _)
