/-- the entries of the equations, their prices -/
def plE (pd pb : Int) (fR fT : Int → Int) (col date : Int) : Int := if col < pb then plYield pb fT col date else if col - pb = date then -20 else if col - pb = date - 1 then 20 + plAt pd fR date else 0
def plQ (pb : Int) (fT : Int → Int) (col : Int) : Int := if col < pb then plTerm pb fT col 3 else if col = pb then 20 else 0
theorem rd_step1 {pd pb date k : Int} {fT : Int → Int} {f g : Int → Int → Int} (h : ∀ c9 d9 : Int, 0 ≤ c9 → c9 < pb + pd + 1 → g c9 d9 = if d9 = date ∧ c9 < k then plYield pb fT c9 date else f c9 d9) (_ : 0 ≤ k) : ∀ c9 d9 : Int, 0 ≤ c9 → c9 < pb + pd + 1 → zup2 g k date (plYield pb fT k date) c9 d9 = if d9 = date ∧ c9 < k + 1 then plYield pb fT c9 date else f c9 d9 := by
  intro c d h0 h1
  by_cases e : c = k ∧ d = date
  · obtain ⟨rfl, rfl⟩ := e
    rw [zup2_eq, if_pos ⟨rfl, by omega⟩]
  · rw [zup2_ne e, h c d h0 h1]
    by_cases q : d = date ∧ c < k
    · rw [if_pos q, if_pos (by omega)]
    · rw [if_neg q, if_neg (by omega)]
theorem rd_step2 {pd pb date j : Int} {fT : Int → Int} {f g : Int → Int → Int} (h : ∀ c9 d9 : Int, 0 ≤ c9 → c9 < pb + pd + 1 → g c9 d9 = if d9 = date ∧ c9 < pb then plYield pb fT c9 date else if d9 = date ∧ c9 < pb + j then 0 else f c9 d9) (_ : 0 ≤ j) : ∀ c9 d9 : Int, 0 ≤ c9 → c9 < pb + pd + 1 → zup2 g (pb + j) date 0 c9 d9 = if d9 = date ∧ c9 < pb then plYield pb fT c9 date else if d9 = date ∧ c9 < pb + (j + 1) then 0 else f c9 d9 := by
  intro c d h0 h1
  by_cases e : c = pb + j ∧ d = date
  · obtain ⟨rfl, rfl⟩ := e
    rw [zup2_eq, if_neg (by omega), if_pos ⟨rfl, by omega⟩]
  · rw [zup2_ne e, h c d h0 h1]
    by_cases q1 : d = date ∧ c < pb
    · rw [if_pos q1, if_pos q1]
    · rw [if_neg q1, if_neg q1]
      by_cases q : d = date ∧ c < pb + j
      · rw [if_pos q, if_pos (by omega)]
      · rw [if_neg q, if_neg (by omega)]
theorem rd_end {pd pb date j : Int} {fR fT : Int → Int} {f g : Int → Int → Int} (h : ∀ c9 d9 : Int, 0 ≤ c9 → c9 < pb + pd + 1 → g c9 d9 = if d9 = date ∧ c9 < pb then plYield pb fT c9 date else if d9 = date ∧ c9 < pb + j then 0 else f c9 d9) (hj : 0 ≤ j ∧ j ≤ pd + 1) (hj2 : pd < j) (hd : 1 ≤ date ∧ date ≤ pd) (_ : 0 ≤ pb) (_ : pd ≤ 4) : ∀ c9 d9 : Int, 0 ≤ c9 → c9 < pb + pd + 1 → zup2 (zup2 g (pb + date) date (-20)) (pb + date - 1) date (20 + plAt pd fR date) c9 d9 = if d9 = date then plE pd pb fR fT c9 date else f c9 d9 := by
  intro c d h0 h1
  have hj3 : j = pd + 1 := by omega
  subst hj3
  unfold plE
  by_cases e1 : c = pb + date - 1 ∧ d = date
  · obtain ⟨rfl, rfl⟩ := e1
    rw [zup2_eq, if_pos rfl, if_neg (by omega), if_neg (by omega), if_pos (by omega)]
  · rw [zup2_ne e1]
    by_cases e2 : c = pb + date ∧ d = date
    · obtain ⟨rfl, rfl⟩ := e2
      rw [zup2_eq, if_pos rfl, if_neg (by omega), if_pos (by omega)]
    · rw [zup2_ne e2, h c d h0 h1]
      by_cases q : d = date
      · rw [if_pos q]
        by_cases q1 : c < pb
        · rw [if_pos ⟨q, q1⟩, if_pos q1]
        · rw [if_neg (by omega), if_pos (by omega), if_neg q1, if_neg (by omega), if_neg (by omega)]
      · rw [if_neg (by omega), if_neg (by omega), if_neg q]

abbrev po_X3_readDate (z : zC) (eh : Nat) (eo : Nat) (ep : Nat) (ew : Nat) (eR : Int → Nat) (fE : Int → Int → Int) (fQ : Int → Int) (fO : Int → Int) (ph : Nat) (pa : Nat) (pr : Nat) (pt : Nat) (pd : Int) (pb : Int) (fP : Int → Int) (fR : Int → Int) (fT : Int → Int) (date : Int) : Option Value → va_W → Prop := fun v w => ∃ (g2 : Int → Int → Int), (∀ c9 d9 : Int, 0 ≤ c9 → c9 < pb + pd + 1 → g2 c9 d9 = if d9 = date then plE pd pb fR fT c9 date else fE c9 d9) ∧ v = none ∧ w = (wEq z eh eo ep ew eR pd pb (pb + pd + 1) g2 fQ fO) ++ (wPlan z ph pa pr pt pd pb fP fR fT)
abbrev rm_X3_readDate : Room := { frames := 4, cells := 0, slots := 0, locals := 108 }
set_option maxHeartbeats 4000000 in
set_option maxRecDepth 100000 in
theorem cc_X3_readDate (l : Launch) (z : zC) (eh : Nat) (eo : Nat) (ep : Nat) (ew : Nat) (eR : Int → Nat) (fE : Int → Int → Int) (fQ : Int → Int) (fO : Int → Int) (ph : Nat) (pa : Nat) (pr : Nat) (pt : Nat) (pd : Int) (pb : Int) (fP : Int → Int) (fR : Int → Int) (fT : Int → Int) (date : Int) (hpd : 1 ≤ pd ∧ pd ≤ 4) (hpb : 0 ≤ pb ∧ pb ≤ 5) (hfR : ∀ i : Int, 0 ≤ fR i ∧ fR i ≤ 6) (hfT : ∀ i : Int, 0 ≤ fT i ∧ fT i ≤ 200) (hda : 1 ≤ date ∧ date ≤ pd) : zzMet l yX3_readDate cX3_readDate 4 none rm_X3_readDate z [.ref eh, .ref ph, .int (iI date)] ((wEq z eh eo ep ew eR pd pb (pb + pd + 1) fE fQ fO) ++ (wPlan z ph pa pr pt pd pb fP fR fT)) (po_X3_readDate z eh eo ep ew eR fE fQ fO ph pa pr pt pd pb fP fR fT date) := by
  refine zzMet.of (own := RX3) (ls0 := [(0, .ref eh), (1, .ref ph), (2, .int (iI date))]) (by decide) rfl (Nat.le_of_ble_eq_true rfl) rfl ?_
  intro p e s m below meth c A C hr hnm
  refine zz_iconst C dX3_readDate_0 ?_
  refine zz_istore_n (ls' := [(3, .int (iI 0)), (0, .ref eh), (1, .ref ph), (2, .int (iI date))]) C dX3_readDate_1 rfl (by decide) rfl ?_
  have Lp2 : ∀ (fu9 : Nat) (k : Int) (g1 : Int → Int → Int), (0 ≤ k ∧ k ≤ pb) → (∀ c9 d9 : Int, 0 ≤ c9 → c9 < pb + pd + 1 → g1 c9 d9 = if d9 = date ∧ c9 < k then plYield pb fT c9 date else fE c9 d9) → (pb - k).toNat < fu9 → zzW p l e rm_X3_readDate s m ([.ref eh, .ref ph, .int (iI date)] : List Value).toArray below meth c z A 4 (MQ below (zQ z A (po_X3_readDate z eh eo ep ew eR fE fQ fO ph pa pr pt pd pb fP fR fT date)) ([.ref eh, .ref ph, .int (iI date)] : List Value).toArray s 0 0 A) 0 0 ((wEq z eh eo ep ew eR pd pb (pb + pd + 1) g1 fQ fO) ++ (wPlan z ph pa pr pt pd pb fP fR fT)) [(0, .ref eh), (1, .ref ph), (2, .int (iI date)), (3, .int (iI k))] [] 2 := by
    intro fu9
    induction fu9 with
    | zero => intro k g1 hk hg1 h9; exact absurd h9 (Nat.not_lt_zero _)
    | succ fu9 ih2 =>
      intro k g1 hk hg1 hm2
      refine zz_iload_n C 3 dX3_readDate_2 rfl rfl ?_
      refine zz_aload_n C 0 dX3_readDate_3 rfl rfl ?_
      refine zz_get C 0 (ci := 3) (k := 1) rfl rfl in_X3 (by decide) qw_124 rfl rfl dX3_readDate_4 ?_
      refine zz_icmp_ge (tgt := 31) C dX3_readDate_7 (by decide) (by unfold rI; omega) (by unfold rI; omega) (fun c7 => ?_) (fun c7 => ?_)
      · skip
        refine zz_iconst C dX3_readDate_31 ?_
        refine zz_istore_n (ls' := [(3, .int (iI 0)), (0, .ref eh), (1, .ref ph), (2, .int (iI date))]) C dX3_readDate_32 rfl (by decide) rfl ?_
        have Lp33 : ∀ (fu9 : Nat) (j : Int) (g2 : Int → Int → Int), (0 ≤ j ∧ j ≤ pd + 1) → (∀ c9 d9 : Int, 0 ≤ c9 → c9 < pb + pd + 1 → g2 c9 d9 = if d9 = date ∧ c9 < pb then plYield pb fT c9 date else if d9 = date ∧ c9 < pb + j then 0 else fE c9 d9) → (pd + 1 - j).toNat < fu9 → zzW p l e rm_X3_readDate s m ([.ref eh, .ref ph, .int (iI date)] : List Value).toArray below meth c z A 4 (MQ below (zQ z A (po_X3_readDate z eh eo ep ew eR fE fQ fO ph pa pr pt pd pb fP fR fT date)) ([.ref eh, .ref ph, .int (iI date)] : List Value).toArray s 0 0 A) 0 0 ((wEq z eh eo ep ew eR pd pb (pb + pd + 1) g2 fQ fO) ++ (wPlan z ph pa pr pt pd pb fP fR fT)) [(0, .ref eh), (1, .ref ph), (2, .int (iI date)), (3, .int (iI j))] [] 33 := by
          intro fu9
          induction fu9 with
          | zero => intro j g2 hj hg2 h9; exact absurd h9 (Nat.not_lt_zero _)
          | succ fu9 ih33 =>
            intro j g2 hj hg2 hm33
            refine zz_iload_n C 3 dX3_readDate_33 rfl rfl ?_
            refine zz_aload_n C 0 dX3_readDate_34 rfl rfl ?_
            refine zz_get C 0 (ci := 3) (k := 0) rfl rfl in_X3 (by decide) qw_120 rfl rfl dX3_readDate_35 ?_
            refine zz_icmp_gt (tgt := 61) C dX3_readDate_38 (by decide) (by unfold rI; omega) (by unfold rI; omega) (fun c38 => ?_) (fun c38 => ?_)
            · skip
              refine zz_aload_n C 0 dX3_readDate_61 rfl rfl ?_
              refine zz_get C 0 (ci := 3) (k := 3) rfl rfl in_X3 (by decide) qw_131 rfl rfl dX3_readDate_62 ?_
              refine zz_aload_n C 0 dX3_readDate_65 rfl rfl ?_
              refine zz_get C 0 (ci := 3) (k := 1) rfl rfl in_X3 (by decide) qw_124 rfl rfl dX3_readDate_66 ?_
              refine zz_iload_n C 2 dX3_readDate_69 rfl rfl ?_
              refine zz_iadd C dX3_readDate_70 ?_
              refine zz_qald C 1 rfl (by omega) (by omega) (by decide) dX3_readDate_71 ?_
              refine zz_iload_n C 2 dX3_readDate_72 rfl rfl ?_
              refine zz_ldc2 (a := (-20)) C qw_632 (by decide +kernel) dX3_readDate_73 ?_
              refine zz_last (T := g2 (pb + date)) (ws' := (wEq z eh eo ep ew eR pd pb (pb + pd + 1) (zup2 g2 (pb + date) date (-20)) fQ fO) ++ (wPlan z ph pa pr pt pd pb fP fR fT)) C (4 + (pb + date).toNat) (zz_c10 (P := fun i9 => ((wEq z eh eo ep ew eR pd pb (pb + pd + 1) g2 fQ fO) ++ (wPlan z ph pa pr pt pd pb fP fR fT) : va_W)[4 + i9.toNat]? = some (eR i9, lrow 5 (z.2.1 2) (g2 i9))) rfl rfl rfl rfl rfl rfl rfl rfl rfl rfl (by omega) (by omega)) (by omega) (by omega) (by decide) (zz_c10 (P := fun i9 => ((wEq z eh eo ep ew eR pd pb (pb + pd + 1) g2 fQ fO) ++ (wPlan z ph pa pr pt pd pb fP fR fT) : va_W).set (4 + i9.toNat) (eR i9, lrow 5 (z.2.1 2) (zup (g2 i9) date (-20))) = ((wEq z eh eo ep ew eR pd pb (pb + pd + 1) (zup2 g2 i9 date (-20)) fQ fO) ++ (wPlan z ph pa pr pt pd pb fP fR fT))) rfl rfl rfl rfl rfl rfl rfl rfl rfl rfl (by omega) (by omega)) dX3_readDate_76 ?_
              refine zz_aload_n C 0 dX3_readDate_77 rfl rfl ?_
              refine zz_get C 0 (ci := 3) (k := 3) rfl rfl in_X3 (by decide) qw_131 rfl rfl dX3_readDate_78 ?_
              refine zz_aload_n C 0 dX3_readDate_81 rfl rfl ?_
              refine zz_get C 0 (ci := 3) (k := 1) rfl rfl in_X3 (by decide) qw_124 rfl rfl dX3_readDate_82 ?_
              refine zz_iload_n C 2 dX3_readDate_85 rfl rfl ?_
              refine zz_iadd C dX3_readDate_86 ?_
              refine zz_iconst C dX3_readDate_87 ?_
              refine zz_isub C dX3_readDate_88 ?_
              refine zz_qald C 1 rfl (by omega) (by omega) (by decide) dX3_readDate_89 ?_
              refine zz_iload_n C 2 dX3_readDate_90 rfl rfl ?_
              refine zz_aload_n C 1 dX3_readDate_91 rfl rfl ?_
              refine zz_iload_n C 2 dX3_readDate_92 rfl rfl ?_
              have hy93 := plAt_rng (pd := pd) hfR date
              refine zz_callV (wr := wEq z eh eo ep ew eR pd pb (pb + pd + 1) (zup2 g2 (pb + date) date (-20)) fQ fO) (st := [.int (iI date), .ref (eR ((pb + date) - 1))]) C (cc_X6_growth l z ph pa pr pt pd pb fP fR fT date (by omega) (by omega) (by omega)) yk_X6_growth qw_633 ⟨by decide, by decide⟩ [14, 15, 16, 17] [0, 1, 2, 3, 4, 5, 6, 7, 8, 9, 10, 11, 12, 13] rfl rfl rfl rfl (by decide) 0 6 rfl rfl rfl rfl (Nat.le_of_ble_eq_true rfl) dX3_readDate_93 ⟨by decide, by decide⟩ ?_
              rintro _ _ ⟨rfl, rfl⟩
              refine zz_st (st' := [.int (iI (20 + plAt pd fR date)), .int (iI date), .ref (eR ((pb + date) - 1))]) rfl (zz_ws (ws' := (wEq z eh eo ep ew eR pd pb (pb + pd + 1) (zup2 g2 (pb + date) date (-20)) fQ fO) ++ (wPlan z ph pa pr pt pd pb fP fR fT)) rfl ?_)
              refine zz_i2l C dX3_readDate_96 (by unfold rI; omega) ?_
              refine zz_last (T := (zup2 g2 (pb + date) date (-20)) ((pb + date) - 1)) (ws' := (wEq z eh eo ep ew eR pd pb (pb + pd + 1) (zup2 (zup2 g2 (pb + date) date (-20)) ((pb + date) - 1) date (20 + plAt pd fR date)) fQ fO) ++ (wPlan z ph pa pr pt pd pb fP fR fT)) C (4 + ((pb + date) - 1).toNat) (zz_c10 (P := fun i9 => ((wEq z eh eo ep ew eR pd pb (pb + pd + 1) (zup2 g2 (pb + date) date (-20)) fQ fO) ++ (wPlan z ph pa pr pt pd pb fP fR fT) : va_W)[4 + i9.toNat]? = some (eR i9, lrow 5 (z.2.1 2) ((zup2 g2 (pb + date) date (-20)) i9))) rfl rfl rfl rfl rfl rfl rfl rfl rfl rfl (by omega) (by omega)) (by omega) (by omega) (by decide) (zz_c10 (P := fun i9 => ((wEq z eh eo ep ew eR pd pb (pb + pd + 1) (zup2 g2 (pb + date) date (-20)) fQ fO) ++ (wPlan z ph pa pr pt pd pb fP fR fT) : va_W).set (4 + i9.toNat) (eR i9, lrow 5 (z.2.1 2) (zup ((zup2 g2 (pb + date) date (-20)) i9) date (20 + plAt pd fR date))) = ((wEq z eh eo ep ew eR pd pb (pb + pd + 1) (zup2 (zup2 g2 (pb + date) date (-20)) i9 date (20 + plAt pd fR date)) fQ fO) ++ (wPlan z ph pa pr pt pd pb fP fR fT))) rfl rfl rfl rfl rfl rfl rfl rfl rfl rfl (by omega) (by omega)) dX3_readDate_97 ?_
              exact zz_vret C hr dX3_readDate_98 ⟨_, rd_end hg2 hj (by omega) hda hpb.1 hpd.2, rfl, rfl⟩
            · skip
              refine zz_aload_n C 0 dX3_readDate_41 rfl rfl ?_
              refine zz_get C 0 (ci := 3) (k := 3) rfl rfl in_X3 (by decide) qw_131 rfl rfl dX3_readDate_42 ?_
              refine zz_aload_n C 0 dX3_readDate_45 rfl rfl ?_
              refine zz_get C 0 (ci := 3) (k := 1) rfl rfl in_X3 (by decide) qw_124 rfl rfl dX3_readDate_46 ?_
              refine zz_iload_n C 3 dX3_readDate_49 rfl rfl ?_
              refine zz_iadd C dX3_readDate_50 ?_
              refine zz_qald C 1 rfl (by omega) (by omega) (by decide) dX3_readDate_51 ?_
              refine zz_iload_n C 2 dX3_readDate_52 rfl rfl ?_
              refine zz_lconst (a := 0) C dX3_readDate_53 (by decide +kernel) ?_
              refine zz_last (T := g2 (pb + j)) (ws' := (wEq z eh eo ep ew eR pd pb (pb + pd + 1) (zup2 g2 (pb + j) date 0) fQ fO) ++ (wPlan z ph pa pr pt pd pb fP fR fT)) C (4 + (pb + j).toNat) (zz_c10 (P := fun i9 => ((wEq z eh eo ep ew eR pd pb (pb + pd + 1) g2 fQ fO) ++ (wPlan z ph pa pr pt pd pb fP fR fT) : va_W)[4 + i9.toNat]? = some (eR i9, lrow 5 (z.2.1 2) (g2 i9))) rfl rfl rfl rfl rfl rfl rfl rfl rfl rfl (by omega) (by omega)) (by omega) (by omega) (by decide) (zz_c10 (P := fun i9 => ((wEq z eh eo ep ew eR pd pb (pb + pd + 1) g2 fQ fO) ++ (wPlan z ph pa pr pt pd pb fP fR fT) : va_W).set (4 + i9.toNat) (eR i9, lrow 5 (z.2.1 2) (zup (g2 i9) date 0)) = ((wEq z eh eo ep ew eR pd pb (pb + pd + 1) (zup2 g2 i9 date 0) fQ fO) ++ (wPlan z ph pa pr pt pd pb fP fR fT))) rfl rfl rfl rfl rfl rfl rfl rfl rfl rfl (by omega) (by omega)) dX3_readDate_54 ?_
              refine zz_iinc (ls' := [(3, .int (iI (j + 1))), (0, .ref eh), (1, .ref ph), (2, .int (iI date))]) C 3 dX3_readDate_55 rfl (by decide) rfl ?_
              refine zz_goto (tgt := 33) C dX3_readDate_58 (by decide) ?_
              refine zz_loc (ls' := [(0, .ref eh), (1, .ref ph), (2, .int (iI date)), (3, .int (iI (j + 1)))]) [1, 2, 3, 0] rfl ?_
              exact ih33 (j + 1) (zup2 g2 (pb + j) date 0) (by omega) (rd_step2 hg2 (by omega)) (by omega)
        refine zz_loc (ls' := [(0, .ref eh), (1, .ref ph), (2, .int (iI date)), (3, .int (iI 0))]) [1, 2, 3, 0] rfl ?_
        exact Lp33 _ 0 g1 (by omega) (fun c9 d9 h0 h1 => by rw [hg1 c9 d9 h0 h1, show k = pb by omega]; (repeat' split) <;> first | rfl | (exfalso; omega)) (Nat.lt_succ_self _)
      · skip
        refine zz_aload_n C 0 dX3_readDate_10 rfl rfl ?_
        refine zz_get C 0 (ci := 3) (k := 3) rfl rfl in_X3 (by decide) qw_131 rfl rfl dX3_readDate_11 ?_
        refine zz_iload_n C 3 dX3_readDate_14 rfl rfl ?_
        refine zz_qald C 1 rfl (by omega) (by omega) (by decide) dX3_readDate_15 ?_
        refine zz_iload_n C 2 dX3_readDate_16 rfl rfl ?_
        refine zz_aload_n C 1 dX3_readDate_17 rfl rfl ?_
        refine zz_iload_n C 3 dX3_readDate_18 rfl rfl ?_
        refine zz_iload_n C 2 dX3_readDate_19 rfl rfl ?_
        have hy20 := plYield_rng pb hfT k date
        refine zz_callV (wr := wEq z eh eo ep ew eR pd pb (pb + pd + 1) g1 fQ fO) (st := [.int (iI date), .ref (eR k)]) C (cc_X6_yieldAt l z ph pa pr pt pd pb fP fR fT k date (by omega) (by omega) (by omega) (by omega)) yk_X6_yieldAt qw_627 ⟨by decide, by decide⟩ [14, 15, 16, 17] [0, 1, 2, 3, 4, 5, 6, 7, 8, 9, 10, 11, 12, 13] rfl rfl rfl rfl (by decide) 0 6 rfl rfl rfl rfl (Nat.le_of_ble_eq_true rfl) dX3_readDate_20 ⟨by decide, by decide⟩ ?_
        rintro _ _ ⟨rfl, rfl⟩
        refine zz_st (st' := [.int (iI (plYield pb fT k date)), .int (iI date), .ref (eR k)]) rfl (zz_ws (ws' := (wEq z eh eo ep ew eR pd pb (pb + pd + 1) g1 fQ fO) ++ (wPlan z ph pa pr pt pd pb fP fR fT)) rfl ?_)
        refine zz_i2l C dX3_readDate_23 (by unfold rI; omega) ?_
        refine zz_last (T := g1 k) (ws' := (wEq z eh eo ep ew eR pd pb (pb + pd + 1) (zup2 g1 k date (plYield pb fT k date)) fQ fO) ++ (wPlan z ph pa pr pt pd pb fP fR fT)) C (4 + k.toNat) (zz_c10 (P := fun i9 => ((wEq z eh eo ep ew eR pd pb (pb + pd + 1) g1 fQ fO) ++ (wPlan z ph pa pr pt pd pb fP fR fT) : va_W)[4 + i9.toNat]? = some (eR i9, lrow 5 (z.2.1 2) (g1 i9))) rfl rfl rfl rfl rfl rfl rfl rfl rfl rfl (by omega) (by omega)) (by omega) (by omega) (by decide) (zz_c10 (P := fun i9 => ((wEq z eh eo ep ew eR pd pb (pb + pd + 1) g1 fQ fO) ++ (wPlan z ph pa pr pt pd pb fP fR fT) : va_W).set (4 + i9.toNat) (eR i9, lrow 5 (z.2.1 2) (zup (g1 i9) date (plYield pb fT k date))) = ((wEq z eh eo ep ew eR pd pb (pb + pd + 1) (zup2 g1 i9 date (plYield pb fT k date)) fQ fO) ++ (wPlan z ph pa pr pt pd pb fP fR fT))) rfl rfl rfl rfl rfl rfl rfl rfl rfl rfl (by omega) (by omega)) dX3_readDate_24 ?_
        refine zz_iinc (ls' := [(3, .int (iI (k + 1))), (0, .ref eh), (1, .ref ph), (2, .int (iI date))]) C 3 dX3_readDate_25 rfl (by decide) rfl ?_
        refine zz_goto (tgt := 2) C dX3_readDate_28 (by decide) ?_
        refine zz_loc (ls' := [(0, .ref eh), (1, .ref ph), (2, .int (iI date)), (3, .int (iI (k + 1)))]) [1, 2, 3, 0] rfl ?_
        exact ih2 (k + 1) (zup2 g1 k date (plYield pb fT k date)) (by omega) (rd_step1 hg1 (by omega)) (by omega)
  refine zz_loc (ls' := [(0, .ref eh), (1, .ref ph), (2, .int (iI date)), (3, .int (iI 0))]) [1, 2, 3, 0] rfl ?_
  exact Lp2 _ 0 fE (by omega) (fun c9 d9 h0 h1 => by rw [if_neg (by omega)]) (Nat.lt_succ_self _)
abbrev po_X3_read (z : zC) (eh : Nat) (eo : Nat) (ep : Nat) (ew : Nat) (eR : Int → Nat) (ed : Int) (eb : Int) (ec : Int) (fE : Int → Int → Int) (fQ : Int → Int) (fO : Int → Int) (ph : Nat) (pa : Nat) (pr : Nat) (pt : Nat) (pd : Int) (pb : Int) (fP : Int → Int) (fR : Int → Int) (fT : Int → Int) : Option Value → va_W → Prop := fun v w => ∃ (gE : Int → Int → Int), ∃ (gQ : Int → Int), ∃ (gO : Int → Int), (∀ c9 d9 : Int, 0 ≤ c9 → c9 < pb + pd + 1 → 1 ≤ d9 → d9 ≤ pd → gE c9 d9 = plE pd pb fR fT c9 d9) ∧ (∀ c9 : Int, 0 ≤ c9 → c9 < pb + pd + 1 → gQ c9 = plQ pb fT c9) ∧ (∀ d9 : Int, 1 ≤ d9 → d9 ≤ pd → gO d9 = plAt pd fP d9) ∧ v = none ∧ w = (wEq z eh eo ep ew eR pd pb (pb + pd + 1) gE gQ gO) ++ (wPlan z ph pa pr pt pd pb fP fR fT)
abbrev rm_X3_read : Room := { frames := 5, cells := 0, slots := 0, locals := 131 }
set_option maxHeartbeats 4000000 in
set_option maxRecDepth 100000 in
theorem cc_X3_read (l : Launch) (z : zC) (eh : Nat) (eo : Nat) (ep : Nat) (ew : Nat) (eR : Int → Nat) (ed : Int) (eb : Int) (ec : Int) (fE : Int → Int → Int) (fQ : Int → Int) (fO : Int → Int) (ph : Nat) (pa : Nat) (pr : Nat) (pt : Nat) (pd : Int) (pb : Int) (fP : Int → Int) (fR : Int → Int) (fT : Int → Int) (hpd : 1 ≤ pd ∧ pd ≤ 4) (hpb : 0 ≤ pb ∧ pb ≤ 5) (hfP : ∀ i : Int, 0 ≤ fP i ∧ fP i ≤ 200) (hfR : ∀ i : Int, 0 ≤ fR i ∧ fR i ≤ 6) (hfT : ∀ i : Int, 0 ≤ fT i ∧ fT i ≤ 200) : zzMet l yX3_read cX3_read 3 none rm_X3_read z [.ref eh, .ref ph] ((wEq z eh eo ep ew eR ed eb ec fE fQ fO) ++ (wPlan z ph pa pr pt pd pb fP fR fT)) (po_X3_read z eh eo ep ew eR ed eb ec fE fQ fO ph pa pr pt pd pb fP fR fT) := by
  refine zzMet.of (own := RX3) (ls0 := [(0, .ref eh), (1, .ref ph)]) (by decide) rfl (Nat.le_of_ble_eq_true rfl) rfl ?_
  intro p e s m below meth c A C hr hnm
  refine zz_aload_n C 0 dX3_read_0 rfl rfl ?_
  refine zz_aload_n C 1 dX3_read_1 rfl rfl ?_
  refine zz_get C 14 (ci := 6) (k := 0) rfl rfl in_X6 (by decide) qw_293 rfl rfl dX3_read_2 ?_
  refine zz_put (ty := .int) (ws' := (wEq z eh eo ep ew eR pd eb ec fE fQ fO) ++ (wPlan z ph pa pr pt pd pb fP fR fT)) C 0 (ci := 3) (k := 0) rfl rfl in_X3 tyX3 tyX3_ok nmX3 (by decide) qw_120 rfl rfl (by decide +kernel) rfl rfl (Nat.le_of_ble_eq_true rfl) rfl dX3_read_5 ?_
  refine zz_aload_n C 0 dX3_read_8 rfl rfl ?_
  refine zz_aload_n C 1 dX3_read_9 rfl rfl ?_
  refine zz_get C 14 (ci := 6) (k := 1) rfl rfl in_X6 (by decide) qw_298 rfl rfl dX3_read_10 ?_
  refine zz_put (ty := .int) (ws' := (wEq z eh eo ep ew eR pd pb ec fE fQ fO) ++ (wPlan z ph pa pr pt pd pb fP fR fT)) C 0 (ci := 3) (k := 1) rfl rfl in_X3 tyX3 tyX3_ok nmX3 (by decide) qw_124 rfl rfl (by decide +kernel) rfl rfl (Nat.le_of_ble_eq_true rfl) rfl dX3_read_13 ?_
  refine zz_aload_n C 0 dX3_read_16 rfl rfl ?_
  refine zz_aload_n C 0 dX3_read_17 rfl rfl ?_
  refine zz_get C 0 (ci := 3) (k := 1) rfl rfl in_X3 (by decide) qw_124 rfl rfl dX3_read_18 ?_
  refine zz_aload_n C 0 dX3_read_21 rfl rfl ?_
  refine zz_get C 0 (ci := 3) (k := 0) rfl rfl in_X3 (by decide) qw_120 rfl rfl dX3_read_22 ?_
  refine zz_iadd C dX3_read_25 ?_
  refine zz_iconst C dX3_read_26 ?_
  refine zz_iadd C dX3_read_27 ?_
  refine zz_put (ty := .int) (ws' := (wEq z eh eo ep ew eR pd pb ((pb + pd) + 1) fE fQ fO) ++ (wPlan z ph pa pr pt pd pb fP fR fT)) C 0 (ci := 3) (k := 2) rfl rfl in_X3 tyX3 tyX3_ok nmX3 (by decide) qw_126 rfl rfl (by decide +kernel) rfl rfl (Nat.le_of_ble_eq_true rfl) rfl dX3_read_28 ?_
  refine zz_iconst C dX3_read_31 ?_
  refine zz_istore_n (ls' := [(2, .int (iI 1)), (0, .ref eh), (1, .ref ph)]) C dX3_read_32 rfl (by decide) rfl ?_
  have Lp33 : ∀ (fu9 : Nat) (k : Int) (gE : Int → Int → Int) (gO : Int → Int), (1 ≤ k ∧ k ≤ pd + 1) → (∀ c9 d9 : Int, 0 ≤ c9 → c9 < pb + pd + 1 → 1 ≤ d9 → d9 < k → gE c9 d9 = plE pd pb fR fT c9 d9) → (∀ d9 : Int, 1 ≤ d9 → d9 < k → gO d9 = plAt pd fP d9) → (pd + 1 - k).toNat < fu9 → zzW p l e rm_X3_read s m ([.ref eh, .ref ph] : List Value).toArray below meth c z A 3 (MQ below (zQ z A (po_X3_read z eh eo ep ew eR ed eb ec fE fQ fO ph pa pr pt pd pb fP fR fT)) ([.ref eh, .ref ph] : List Value).toArray s 0 0 A) 0 0 ((wEq z eh eo ep ew eR pd pb ((pb + pd) + 1) gE fQ gO) ++ (wPlan z ph pa pr pt pd pb fP fR fT)) [(0, .ref eh), (1, .ref ph), (2, .int (iI k))] [] 33 := by
    intro fu9
    induction fu9 with
    | zero => intro k gE gO hk hgE hgO h9; exact absurd h9 (Nat.not_lt_zero _)
    | succ fu9 ih33 =>
      intro k gE gO hk hgE hgO hm33
      refine zz_iload_n C 2 dX3_read_33 rfl rfl ?_
      refine zz_aload_n C 0 dX3_read_34 rfl rfl ?_
      refine zz_get C 0 (ci := 3) (k := 0) rfl rfl in_X3 (by decide) qw_120 rfl rfl dX3_read_35 ?_
      refine zz_icmp_gt (tgt := 65) C dX3_read_38 (by decide) (by unfold rI; omega) (by unfold rI; omega) (fun c38 => ?_) (fun c38 => ?_)
      · skip
        refine zz_iconst C dX3_read_65 ?_
        refine zz_istore_n (ls' := [(2, .int (iI 0)), (0, .ref eh), (1, .ref ph)]) C dX3_read_66 rfl (by decide) rfl ?_
        have Lp67 : ∀ (fu9 : Nat) (j : Int) (gQ : Int → Int), (0 ≤ j ∧ j ≤ pb + pd + 1) → (∀ c9 : Int, 0 ≤ c9 → c9 < j → gQ c9 = if c9 < pb then plTerm pb fT c9 3 else 0) → (pb + pd + 1 - j).toNat < fu9 → zzW p l e rm_X3_read s m ([.ref eh, .ref ph] : List Value).toArray below meth c z A 3 (MQ below (zQ z A (po_X3_read z eh eo ep ew eR ed eb ec fE fQ fO ph pa pr pt pd pb fP fR fT)) ([.ref eh, .ref ph] : List Value).toArray s 0 0 A) 0 0 ((wEq z eh eo ep ew eR pd pb ((pb + pd) + 1) gE gQ gO) ++ (wPlan z ph pa pr pt pd pb fP fR fT)) [(0, .ref eh), (1, .ref ph), (2, .int (iI j))] [] 67 := by
          intro fu9
          induction fu9 with
          | zero => intro j gQ hj hgQ h9; exact absurd h9 (Nat.not_lt_zero _)
          | succ fu9 ih67 =>
            intro j gQ hj hgQ hm67
            refine zz_iload_n C 2 dX3_read_67 rfl rfl ?_
            refine zz_aload_n C 0 dX3_read_68 rfl rfl ?_
            refine zz_get C 0 (ci := 3) (k := 2) rfl rfl in_X3 (by decide) qw_126 rfl rfl dX3_read_69 ?_
            refine zz_icmp_ge (tgt := 106) C dX3_read_72 (by decide) (by unfold rI; omega) (by unfold rI; omega) (fun c72 => ?_) (fun c72 => ?_)
            · skip
              refine zz_aload_n C 0 dX3_read_106 rfl rfl ?_
              refine zz_get C 0 (ci := 3) (k := 4) rfl rfl in_X3 (by decide) qw_134 rfl rfl dX3_read_107 ?_
              refine zz_aload_n C 0 dX3_read_110 rfl rfl ?_
              refine zz_get C 0 (ci := 3) (k := 1) rfl rfl in_X3 (by decide) qw_124 rfl rfl dX3_read_111 ?_
              refine zz_ldc2 (a := 20) C qw_639 (by decide +kernel) dX3_read_114 ?_
              refine zz_last (ws' := (wEq z eh eo ep ew eR pd pb ((pb + pd) + 1) gE (zup gQ pb 20) gO) ++ (wPlan z ph pa pr pt pd pb fP fR fT)) C 2 rfl (by omega) (by omega) (by decide) rfl dX3_read_117 ?_
              exact zz_vret C hr dX3_read_118 ⟨_, _, _, fun c9 d9 h0 h1 h2 h3 => hgE c9 d9 h0 h1 h2 (by omega), fun c9 h0 h1 => by unfold plQ zup; rw [hgQ c9 h0 (by omega)]; (repeat' split) <;> first | rfl | (exfalso; omega), fun d9 h2 h3 => hgO d9 h2 (by omega), rfl, rfl⟩
            · skip
              refine zz_aload_n C 0 dX3_read_75 rfl rfl ?_
              refine zz_get C 0 (ci := 3) (k := 4) rfl rfl in_X3 (by decide) qw_134 rfl rfl dX3_read_76 ?_
              refine zz_iload_n C 2 dX3_read_79 rfl rfl ?_
              refine zz_iload_n C 2 dX3_read_80 rfl rfl ?_
              refine zz_aload_n C 0 dX3_read_81 rfl rfl ?_
              refine zz_get C 0 (ci := 3) (k := 1) rfl rfl in_X3 (by decide) qw_124 rfl rfl dX3_read_82 ?_
              refine zz_icmp_ge (tgt := 98) C dX3_read_85 (by decide) (by unfold rI; omega) (by unfold rI; omega) (fun c85 => ?_) (fun c85 => ?_)
              · skip
                have hv9 : (0 : Int) = if j < pb then plTerm pb fT j 3 else 0 := by rw [if_neg (by omega)]
                refine zz_lconst (a := 0) C dX3_read_98 (by decide +kernel) ?_
                refine zz_last (ws' := (wEq z eh eo ep ew eR pd pb ((pb + pd) + 1) gE (zup gQ j 0) gO) ++ (wPlan z ph pa pr pt pd pb fP fR fT)) C 2 rfl (by omega) (by omega) (by decide) rfl dX3_read_99 ?_
                refine zz_iinc (ls' := [(2, .int (iI (j + 1))), (0, .ref eh), (1, .ref ph)]) C 2 dX3_read_100 rfl (by decide) rfl ?_
                refine zz_goto (tgt := 67) C dX3_read_103 (by decide) ?_
                refine zz_loc (ls' := [(0, .ref eh), (1, .ref ph), (2, .int (iI (j + 1)))]) [1, 2, 0] rfl ?_
                exact ih67 (j + 1) (zup gQ j 0) (by omega) (zup_all hgQ hv9) (by omega)
              · skip
                refine zz_aload_n C 1 dX3_read_88 rfl rfl ?_
                refine zz_iload_n C 2 dX3_read_89 rfl rfl ?_
                refine zz_iconst C dX3_read_90 ?_
                refine zz_callV (wr := wEq z eh eo ep ew eR pd pb ((pb + pd) + 1) gE gQ gO) (st := [.int (iI j), .ref ep]) C (cc_X6_term l z ph pa pr pt pd pb fP fR fT j 3 (by omega) (by omega) (by omega)) yk_X6_term qw_638 ⟨by decide, by decide⟩ [14, 15, 16, 17] [0, 1, 2, 3, 4, 5, 6, 7, 8, 9, 10, 11, 12, 13] rfl rfl rfl rfl (by decide) 0 6 rfl rfl rfl rfl (Nat.le_of_ble_eq_true rfl) dX3_read_91 ⟨by decide, by decide⟩ ?_
                rintro _ _ ⟨rfl, rfl⟩
                refine zz_st (st' := [.int (iI (plTerm pb fT j 3)), .int (iI j), .ref ep]) rfl (zz_ws (ws' := (wEq z eh eo ep ew eR pd pb ((pb + pd) + 1) gE gQ gO) ++ (wPlan z ph pa pr pt pd pb fP fR fT)) rfl ?_)
                have hy91 := plTerm_rng pb hfT j 3
                have hv9 : plTerm pb fT j 3 = if j < pb then plTerm pb fT j 3 else 0 := by rw [if_pos (by omega)]
                refine zz_i2l C dX3_read_94 (by unfold rI; omega) ?_
                refine zz_goto (tgt := 99) C dX3_read_95 (by decide) ?_
                refine zz_last (ws' := (wEq z eh eo ep ew eR pd pb ((pb + pd) + 1) gE (zup gQ j (plTerm pb fT j 3)) gO) ++ (wPlan z ph pa pr pt pd pb fP fR fT)) C 2 rfl (by omega) (by omega) (by decide) rfl dX3_read_99 ?_
                refine zz_iinc (ls' := [(2, .int (iI (j + 1))), (0, .ref eh), (1, .ref ph)]) C 2 dX3_read_100 rfl (by decide) rfl ?_
                refine zz_goto (tgt := 67) C dX3_read_103 (by decide) ?_
                refine zz_loc (ls' := [(0, .ref eh), (1, .ref ph), (2, .int (iI (j + 1)))]) [1, 2, 0] rfl ?_
                exact ih67 (j + 1) (zup gQ j (plTerm pb fT j 3)) (by omega) (zup_all hgQ hv9) (by omega)
        refine zz_loc (ls' := [(0, .ref eh), (1, .ref ph), (2, .int (iI 0))]) [1, 2, 0] rfl ?_
        exact Lp67 _ 0 fQ (by omega) (fun c9 h0 h1 => by omega) (Nat.lt_succ_self _)
      · skip
        refine zz_aload_n C 0 dX3_read_41 rfl rfl ?_
        refine zz_get C 0 (ci := 3) (k := 5) rfl rfl in_X3 (by decide) qw_137 rfl rfl dX3_read_42 ?_
        refine zz_iload_n C 2 dX3_read_45 rfl rfl ?_
        refine zz_aload_n C 1 dX3_read_46 rfl rfl ?_
        refine zz_iload_n C 2 dX3_read_47 rfl rfl ?_
        refine zz_callV (wr := wEq z eh eo ep ew eR pd pb ((pb + pd) + 1) gE fQ gO) (st := [.int (iI k), .ref ew]) C (cc_X6_paidAt l z ph pa pr pt pd pb fP fR fT k (by omega) (by omega) (by omega)) yk_X6_paidAt qw_622 ⟨by decide, by decide⟩ [14, 15, 16, 17] [0, 1, 2, 3, 4, 5, 6, 7, 8, 9, 10, 11, 12, 13] rfl rfl rfl rfl (by decide) 0 6 rfl rfl rfl rfl (Nat.le_of_ble_eq_true rfl) dX3_read_48 ⟨by decide, by decide⟩ ?_
        rintro _ _ ⟨rfl, rfl⟩
        refine zz_st (st' := [.int (iI (plAt pd fP k)), .int (iI k), .ref ew]) rfl (zz_ws (ws' := (wEq z eh eo ep ew eR pd pb ((pb + pd) + 1) gE fQ gO) ++ (wPlan z ph pa pr pt pd pb fP fR fT)) rfl ?_)
        have hy48 := plAt_rng (pd := pd) hfP k
        refine zz_i2l C dX3_read_51 (by unfold rI; omega) ?_
        refine zz_last (ws' := (wEq z eh eo ep ew eR pd pb ((pb + pd) + 1) gE fQ (zup gO k (plAt pd fP k))) ++ (wPlan z ph pa pr pt pd pb fP fR fT)) C 3 rfl (by omega) (by omega) (by decide) rfl dX3_read_52 ?_
        refine zz_aload_n C 0 dX3_read_53 rfl rfl ?_
        refine zz_aload_n C 1 dX3_read_54 rfl rfl ?_
        refine zz_iload_n C 2 dX3_read_55 rfl rfl ?_
        refine zz_callV (wr := ([] : va_W)) (st := []) C (cc_X3_readDate l z eh eo ep ew eR gE fQ (zup gO k (plAt pd fP k)) ph pa pr pt pd pb fP fR fT k (by omega) (by omega) (by omega) (by omega) (by omega)) yk_X3_readDate qw_623 ⟨by decide, by decide⟩ [0, 1, 2, 3, 4, 5, 6, 7, 8, 9, 10, 11, 12, 13, 14, 15, 16, 17] [] rfl rfl rfl rfl (by decide) 0 3 rfl rfl rfl rfl (Nat.le_of_ble_eq_true rfl) dX3_read_56 ⟨by decide, by decide⟩ ?_
        rintro _ _ ⟨g2_56, hg2_56, rfl, rfl⟩
        refine zz_st (st' := []) rfl (zz_ws (ws' := (wEq z eh eo ep ew eR pd pb (pb + pd + 1) g2_56 fQ (zup gO k (plAt pd fP k))) ++ (wPlan z ph pa pr pt pd pb fP fR fT)) rfl ?_)
        refine zz_iinc (ls' := [(2, .int (iI (k + 1))), (0, .ref eh), (1, .ref ph)]) C 2 dX3_read_59 rfl (by decide) rfl ?_
        refine zz_goto (tgt := 33) C dX3_read_62 (by decide) ?_
        refine zz_loc (ls' := [(0, .ref eh), (1, .ref ph), (2, .int (iI (k + 1)))]) [1, 2, 0] rfl ?_
        exact ih33 (k + 1) g2_56 (zup gO k (plAt pd fP k)) (by omega) (fun c9 d9 h0 h1 h2 h3 => by rw [hg2_56 c9 d9 h0 h1]; split; (rename_i e9; rw [e9]); exact hgE c9 d9 h0 h1 h2 (by omega)) (fun d9 h2 h3 => by unfold zup; split; (rename_i e9; rw [e9]); exact hgO d9 h2 (by omega)) (by omega)
  refine zz_loc (ls' := [(0, .ref eh), (1, .ref ph), (2, .int (iI 1))]) [1, 2, 0] rfl ?_
  exact Lp33 _ 1 fE fO (by omega) (fun c9 d9 h0 h1 h2 h3 => by omega) (fun d9 h2 h3 => by omega) (Nat.lt_succ_self _)
