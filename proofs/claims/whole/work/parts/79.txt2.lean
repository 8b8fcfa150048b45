theorem nWr_tok {f : Int → Int} {n a i k e : Int} (i0 : 0 ≤ i) (h : tokR f n (nb f n a i) k e) (hk : k ≠ 2) (T B K : Int) : ¬ nOk f n T B K a i ∧ nWr f n a i (1 + 8 * nb f n a i) := by
  have q := (tok_num h).resolve_left (fun x => hk x.1)
  rw [← ps_succ f n a i0] at q
  exact ⟨fun x => q.2 x.1, Or.inr ⟨q.2, rfl⟩⟩
theorem nOk_tok {f : Int → Int} {n a i k e : Int} (ha : a ≤ n) (i0 : 0 ≤ i) (h : tokR f n (nb f n a i) k e) (hk : k = 2) : (nb f n a i < n ∧ dgt (f (nb f n a i)) = true ∧ ps f n a (i + 1) - nb f n a i ≤ 4) ∧ e = ps f n a (i + 1) ∧ (nb f n a i ≤ e ∧ e ≤ n) ∧ num f (nb f n a i) e = nv f n a i ∧ (0 ≤ nv f n a i ∧ nv f n a i ≤ 9999) := by
  have q := (tok_num h).resolve_right (fun x => x.1 hk)
  rw [← ps_succ f n a i0] at q
  have r := rn_spec dgt f (nb_rng (f := f) ha i0).2
  rw [← ps_succ f n a i0] at r
  refine ⟨q.2.1, q.2.2, by rw [q.2.2]; exact ⟨r.1, r.2.1⟩, by rw [q.2.2]; rfl, num_rng r.1 q.2.1.2.2 r.2.2.1⟩
def okN (f : Int → Int) (n : Int) (S : plT) (i : Nat) : Prop := sk f n (clN f n S i).1 < n ∧ stOk f n (clN f n S i).2.1 (clN f n S i).2.2.1 (clN f n S i).1
theorem fits_lo {pd pb r v : Int} (h : plFits pd pb r v) (v0 : Int) (hz : 0 ≤ r → r < 11 → v0 ≤ zLEAST r.toNat) : v0 ≤ v := by have := hz h.1 h.2.1; have := h.2.2.1; omega
theorem opC_0 (v0 v1 v2 v3 : Int) (S : plT) : opC 0 v0 v1 v2 v3 S = (v0, 0, zero5 S.2.2.1, zero5 S.2.2.2.1, S.2.2.2.2) := rfl
/-- what the numbers of a statement that is well may be -/
theorem st_args {f : Int → Int} {n T B a : Int} (h : stOk f n T B a) : (sK f n a = 0 ∨ sK f n a = 1 ∨ sK f n a = 2 ∨ sK f n a = 3 ∨ sK f n a = 4) ∧ (sK f n a = 0 → 1 ≤ sA f n a 0 ∧ sA f n a 0 ≤ 4) ∧ (sK f n a = 1 → (1 ≤ sA f n a 0 ∧ sA f n a 0 ≤ T) ∧ (0 ≤ sA f n a 1 ∧ sA f n a 1 ≤ 200)) ∧ (sK f n a = 2 → (1 ≤ sA f n a 0 ∧ sA f n a 0 ≤ T) ∧ (0 ≤ sA f n a 1 ∧ sA f n a 1 ≤ 6)) ∧ (sK f n a = 3 → B ≠ 5 ∧ (0 ≤ sA f n a 0 ∧ sA f n a 0 ≤ 20) ∧ (1 ≤ sA f n a 1 ∧ sA f n a 1 ≤ 40) ∧ (1 ≤ sA f n a 2 ∧ sA f n a 2 ≤ T) ∧ (1 ≤ sA f n a 3 ∧ sA f n a 3 ≤ 200)) ∧ (sK f n a = 4 → (0 ≤ sA f n a 0 ∧ sA f n a 0 ≤ B - 1) ∧ (0 ≤ sA f n a 1 ∧ sA f n a 1 ≤ 12)) := by
  obtain ⟨h1, h2, h3, -⟩ := h
  have hr : -1 ≤ sK f n a ∧ sK f n a ≤ 4 := wkd_rng _ _ _
  have key : ∀ i : Int, 0 ≤ i → i < sC f n a → plFits T B (zROLES (sK f n a * 4 + i).toNat) (sA f n a i) := fun i i0 i1 => (h3 i i0 i1).2
  unfold sC at key
  generalize sK f n a = k at *
  refine ⟨by omega, fun e => ?_, fun e => ?_, fun e => ?_, fun e => ?_, fun e => ?_⟩ <;> subst e
  · exact (plFits_0 T B _).mp (key 0 (by decide) (by decide))
  · exact ⟨(plFits_1 T B _).mp (key 0 (by decide) (by decide)), (plFits_2 T B _).mp (key 1 (by decide) (by decide))⟩
  · exact ⟨(plFits_1 T B _).mp (key 0 (by decide) (by decide)), (plFits_3 T B _).mp (key 1 (by decide) (by decide))⟩
  · exact ⟨fun e => h2 ⟨rfl, e⟩, (plFits_5 T B _).mp (key 0 (by decide) (by decide)), (plFits_6 T B _).mp (key 1 (by decide) (by decide)), (plFits_1 T B _).mp (key 2 (by decide) (by decide)), (plFits_7 T B _).mp (key 3 (by decide) (by decide))⟩
  · exact ⟨(plFits_4 T B _).mp (key 0 (by decide) (by decide)), (plFits_8 T B _).mp (key 1 (by decide) (by decide))⟩
theorem opC_rng {k v0 v1 v2 v3 : Int} {S : plT} (hd : 1 ≤ S.1 ∧ S.1 ≤ 4) (hb : 0 ≤ S.2.1 ∧ S.2.1 ≤ 5) (h0 : k = 0 → 1 ≤ v0 ∧ v0 ≤ 4) (h3 : k = 3 → S.2.1 ≠ 5) : (1 ≤ (opC k v0 v1 v2 v3 S).1 ∧ (opC k v0 v1 v2 v3 S).1 ≤ 4) ∧ (0 ≤ (opC k v0 v1 v2 v3 S).2.1 ∧ (opC k v0 v1 v2 v3 S).2.1 ≤ 5) := by
  unfold opC
  by_cases q0 : k = 0
  · rw [if_pos q0]; exact ⟨h0 q0, by show (0 : Int) ≤ 0 ∧ (0 : Int) ≤ 5; omega⟩
  · rw [if_neg q0]
    by_cases q1 : k = 1
    · rw [if_pos q1]; exact ⟨hd, hb⟩
    · rw [if_neg q1]
      by_cases q2 : k = 2
      · rw [if_pos q2]; exact ⟨hd, hb⟩
      · rw [if_neg q2]
        by_cases q3 : k = 3
        · rw [if_pos q3]
          have := h3 q3
          exact ⟨hd, by show 0 ≤ S.2.1 + 1 ∧ S.2.1 + 1 ≤ 5; omega⟩
        · rw [if_neg q3]; exact ⟨hd, hb⟩
theorem sR_rng {f : Int → Int} {n a : Int} (h0 : 0 ≤ a) (h : a ≤ n) (hk : -1 ≤ sK f n a) (hk2 : ¬ sK f n a = -1) : a ≤ sR f n a ∧ sR f n a ≤ n := by
  have s1 := rn_spec blk f h
  have s2 := rn_spec ltr f s1.2.1
  have hr : -1 ≤ sK f n a ∧ sK f n a ≤ 4 := wkd_rng _ _ _
  have hc := zNUM_rng (k := sK f n a) (by omega)
  have s3 := ps_rng (f := f) (n := n) (a := sE f n a) s2.2.1 (i := sC f n a) (by unfold sC; omega)
  have s4 := rn_spec blk f s3.2
  have e : sE f n a = rn ltr f n (rn blk f n a) := rfl
  rw [← e] at s2
  unfold sR sk
  omega
theorem opC_args {k : Int} {g h : Int → Int} {S : plT} (hk : k = 0 ∨ k = 1 ∨ k = 2 ∨ k = 3 ∨ k = 4) (hg : ∀ i : Int, 0 ≤ i → i < zNUMBERS k.toNat → g i = h i) : opC k (g 0) (g 1) (g 2) (g 3) S = opC k (h 0) (h 1) (h 2) (h 3) S := by
  rcases hk with e | e | e | e | e <;> subst e
  · have a0 := hg 0 (by decide) (by decide)
    show (g 0, (0 : Int), zero5 S.2.2.1, zero5 S.2.2.2.1, S.2.2.2.2) = (h 0, (0 : Int), zero5 S.2.2.1, zero5 S.2.2.2.1, S.2.2.2.2)
    rw [a0]
  · have a0 := hg 0 (by decide) (by decide)
    have a1 := hg 1 (by decide) (by decide)
    show (S.1, S.2.1, zup S.2.2.1 (g 0) (g 1), S.2.2.2.1, S.2.2.2.2) = (S.1, S.2.1, zup S.2.2.1 (h 0) (h 1), S.2.2.2.1, S.2.2.2.2)
    rw [a0, a1]
  · have a0 := hg 0 (by decide) (by decide)
    have a1 := hg 1 (by decide) (by decide)
    show (S.1, S.2.1, S.2.2.1, zup S.2.2.2.1 (g 0) (g 1), S.2.2.2.2) = (S.1, S.2.1, S.2.2.1, zup S.2.2.2.1 (h 0) (h 1), S.2.2.2.2)
    rw [a0, a1]
  · have a0 := hg 0 (by decide) (by decide)
    have a1 := hg 1 (by decide) (by decide)
    have a2 := hg 2 (by decide) (by decide)
    have a3 := hg 3 (by decide) (by decide)
    rw [a0, a1, a2, a3]
  · have a0 := hg 0 (by decide) (by decide)
    have a1 := hg 1 (by decide) (by decide)
    show (S.1, S.2.1, S.2.2.1, S.2.2.2.1, zup S.2.2.2.2 (g 0 * 7 + 4) (g 1)) = (S.1, S.2.1, S.2.2.1, S.2.2.2.1, zup S.2.2.2.2 (h 0 * 7 + 4) (h 1))
    rw [a0, a1]
abbrev po_X8_readNumbers (z : zC) (th : Nat) (tb : Nat) (tn : Nat) (tz : Int) (tf : Int) (tk : Int) (ta : Int) (te : Int) (fB : Int → Int) (fN : Int → Int) (ph : Nat) (pa : Nat) (pr : Nat) (pt : Nat) (pd : Int) (pb : Int) (fP : Int → Int) (fR : Int → Int) (fT : Int → Int) (st9 : Int) : Option Value → va_W → Prop := fun v w => ∃ (q : Int), ∃ (gA : Int), ∃ (gK : Int), ∃ (gE : Int), ∃ (gF : Int), ∃ (gN : Int → Int), ((q = 1 ∧ gE = ps fB tz te (zNUMBERS st9.toNat) ∧ (∀ i : Int, 0 ≤ i → i < zNUMBERS st9.toNat → nOk fB tz pd pb st9 te i ∧ gN i = nv fB tz te i) ∧ gF = tf) ∨ (q = 0 ∧ ∃ i : Int, (0 ≤ i ∧ i < zNUMBERS st9.toNat) ∧ (∀ j : Int, 0 ≤ j → j < i → nOk fB tz pd pb st9 te j) ∧ ¬ nOk fB tz pd pb st9 te i ∧ nWr fB tz te i gF)) ∧ v = some (Value.int (iI q)) ∧ w = (wText z th tb tn tz gF gK gA gE fB gN) ++ (wPlan z ph pa pr pt pd pb fP fR fT)
abbrev rm_X8_readNumbers : Room := { frames := 4, cells := 0, slots := 0, locals := 101 }
set_option maxHeartbeats 4000000 in
set_option maxRecDepth 100000 in
theorem cc_X8_readNumbers (l : Launch) (z : zC) (th : Nat) (tb : Nat) (tn : Nat) (tz : Int) (tf : Int) (tk : Int) (ta : Int) (te : Int) (fB : Int → Int) (fN : Int → Int) (ph : Nat) (pa : Nat) (pr : Nat) (pt : Nat) (pd : Int) (pb : Int) (fP : Int → Int) (fR : Int → Int) (fT : Int → Int) (st9 : Int) (htz : 0 ≤ tz ∧ tz ≤ 300) (hby : ∀ i : Int, 0 ≤ fB i ∧ fB i < 256) (hpd : 1 ≤ pd ∧ pd ≤ 4) (hpb : 0 ≤ pb ∧ pb ≤ 5) (hte : 0 ≤ te ∧ te ≤ tz) (hst9 : 0 ≤ st9 ∧ st9 ≤ 4) : zzMet l yX8_readNumbers cX8_readNumbers 5 (Option.some .boolean) rm_X8_readNumbers z [.ref th, .ref ph, .int (iI st9)] ((wText z th tb tn tz tf tk ta te fB fN) ++ (wPlan z ph pa pr pt pd pb fP fR fT)) (po_X8_readNumbers z th tb tn tz tf tk ta te fB fN ph pa pr pt pd pb fP fR fT st9) := by
  refine zzMet.of (own := RX8) (ls0 := [(0, .ref th), (1, .ref ph), (2, .int (iI st9))]) (by decide) rfl (Nat.le_of_ble_eq_true rfl) rfl ?_
  intro p e s m below meth c A C hr hnm
  have hC := zNUM_rng hst9
  refine zz_iconst C dX8_readNumbers_0 ?_
  refine zz_istore_n (ls' := [(3, .int (iI 0)), (0, .ref th), (1, .ref ph), (2, .int (iI st9))]) C dX8_readNumbers_1 rfl (by decide) rfl ?_
  have Lp2 : ∀ (fu9 : Nat) (k : Int) (ga : Int) (gk : Int) (ge : Int) (gN : Int → Int), (0 ≤ k ∧ k ≤ zNUMBERS st9.toNat) → (ge = ps fB tz te k) → (∀ i : Int, 0 ≤ i → i < k → nOk fB tz pd pb st9 te i ∧ gN i = nv fB tz te i) → (zNUMBERS st9.toNat - k).toNat < fu9 → zzW p l e rm_X8_readNumbers s m ([.ref th, .ref ph, .int (iI st9)] : List Value).toArray below meth c z A 5 (MQ below (zQ z A (po_X8_readNumbers z th tb tn tz tf tk ta te fB fN ph pa pr pt pd pb fP fR fT st9)) ([.ref th, .ref ph, .int (iI st9)] : List Value).toArray s 0 0 A) 0 0 ((wText z th tb tn tz tf gk ga ge fB gN) ++ (wPlan z ph pa pr pt pd pb fP fR fT)) [(0, .ref th), (1, .ref ph), (2, .int (iI st9)), (3, .int (iI k))] [] 2 := by
    intro fu9
    induction fu9 with
    | zero => intro k ga gk ge gN hk hge hok h9; exact absurd h9 (Nat.not_lt_zero _)
    | succ fu9 ih2 =>
      intro k ga gk ge gN hk hge hok hm2
      have hpr := ps_rng (f := fB) hte.2 hk.1
      refine zz_iload_n C 3 dX8_readNumbers_2 rfl rfl ?_
      refine zz_sget C C.2.2.2.1.2.2.1 qw_568 rfl dX8_readNumbers_3 ?_
      refine zz_iload_n C 2 dX8_readNumbers_6 rfl rfl ?_
      refine zz_sald C C.2.2.2.1.2.2.1 (by omega) (by omega) (by decide) dX8_readNumbers_7 ?_
      refine zz_icmp_ge (tgt := 78) C dX8_readNumbers_8 (by decide) (by unfold rI; omega) (by unfold rI; omega) (fun c8 => ?_) (fun c8 => ?_)
      · skip
        refine zz_iconst C dX8_readNumbers_78 ?_
        exact zz_zret C hr (by decide +kernel) dX8_readNumbers_79 ⟨1, _, _, _, _, _, Or.inl ⟨rfl, by rw [hge, show k = zNUMBERS st9.toNat by omega], fun i h0 h1 => hok i h0 (by omega), rfl⟩, rfl, rfl⟩
      · skip
        refine zz_iload_n C 3 dX8_readNumbers_11 rfl rfl ?_
        refine zz_iconst C dX8_readNumbers_12 ?_
        refine zz_icmp_ge (tgt := 78) C dX8_readNumbers_13 (by decide) (by unfold rI; omega) (by unfold rI; omega) (fun c13 => ?_) (fun c13 => ?_)
        · skip
          refine zz_iconst C dX8_readNumbers_78 ?_
          exact zz_zret C hr (by decide +kernel) dX8_readNumbers_79 ⟨1, _, _, _, _, _, Or.inl ⟨rfl, by rw [hge, show k = zNUMBERS st9.toNat by omega], fun i h0 h1 => hok i h0 (by omega), rfl⟩, rfl, rfl⟩
        · skip
          refine zz_aload_n C 0 dX8_readNumbers_16 rfl rfl ?_
          refine zz_callV (wr := wPlan z ph pa pr pt pd pb fP fR fT) (st := []) C (cc_X8_readToken l z th tb tn tz tf gk ga ge fB gN (by omega) (by omega) (by omega)) yk_X8_readToken qw_466 ⟨by decide, by decide⟩ [0, 1, 2] [3, 4, 5, 6] rfl rfl rfl rfl (by decide) 0 8 rfl rfl rfl rfl (Nat.le_of_ble_eq_true rfl) dX8_readNumbers_17 ⟨by decide, by decide⟩ ?_
          rintro _ _ ⟨gA_17, gK_17, gE_17, hA_17, hR_17, hgA_17, rfl, rfl⟩
          refine zz_st (st' := []) rfl (zz_ws (ws' := (wPlan z ph pa pr pt pd pb fP fR fT) ++ (wText z th tb tn tz tf gK_17 gA_17 gE_17 fB gN)) rfl ?_)
          have hnb : gA_17 = nb fB tz te k := by rw [hA_17, hge]; rfl
          have htk := tok_rng hR_17 hgA_17.2
          rw [hnb] at hR_17
          refine zz_aload_n C 0 dX8_readNumbers_20 rfl rfl ?_
          refine zz_get C 4 (ci := 8) (k := 4) rfl rfl in_X8 (by decide) qw_44 rfl rfl dX8_readNumbers_21 ?_
          refine zz_iconst C dX8_readNumbers_24 ?_
          refine zz_icmp_eq (tgt := 34) C dX8_readNumbers_25 (by decide) (by unfold rI; omega) (by unfold rI; omega) (fun c25 => ?_) (fun c25 => ?_)
          · skip
            have hq2 := nOk_tok hte.2 hk.1 hR_17 c25
            have hvn : num fB gA_17 gE_17 = nv fB tz te k := by rw [hnb]; exact hq2.2.2.2.1
            refine zz_aload_n C 0 dX8_readNumbers_34 rfl rfl ?_
            refine zz_callV (wr := wPlan z ph pa pr pt pd pb fP fR fT) (st := []) C (cc_X8_numberOfToken l z th tb tn tz tf gK_17 gA_17 gE_17 fB gN (by omega) (by omega) (by omega)) yk_X8_numberOfToken qw_570 ⟨by decide, by decide⟩ [4, 5, 6] [0, 1, 2, 3] rfl rfl rfl rfl (by decide) 0 8 rfl rfl rfl rfl (Nat.le_of_ble_eq_true rfl) dX8_readNumbers_35 ⟨by decide, by decide⟩ ?_
            rintro _ _ ⟨rfl, rfl⟩
            refine zz_st (st' := [.int (iI (num fB gA_17 gE_17))]) rfl (zz_ws (ws' := (wPlan z ph pa pr pt pd pb fP fR fT) ++ (wText z th tb tn tz tf gK_17 gA_17 gE_17 fB gN)) rfl ?_)
            refine zz_istore (ls' := [(4, .int (iI (num fB gA_17 gE_17))), (0, .ref th), (1, .ref ph), (2, .int (iI st9)), (3, .int (iI k))]) C dX8_readNumbers_38 (by decide) rfl ?_
            refine zz_aload_n C 2 dX8_readNumbers_40 rfl rfl ?_
            refine zz_sget C C.2.2.2.1.2.2.2.1 qw_574 rfl dX8_readNumbers_41 ?_
            refine zz_iload_n C 3 dX8_readNumbers_44 rfl rfl ?_
            refine zz_iconst C dX8_readNumbers_45 ?_
            refine zz_imul C dX8_readNumbers_46 ?_
            refine zz_iload_n C 4 dX8_readNumbers_47 rfl rfl ?_
            refine zz_iadd C dX8_readNumbers_48 ?_
            refine zz_sald C C.2.2.2.1.2.2.2.1 (by omega) (by omega) (by decide) dX8_readNumbers_49 ?_
            refine zz_iload C 0 dX8_readNumbers_50 rfl ?_
            refine zz_callV (wr := wText z th tb tn tz tf gK_17 gA_17 gE_17 fB gN) (st := []) C (cc_X6_fits l z ph pa pr pt pd pb fP fR fT (zROLES ((st9 * 4) + k).toNat) (num fB gA_17 gE_17) (by omega) (by omega) (by have := zROL_rng (k := st9 * 4 + k) (by omega); omega) (by omega)) yk_X6_fits qw_576 ⟨by decide, by decide⟩ [0, 1, 2, 3] [4, 5, 6] rfl rfl rfl rfl (by decide) 0 6 rfl rfl rfl rfl (Nat.le_of_ble_eq_true rfl) dX8_readNumbers_52 ⟨by decide, by decide⟩ ?_
            rintro _ _ ⟨q_52, hq_52, rfl, rfl⟩
            refine zz_st (st' := [.int (iI q_52)]) rfl (zz_ws (ws' := (wText z th tb tn tz tf gK_17 gA_17 gE_17 fB gN) ++ (wPlan z ph pa pr pt pd pb fP fR fT)) rfl ?_)
            refine zz_if_ne (tgt := 64) C dX8_readNumbers_55 (by decide) (by unfold rI; omega) (fun c55 => ?_) (fun c55 => ?_)
            · skip
              have hnk : nOk fB tz pd pb st9 te k := ⟨hq2.1, by rw [← hvn]; exact (hq_52.resolve_right (fun h => by omega)).2⟩
              refine zz_aload_n C 1 dX8_readNumbers_64 rfl rfl ?_
              refine zz_get C 0 (ci := 8) (k := 3) rfl rfl in_X8 (by decide) qw_43 rfl rfl dX8_readNumbers_65 ?_
              refine zz_iload_n C 4 dX8_readNumbers_68 rfl rfl ?_
              refine zz_iload C 0 dX8_readNumbers_69 rfl ?_
              refine zz_iast (ws' := (wText z th tb tn tz tf gK_17 gA_17 gE_17 fB (zup gN k (num fB gA_17 gE_17))) ++ (wPlan z ph pa pr pt pd pb fP fR fT)) C 2 rfl (by omega) (by omega) (by decide) rfl dX8_readNumbers_71 ?_
              refine zz_iinc (ls' := [(3, .int (iI (k + 1))), (4, .int (iI (num fB gA_17 gE_17))), (0, .ref th), (1, .ref ph), (2, .int (iI st9))]) C 4 dX8_readNumbers_72 rfl (by decide) rfl ?_
              refine zz_goto (tgt := 2) C dX8_readNumbers_75 (by decide) ?_
              refine zz_loc (ls' := [(0, .ref th), (1, .ref ph), (2, .int (iI st9)), (3, .int (iI (k + 1)))]) [2, 3, 4, 0] rfl ?_
              exact ih2 (k + 1) gA_17 gK_17 gE_17 (zup gN k (num fB gA_17 gE_17)) (by omega) hq2.2.1 (fun i h0 h1 => by by_cases e9 : i = k; rw [e9, zup_eq]; exact ⟨hnk, by rw [hA_17, hge]; exact hq2.2.2.2.1⟩; rw [zup_ne e9]; exact hok i h0 (by omega)) (by omega)
            · skip
              have hnk : ¬ nOk fB tz pd pb st9 te k := fun h => (hq_52.resolve_left (fun h => by omega)).2 (by rw [hvn]; exact h.2)
              refine zz_aload_n C 1 dX8_readNumbers_58 rfl rfl ?_
              refine zz_iconst C dX8_readNumbers_59 ?_
              refine zz_callV (wr := wPlan z ph pa pr pt pd pb fP fR fT) (st := []) C (cc_X8_refuse l z th tb tn tz tf gK_17 gA_17 gE_17 fB gN 2 ) yk_X8_refuse qw_559 ⟨by decide, by decide⟩ [0, 1, 2] [3, 4, 5, 6] rfl rfl rfl rfl (by decide) 0 8 rfl rfl rfl rfl (Nat.le_of_ble_eq_true rfl) dX8_readNumbers_60 ⟨by decide, by decide⟩ ?_
              rintro _ _ ⟨rfl, rfl⟩
              refine zz_st (st' := [.int (iI 0)]) rfl (zz_ws (ws' := (wPlan z ph pa pr pt pd pb fP fR fT) ++ (wText z th tb tn tz (2 + 8 * gA_17) gK_17 gA_17 gE_17 fB gN)) rfl ?_)
              refine zz_sub (ws' := (wText z th tb tn tz (2 + 8 * gA_17) gK_17 gA_17 gE_17 fB gN) ++ (wPlan z ph pa pr pt pd pb fP fR fT)) [4, 5, 6, 0, 1, 2, 3] rfl rfl ?_
              exact zz_zret C hr (by decide +kernel) dX8_readNumbers_63 ⟨0, _, _, _, _, _, Or.inr ⟨rfl, k, ⟨by omega, by omega⟩, fun j h0 h1 => (hok j h0 h1).1, hnk, by rw [hnb]; exact Or.inl ⟨hq2.1, rfl⟩⟩, rfl, rfl⟩
          · skip
            have hbad := nWr_tok hk.1 hR_17 c25 pd pb st9
            refine zz_aload_n C 0 dX8_readNumbers_28 rfl rfl ?_
            refine zz_iconst C dX8_readNumbers_29 ?_
            refine zz_callV (wr := wPlan z ph pa pr pt pd pb fP fR fT) (st := []) C (cc_X8_refuse l z th tb tn tz tf gK_17 gA_17 gE_17 fB gN 1 ) yk_X8_refuse qw_559 ⟨by decide, by decide⟩ [4, 5, 6] [0, 1, 2, 3] rfl rfl rfl rfl (by decide) 0 8 rfl rfl rfl rfl (Nat.le_of_ble_eq_true rfl) dX8_readNumbers_30 ⟨by decide, by decide⟩ ?_
            rintro _ _ ⟨rfl, rfl⟩
            refine zz_st (st' := [.int (iI 0)]) rfl (zz_ws (ws' := (wPlan z ph pa pr pt pd pb fP fR fT) ++ (wText z th tb tn tz (1 + 8 * gA_17) gK_17 gA_17 gE_17 fB gN)) rfl ?_)
            refine zz_sub (ws' := (wText z th tb tn tz (1 + 8 * gA_17) gK_17 gA_17 gE_17 fB gN) ++ (wPlan z ph pa pr pt pd pb fP fR fT)) [4, 5, 6, 0, 1, 2, 3] rfl rfl ?_
            exact zz_zret C hr (by decide +kernel) dX8_readNumbers_33 ⟨0, _, _, _, _, _, Or.inr ⟨rfl, k, ⟨by omega, by omega⟩, fun j h0 h1 => (hok j h0 h1).1, hbad.1, by rw [hnb]; exact hbad.2⟩, rfl, rfl⟩
  refine zz_loc (ls' := [(0, .ref th), (1, .ref ph), (2, .int (iI st9)), (3, .int (iI 0))]) [1, 2, 3, 0] rfl ?_
  exact Lp2 _ 0 ta tk te fN (by omega) (ps_0 _ _ _).symm (fun i h0 h1 => by omega) (Nat.lt_succ_self _)
abbrev po_X8_carryOut (z : zC) (th : Nat) (tb : Nat) (tn : Nat) (tz : Int) (tf : Int) (tk : Int) (ta : Int) (te : Int) (fB : Int → Int) (fN : Int → Int) (ph : Nat) (pa : Nat) (pr : Nat) (pt : Nat) (pd : Int) (pb : Int) (fP : Int → Int) (fR : Int → Int) (fT : Int → Int) (st9 : Int) : Option Value → va_W → Prop := fun v w => ∃ (gd : Int), ∃ (gb : Int), ∃ (gP : Int → Int), ∃ (gR : Int → Int), ∃ (gT : Int → Int), ((gd, gb, gP, gR, gT) = opC st9 (fN 0) (fN 1) (fN 2) (fN 3) (pd, pb, fP, fR, fT)) ∧ v = none ∧ w = (wText z th tb tn tz tf tk ta te fB fN) ++ (wPlan z ph pa pr pt gd gb gP gR gT)
abbrev rm_X8_carryOut : Room := { frames := 4, cells := 0, slots := 0, locals := 109 }
set_option maxHeartbeats 4000000 in
set_option maxRecDepth 100000 in
theorem cc_X8_carryOut (l : Launch) (z : zC) (th : Nat) (tb : Nat) (tn : Nat) (tz : Int) (tf : Int) (tk : Int) (ta : Int) (te : Int) (fB : Int → Int) (fN : Int → Int) (ph : Nat) (pa : Nat) (pr : Nat) (pt : Nat) (pd : Int) (pb : Int) (fP : Int → Int) (fR : Int → Int) (fT : Int → Int) (st9 : Int) (hpd : 1 ≤ pd ∧ pd ≤ 4) (hpb : 0 ≤ pb ∧ pb ≤ 5) (hst9 : 0 ≤ st9 ∧ st9 ≤ 4) (h0 : st9 = 0 → 1 ≤ fN 0 ∧ fN 0 ≤ 4) (h1 : st9 = 1 ∨ st9 = 2 → 1 ≤ fN 0 ∧ fN 0 ≤ pd) (h3 : st9 = 3 → pb ≠ 5) (h4 : st9 = 4 → 0 ≤ fN 0 ∧ fN 0 ≤ pb - 1) : zzMet l yX8_carryOut cX8_carryOut 3 none rm_X8_carryOut z [.ref th, .ref ph, .int (iI st9)] ((wText z th tb tn tz tf tk ta te fB fN) ++ (wPlan z ph pa pr pt pd pb fP fR fT)) (po_X8_carryOut z th tb tn tz tf tk ta te fB fN ph pa pr pt pd pb fP fR fT st9) := by
  refine zzMet.of (own := RX8) (ls0 := [(0, .ref th), (1, .ref ph), (2, .int (iI st9))]) (by decide) rfl (Nat.le_of_ble_eq_true rfl) rfl ?_
  intro p e s m below meth c A C hr hnm
  refine zz_iload_n C 2 dX8_carryOut_0 rfl rfl ?_
  rcases (show st9 = 0 ∨ st9 = 1 ∨ st9 = 2 ∨ st9 = 3 ∨ (st9 < 0 ∨ 3 < st9) by omega) with c1 | c1 | c1 | c1 | c1
  · skip
    refine zz_tabIn (tgt := 32) C 0 dX8_carryOut_1 c1 (by unfold rI; omega) (by decide) (by decide) rfl (by decide) ?_
    have hv := h0 c1
    subst c1
    refine zz_aload_n C 1 dX8_carryOut_32 rfl rfl ?_
    refine zz_aload_n C 0 dX8_carryOut_33 rfl rfl ?_
    refine zz_get C 0 (ci := 8) (k := 3) rfl rfl in_X8 (by decide) qw_43 rfl rfl dX8_carryOut_34 ?_
    refine zz_iconst C dX8_carryOut_37 ?_
    refine zz_iald C 2 rfl (by omega) (by omega) (by decide) dX8_carryOut_38 ?_
    refine zz_callV (wr := wText z th tb tn tz tf tk ta te fB fN) (st := []) C (cc_X6_begin l z ph pa pr pt pd pb fP fR fT (fN 0) (by omega)) yk_X6_begin qw_581 ⟨by decide, by decide⟩ [3, 4, 5, 6] [0, 1, 2] rfl rfl rfl rfl (by decide) 0 6 rfl rfl rfl rfl (Nat.le_of_ble_eq_true rfl) dX8_carryOut_39 ⟨by decide, by decide⟩ ?_
    rintro _ _ ⟨gP_39, gR_39, hgP_39, hgR_39, rfl, rfl⟩
    refine zz_st (st' := []) rfl (zz_ws (ws' := (wText z th tb tn tz tf tk ta te fB fN) ++ (wPlan z ph pa pr pt (fN 0) 0 gP_39 gR_39 fT)) rfl ?_)
    refine zz_goto (tgt := 131) C dX8_carryOut_42 (by decide) ?_
    exact zz_vret C hr dX8_carryOut_131 ⟨_, _, _, _, _, by first | rfl | (show _ = (_, _, _, _, _); rw [funext hgP_39, funext hgR_39]; rfl) | (rw [opC_0, funext hgP_39, funext hgR_39]; rfl), rfl, rfl⟩
  · skip
    refine zz_tabIn (tgt := 45) C 1 dX8_carryOut_1 c1 (by unfold rI; omega) (by decide) (by decide) rfl (by decide) ?_
    have hv := h1 (Or.inl c1)
    subst c1
    refine zz_aload_n C 1 dX8_carryOut_45 rfl rfl ?_
    refine zz_aload_n C 0 dX8_carryOut_46 rfl rfl ?_
    refine zz_get C 0 (ci := 8) (k := 3) rfl rfl in_X8 (by decide) qw_43 rfl rfl dX8_carryOut_47 ?_
    refine zz_iconst C dX8_carryOut_50 ?_
    refine zz_iald C 2 rfl (by omega) (by omega) (by decide) dX8_carryOut_51 ?_
    refine zz_aload_n C 0 dX8_carryOut_52 rfl rfl ?_
    refine zz_get C 0 (ci := 8) (k := 3) rfl rfl in_X8 (by decide) qw_43 rfl rfl dX8_carryOut_53 ?_
    refine zz_iconst C dX8_carryOut_56 ?_
    refine zz_iald C 2 rfl (by omega) (by omega) (by decide) dX8_carryOut_57 ?_
    refine zz_callV (wr := wText z th tb tn tz tf tk ta te fB fN) (st := []) C (cc_X6_setPaid l z ph pa pr pt pd pb fP fR fT (fN 0) (fN 1) (by omega) (by omega) (by omega)) yk_X6_setPaid qw_582 ⟨by decide, by decide⟩ [3, 4, 5, 6] [0, 1, 2] rfl rfl rfl rfl (by decide) 0 6 rfl rfl rfl rfl (Nat.le_of_ble_eq_true rfl) dX8_carryOut_58 ⟨by decide, by decide⟩ ?_
    rintro _ _ ⟨rfl, rfl⟩
    refine zz_st (st' := []) rfl (zz_ws (ws' := (wText z th tb tn tz tf tk ta te fB fN) ++ (wPlan z ph pa pr pt pd pb (zup fP (fN 0) (fN 1)) fR fT)) rfl ?_)
    refine zz_goto (tgt := 131) C dX8_carryOut_61 (by decide) ?_
    exact zz_vret C hr dX8_carryOut_131 ⟨_, _, _, _, _, by first | rfl | (show _ = (_, _, _, _, _); rw [funext hgP_39, funext hgR_39]; rfl) | (rw [opC_0, funext hgP_39, funext hgR_39]; rfl), rfl, rfl⟩
  · skip
    refine zz_tabIn (tgt := 64) C 2 dX8_carryOut_1 c1 (by unfold rI; omega) (by decide) (by decide) rfl (by decide) ?_
    have hv := h1 (Or.inr c1)
    subst c1
    refine zz_aload_n C 1 dX8_carryOut_64 rfl rfl ?_
    refine zz_aload_n C 0 dX8_carryOut_65 rfl rfl ?_
    refine zz_get C 0 (ci := 8) (k := 3) rfl rfl in_X8 (by decide) qw_43 rfl rfl dX8_carryOut_66 ?_
    refine zz_iconst C dX8_carryOut_69 ?_
    refine zz_iald C 2 rfl (by omega) (by omega) (by decide) dX8_carryOut_70 ?_
    refine zz_aload_n C 0 dX8_carryOut_71 rfl rfl ?_
    refine zz_get C 0 (ci := 8) (k := 3) rfl rfl in_X8 (by decide) qw_43 rfl rfl dX8_carryOut_72 ?_
    refine zz_iconst C dX8_carryOut_75 ?_
    refine zz_iald C 2 rfl (by omega) (by omega) (by decide) dX8_carryOut_76 ?_
    refine zz_callV (wr := wText z th tb tn tz tf tk ta te fB fN) (st := []) C (cc_X6_setRate l z ph pa pr pt pd pb fP fR fT (fN 0) (fN 1) (by omega) (by omega) (by omega)) yk_X6_setRate qw_583 ⟨by decide, by decide⟩ [3, 4, 5, 6] [0, 1, 2] rfl rfl rfl rfl (by decide) 0 6 rfl rfl rfl rfl (Nat.le_of_ble_eq_true rfl) dX8_carryOut_77 ⟨by decide, by decide⟩ ?_
    rintro _ _ ⟨rfl, rfl⟩
    refine zz_st (st' := []) rfl (zz_ws (ws' := (wText z th tb tn tz tf tk ta te fB fN) ++ (wPlan z ph pa pr pt pd pb fP (zup fR (fN 0) (fN 1)) fT)) rfl ?_)
    refine zz_goto (tgt := 131) C dX8_carryOut_80 (by decide) ?_
    exact zz_vret C hr dX8_carryOut_131 ⟨_, _, _, _, _, by first | rfl | (show _ = (_, _, _, _, _); rw [funext hgP_39, funext hgR_39]; rfl) | (rw [opC_0, funext hgP_39, funext hgR_39]; rfl), rfl, rfl⟩
  · skip
    refine zz_tabIn (tgt := 83) C 3 dX8_carryOut_1 c1 (by unfold rI; omega) (by decide) (by decide) rfl (by decide) ?_
    have hv := h3 c1
    subst c1
    refine zz_aload_n C 1 dX8_carryOut_83 rfl rfl ?_
    refine zz_aload_n C 0 dX8_carryOut_84 rfl rfl ?_
    refine zz_get C 0 (ci := 8) (k := 3) rfl rfl in_X8 (by decide) qw_43 rfl rfl dX8_carryOut_85 ?_
    refine zz_iconst C dX8_carryOut_88 ?_
    refine zz_iald C 2 rfl (by omega) (by omega) (by decide) dX8_carryOut_89 ?_
    refine zz_aload_n C 0 dX8_carryOut_90 rfl rfl ?_
    refine zz_get C 0 (ci := 8) (k := 3) rfl rfl in_X8 (by decide) qw_43 rfl rfl dX8_carryOut_91 ?_
    refine zz_iconst C dX8_carryOut_94 ?_
    refine zz_iald C 2 rfl (by omega) (by omega) (by decide) dX8_carryOut_95 ?_
    refine zz_aload_n C 0 dX8_carryOut_96 rfl rfl ?_
    refine zz_get C 0 (ci := 8) (k := 3) rfl rfl in_X8 (by decide) qw_43 rfl rfl dX8_carryOut_97 ?_
    refine zz_iconst C dX8_carryOut_100 ?_
    refine zz_iald C 2 rfl (by omega) (by omega) (by decide) dX8_carryOut_101 ?_
    refine zz_aload_n C 0 dX8_carryOut_102 rfl rfl ?_
    refine zz_get C 0 (ci := 8) (k := 3) rfl rfl in_X8 (by decide) qw_43 rfl rfl dX8_carryOut_103 ?_
    refine zz_iconst C dX8_carryOut_106 ?_
    refine zz_iald C 2 rfl (by omega) (by omega) (by decide) dX8_carryOut_107 ?_
    refine zz_callV (wr := wText z th tb tn tz tf tk ta te fB fN) (st := []) C (cc_X6_addBond l z ph pa pr pt pd pb fP fR fT (fN 0) (fN 1) (fN 2) (fN 3) (by omega)) yk_X6_addBond qw_584 ⟨by decide, by decide⟩ [3, 4, 5, 6] [0, 1, 2] rfl rfl rfl rfl (by decide) 0 6 rfl rfl rfl rfl (Nat.le_of_ble_eq_true rfl) dX8_carryOut_108 ⟨by decide, by decide⟩ ?_
    rintro _ _ ⟨rfl, rfl⟩
    refine zz_st (st' := []) rfl (zz_ws (ws' := (wText z th tb tn tz tf tk ta te fB fN) ++ (wPlan z ph pa pr pt pd (pb + 1) fP fR (zup (zup (zup (zup (zup (zup (zup fT (pb * 7 + 0) (fN 0)) (pb * 7 + 1) (fN 1)) (pb * 7 + 2) (fN 2)) (pb * 7 + 3) (fN 3)) (pb * 7 + 4) 10) (pb * 7 + 5) 0) (pb * 7 + 6) 0))) rfl ?_)
    refine zz_goto (tgt := 131) C dX8_carryOut_111 (by decide) ?_
    exact zz_vret C hr dX8_carryOut_131 ⟨_, _, _, _, _, by first | rfl | (show _ = (_, _, _, _, _); rw [funext hgP_39, funext hgR_39]; rfl) | (rw [opC_0, funext hgP_39, funext hgR_39]; rfl), rfl, rfl⟩
  · skip
    refine zz_tabOut (tgt := 114) C dX8_carryOut_1 (by unfold rI; omega) c1 (by decide) ?_
    have c4 : st9 = 4 := by omega
    have hv := h4 c4
    subst c4
    refine zz_aload_n C 1 dX8_carryOut_114 rfl rfl ?_
    refine zz_aload_n C 0 dX8_carryOut_115 rfl rfl ?_
    refine zz_get C 0 (ci := 8) (k := 3) rfl rfl in_X8 (by decide) qw_43 rfl rfl dX8_carryOut_116 ?_
    refine zz_iconst C dX8_carryOut_119 ?_
    refine zz_iald C 2 rfl (by omega) (by omega) (by decide) dX8_carryOut_120 ?_
    refine zz_iconst C dX8_carryOut_121 ?_
    refine zz_aload_n C 0 dX8_carryOut_122 rfl rfl ?_
    refine zz_get C 0 (ci := 8) (k := 3) rfl rfl in_X8 (by decide) qw_43 rfl rfl dX8_carryOut_123 ?_
    refine zz_iconst C dX8_carryOut_126 ?_
    refine zz_iald C 2 rfl (by omega) (by omega) (by decide) dX8_carryOut_127 ?_
    refine zz_callV (wr := wText z th tb tn tz tf tk ta te fB fN) (st := []) C (cc_X6_setTerm l z ph pa pr pt pd pb fP fR fT (fN 0) 4 (fN 1) (by omega) (by omega) (by omega)) yk_X6_setTerm qw_585 ⟨by decide, by decide⟩ [3, 4, 5, 6] [0, 1, 2] rfl rfl rfl rfl (by decide) 0 6 rfl rfl rfl rfl (Nat.le_of_ble_eq_true rfl) dX8_carryOut_128 ⟨by decide, by decide⟩ ?_
    rintro _ _ ⟨rfl, rfl⟩
    refine zz_st (st' := []) rfl (zz_ws (ws' := (wText z th tb tn tz tf tk ta te fB fN) ++ (wPlan z ph pa pr pt pd pb fP fR (zup fT ((fN 0) * 7 + 4) (fN 1)))) rfl ?_)
    exact zz_vret C hr dX8_carryOut_131 ⟨_, _, _, _, _, by first | rfl | (show _ = (_, _, _, _, _); rw [funext hgP_39, funext hgR_39]; rfl) | (rw [opC_0, funext hgP_39, funext hgR_39]; rfl), rfl, rfl⟩
abbrev po_X8_tellStatement (z : zC) (th : Nat) (tb : Nat) (tn : Nat) (tz : Int) (tf : Int) (tk : Int) (ta : Int) (te : Int) (fB : Int → Int) (fN : Int → Int) (ph : Nat) (pa : Nat) (pr : Nat) (pt : Nat) (pd : Int) (pb : Int) (fP : Int → Int) (fR : Int → Int) (fT : Int → Int) (a9 : Int) : Option Value → va_W → Prop := fun v w => ∃ (q : Int), ∃ (gA : Int), ∃ (gK : Int), ∃ (gE : Int), ∃ (gF : Int), ∃ (gN : Int → Int), ∃ (gd : Int), ∃ (gb : Int), ∃ (gP : Int → Int), ∃ (gR : Int → Int), ∃ (gT : Int → Int), ((q = 1 ∧ stOk fB tz pd pb a9 ∧ gE = sR fB tz a9 + 1 ∧ gF = tf ∧ (gd, gb, gP, gR, gT) = opC (sK fB tz a9) (sA fB tz a9 0) (sA fB tz a9 1) (sA fB tz a9 2) (sA fB tz a9 3) (pd, pb, fP, fR, fT)) ∨ (q = 0 ∧ sWr fB tz pd pb a9 gF ∧ (gd, gb, gP, gR, gT) = (pd, pb, fP, fR, fT))) ∧ v = some (Value.int (iI q)) ∧ w = (wText z th tb tn tz gF gK gA gE fB gN) ++ (wPlan z ph pa pr pt gd gb gP gR gT)
abbrev rm_X8_tellStatement : Room := { frames := 7, cells := 0, slots := 0, locals := 168 }
set_option maxHeartbeats 4000000 in
set_option maxRecDepth 100000 in
theorem cc_X8_tellStatement (l : Launch) (z : zC) (th : Nat) (tb : Nat) (tn : Nat) (tz : Int) (tf : Int) (tk : Int) (ta : Int) (te : Int) (fB : Int → Int) (fN : Int → Int) (ph : Nat) (pa : Nat) (pr : Nat) (pt : Nat) (pd : Int) (pb : Int) (fP : Int → Int) (fR : Int → Int) (fT : Int → Int) (a9 : Int) (htz : 0 ≤ tz ∧ tz ≤ 300) (hby : ∀ i : Int, 0 ≤ fB i ∧ fB i < 256) (hpd : 1 ≤ pd ∧ pd ≤ 4) (hpb : 0 ≤ pb ∧ pb ≤ 5) (ha9 : 0 ≤ a9 ∧ a9 ≤ tz) (hta : ta = sk fB tz a9) (hR : tokR fB tz ta tk te) : zzMet l yX8_tellStatement cX8_tellStatement 3 (Option.some .boolean) rm_X8_tellStatement z [.ref th, .ref ph] ((wText z th tb tn tz tf tk ta te fB fN) ++ (wPlan z ph pa pr pt pd pb fP fR fT)) (po_X8_tellStatement z th tb tn tz tf tk ta te fB fN ph pa pr pt pd pb fP fR fT a9) := by
  refine zzMet.of (own := RX8) (ls0 := [(0, .ref th), (1, .ref ph)]) (by decide) rfl (Nat.le_of_ble_eq_true rfl) rfl ?_
  intro p e s m below meth c A C hr hnm
  have hs1 := rn_spec blk fB ha9.2
  have hse : rn ltr fB tz ta = sE fB tz a9 := by rw [hta]; rfl
  have hs2 := rn_spec ltr fB (n := tz) (a := ta) (by rw [hta]; exact hs1.2.1)
  have hsk : wkd fB ta (rn ltr fB tz ta) = sK fB tz a9 := by rw [hta]; rfl
  have hkr : -1 ≤ sK fB tz a9 ∧ sK fB tz a9 ≤ 4 := wkd_rng _ _ _
  have htr : 0 ≤ ta ∧ ta ≤ tz := by rw [hta]; unfold sk; omega
  refine zz_aload_n C 0 dX8_tellStatement_0 rfl rfl ?_
  refine zz_callV (wr := wPlan z ph pa pr pt pd pb fP fR fT) (st := []) C (cc_X8_statementOfToken l z th tb tn tz tf tk ta te fB fN (by omega) (by omega) (by omega) (by omega)) yk_X8_statementOfToken qw_495 ⟨by decide, by decide⟩ [0, 1, 2] [3, 4, 5, 6] rfl rfl rfl rfl (by decide) 0 8 rfl rfl rfl rfl (Nat.le_of_ble_eq_true rfl) dX8_tellStatement_1 ⟨by decide, by decide⟩ ?_
  rintro _ _ ⟨rfl, rfl⟩
  refine zz_st (st' := [.int (iI (wkd fB ta (rn ltr fB tz ta)))]) rfl (zz_ws (ws' := (wPlan z ph pa pr pt pd pb fP fR fT) ++ (wText z th tb tn tz tf tk ta te fB fN)) rfl ?_)
  refine zz_st (st' := [.int (iI (sK fB tz a9))]) (by rw [hsk]) ?_
  refine zz_istore_n (ls' := [(2, .int (iI (sK fB tz a9))), (0, .ref th), (1, .ref ph)]) C dX8_tellStatement_4 rfl (by decide) rfl ?_
  refine zz_iload_n C 0 dX8_tellStatement_5 rfl rfl ?_
  refine zz_iconst C dX8_tellStatement_6 ?_
  refine zz_icmp_ne (tgt := 16) C dX8_tellStatement_7 (by decide) (by unfold rI; omega) (by unfold rI; omega) (fun c7 => ?_) (fun c7 => ?_)
  · skip
    refine zz_iload_n C 0 dX8_tellStatement_16 rfl rfl ?_
    refine zz_iconst C dX8_tellStatement_17 ?_
    refine zz_icmp_ne (tgt := 34) C dX8_tellStatement_18 (by decide) (by unfold rI; omega) (by unfold rI; omega) (fun c18 => ?_) (fun c18 => ?_)
    · skip
      have hnf : ¬ sK fB tz a9 = 3 ∨ ¬ pb = 5 := Or.inl c18
      refine zz_aload_n C 1 dX8_tellStatement_34 rfl rfl ?_
      refine zz_aload_n C 2 dX8_tellStatement_35 rfl rfl ?_
      refine zz_iload_n C 0 dX8_tellStatement_36 rfl rfl ?_
      refine zz_callV (wr := ([] : va_W)) (st := []) C (cc_X8_readNumbers l z th tb tn tz tf tk ta te fB fN ph pa pr pt pd pb fP fR fT (sK fB tz a9) (by omega) (by omega) (by omega) (by omega) (by have := tok_rng hR htr.2; omega) (by omega)) yk_X8_readNumbers qw_564 ⟨by decide, by decide⟩ [4, 5, 6, 0, 1, 2, 3] [] rfl rfl rfl rfl (by decide) 0 8 rfl rfl rfl rfl (Nat.le_of_ble_eq_true rfl) dX8_tellStatement_37 ⟨by decide, by decide⟩ ?_
      rintro _ _ ⟨q_37, gA_37, gK_37, gE_37, gF_37, gN_37, hq_37, rfl, rfl⟩
      refine zz_st (st' := [.int (iI q_37)]) rfl (zz_ws (ws' := (wText z th tb tn tz gF_37 gK_37 gA_37 gE_37 fB gN_37) ++ (wPlan z ph pa pr pt pd pb fP fR fT)) rfl ?_)
      have hC := zNUM_rng (k := sK fB tz a9) (by omega)
      have hte9 : te = sE fB tz a9 := by rcases tok_word hR htr.2 with h | h; rw [h.2, hse]; exact absurd (by rw [← hsk]; exact h.2) c7
      refine zz_if_ne (tgt := 45) C dX8_tellStatement_40 (by decide) (by unfold rI; omega) (fun c40 => ?_) (fun c40 => ?_)
      · skip
        have hn1 := hq_37.resolve_right (fun h => by omega)
        refine zz_aload_n C 1 dX8_tellStatement_45 rfl rfl ?_
        refine zz_callV (wr := wPlan z ph pa pr pt pd pb fP fR fT) (st := []) C (cc_X8_readToken l z th tb tn tz gF_37 gK_37 gA_37 gE_37 fB gN_37 (by omega) (by omega) (by rw [hn1.2.1, hte9]; have := ps_rng (f := fB) (n := tz) (a := sE fB tz a9) (by rw [← hse]; exact hs2.2.1) (i := zNUMBERS (sK fB tz a9).toNat) (by omega); rw [← hse] at this ⊢; omega)) yk_X8_readToken qw_466 ⟨by decide, by decide⟩ [0, 1, 2] [3, 4, 5, 6] rfl rfl rfl rfl (by decide) 0 8 rfl rfl rfl rfl (Nat.le_of_ble_eq_true rfl) dX8_tellStatement_46 ⟨by decide, by decide⟩ ?_
        rintro _ _ ⟨gA_46, gK_46, gE_46, hA_46, hR_46, hgA_46, rfl, rfl⟩
        refine zz_st (st' := []) rfl (zz_ws (ws' := (wPlan z ph pa pr pt pd pb fP fR fT) ++ (wText z th tb tn tz gF_37 gK_46 gA_46 gE_46 fB gN_37)) rfl ?_)
        have hsr : gA_46 = sR fB tz a9 := by rw [hA_46, hn1.2.1, hte9]; rfl
        have hby46 := bAt_rng hby tz gA_46
        have hsr2 := sR_rng ha9.1 ha9.2 hkr.1 c7
        refine zz_aload_n C 1 dX8_tellStatement_49 rfl rfl ?_
        refine zz_aload_n C 1 dX8_tellStatement_50 rfl rfl ?_
        refine zz_get C 4 (ci := 8) (k := 5) rfl rfl in_X8 (by decide) qw_45 rfl rfl dX8_tellStatement_51 ?_
        refine zz_callV (wr := wPlan z ph pa pr pt pd pb fP fR fT) (st := []) C (cc_X8_byteAt l z th tb tn tz gF_37 gK_46 gA_46 gE_46 fB gN_37 gA_46 (by omega) (by omega) (by omega)) yk_X8_byteAt qw_470 ⟨by decide, by decide⟩ [4, 5, 6] [0, 1, 2, 3] rfl rfl rfl rfl (by decide) 0 8 rfl rfl rfl rfl (Nat.le_of_ble_eq_true rfl) dX8_tellStatement_54 ⟨by decide, by decide⟩ ?_
        rintro _ _ ⟨rfl, rfl⟩
        refine zz_st (st' := [.int (iI (bAt fB tz gA_46))]) rfl (zz_ws (ws' := (wPlan z ph pa pr pt pd pb fP fR fT) ++ (wText z th tb tn tz gF_37 gK_46 gA_46 gE_46 fB gN_37)) rfl ?_)
        refine zz_bipush C dX8_tellStatement_57 (by decide +kernel) ?_
        refine zz_icmp_eq (tgt := 68) C dX8_tellStatement_59 (by decide) (by unfold rI; omega) (by unfold rI; omega) (fun c59 => ?_) (fun c59 => ?_)
        · skip
          have hin : sR fB tz a9 < tz ∧ fB (sR fB tz a9) = 59 := by by_cases q9 : 0 ≤ gA_46 ∧ gA_46 < tz; rw [bAt_in q9] at c59; rw [← hsr]; exact ⟨q9.2, c59⟩; rw [bAt_out q9] at c59; omega
          have hso : stOk fB tz pd pb a9 := ⟨c7, by rcases hnf with h | h; exact fun x => h x.1; exact fun x => h x.2, fun i i0 i1 => by rw [← hte9]; exact (hn1.2.2.1 i i0 i1).1, hin⟩
          have hsa := st_args hso
          have hnv : ∀ i : Int, 0 ≤ i → i < zNUMBERS (sK fB tz a9).toNat → gN_37 i = sA fB tz a9 i := fun i i0 i1 => by unfold sA; rw [← hte9]; exact (hn1.2.2.1 i i0 i1).2
          have hgE := tok_semi hR_46 (by rw [hsr]; exact hin.1) (by rw [hsr]; exact hin.2)
          refine zz_aload_n C 1 dX8_tellStatement_68 rfl rfl ?_
          refine zz_aload_n C 2 dX8_tellStatement_69 rfl rfl ?_
          refine zz_iload_n C 0 dX8_tellStatement_70 rfl rfl ?_
          refine zz_callV (wr := ([] : va_W)) (st := []) C (cc_X8_carryOut l z th tb tn tz gF_37 gK_46 gA_46 gE_46 fB gN_37 ph pa pr pt pd pb fP fR fT (sK fB tz a9) (by omega) (by omega) (by omega) (fun h => by rw [hnv 0 (by omega) (by omega)]; exact hsa.2.1 h) (fun h => by rw [hnv 0 (by omega) (by omega)]; rcases h with h | h; exact (hsa.2.2.1 h).1; exact (hsa.2.2.2.1 h).1) (fun h => (hsa.2.2.2.2.1 h).1) (fun h => by rw [hnv 0 (by omega) (by omega)]; exact (hsa.2.2.2.2.2 h).1)) yk_X8_carryOut qw_577 ⟨by decide, by decide⟩ [4, 5, 6, 0, 1, 2, 3] [] rfl rfl rfl rfl (by decide) 0 8 rfl rfl rfl rfl (Nat.le_of_ble_eq_true rfl) dX8_tellStatement_71 ⟨by decide, by decide⟩ ?_
          rintro _ _ ⟨gd_71, gb_71, gP_71, gR_71, gT_71, hS_71, rfl, rfl⟩
          refine zz_st (st' := []) rfl (zz_ws (ws' := (wText z th tb tn tz gF_37 gK_46 gA_46 gE_46 fB gN_37) ++ (wPlan z ph pa pr pt gd_71 gb_71 gP_71 gR_71 gT_71)) rfl ?_)
          refine zz_iconst C dX8_tellStatement_74 ?_
          exact zz_zret C hr (by decide +kernel) dX8_tellStatement_75 ⟨1, _, _, _, _, _, _, _, _, _, _, Or.inl ⟨rfl, hso, by rw [hgE, hsr], hn1.2.2.2, by rw [hS_71]; exact opC_args hsa.1 hnv⟩, rfl, rfl⟩
        · skip
          have hno : ¬ (sR fB tz a9 < tz ∧ fB (sR fB tz a9) = 59) := fun h => c59 (by rw [hsr, bAt_in ⟨by omega, h.1⟩]; exact h.2)
          refine zz_aload_n C 1 dX8_tellStatement_62 rfl rfl ?_
          refine zz_iconst C dX8_tellStatement_63 ?_
          refine zz_callV (wr := wPlan z ph pa pr pt pd pb fP fR fT) (st := []) C (cc_X8_refuse l z th tb tn tz gF_37 gK_46 gA_46 gE_46 fB gN_37 1 ) yk_X8_refuse qw_559 ⟨by decide, by decide⟩ [4, 5, 6] [0, 1, 2, 3] rfl rfl rfl rfl (by decide) 0 8 rfl rfl rfl rfl (Nat.le_of_ble_eq_true rfl) dX8_tellStatement_64 ⟨by decide, by decide⟩ ?_
          rintro _ _ ⟨rfl, rfl⟩
          refine zz_st (st' := [.int (iI 0)]) rfl (zz_ws (ws' := (wPlan z ph pa pr pt pd pb fP fR fT) ++ (wText z th tb tn tz (1 + 8 * gA_46) gK_46 gA_46 gE_46 fB gN_37)) rfl ?_)
          refine zz_sub (ws' := (wText z th tb tn tz (1 + 8 * gA_46) gK_46 gA_46 gE_46 fB gN_37) ++ (wPlan z ph pa pr pt pd pb fP fR fT)) [4, 5, 6, 0, 1, 2, 3] rfl rfl ?_
          exact zz_zret C hr (by decide +kernel) dX8_tellStatement_67 ⟨0, _, _, _, _, _, _, _, _, _, _, Or.inr ⟨rfl, Or.inr (Or.inr (Or.inr ⟨c7, by rcases hnf with h | h; exact fun x => h x.1; exact fun x => h x.2, fun i i0 i1 => by rw [← hte9]; exact (hn1.2.2.1 i i0 i1).1, hno, by rw [hsr]⟩)), rfl⟩, rfl, rfl⟩
      · skip
        have hn0 := (hq_37.resolve_left (fun h => by omega)).2
        refine zz_iconst C dX8_tellStatement_43 ?_
        exact zz_zret C hr (by decide +kernel) dX8_tellStatement_44 ⟨0, _, _, _, _, _, _, _, _, _, _, Or.inr ⟨rfl, Or.inr (Or.inr (Or.inl ⟨c7, by rcases hnf with h | h; exact fun x => h x.1; exact fun x => h x.2, by rw [← hte9]; exact hn0⟩)), rfl⟩, rfl, rfl⟩
    · skip
      refine zz_aload_n C 2 dX8_tellStatement_21 rfl rfl ?_
      refine zz_callV (wr := wText z th tb tn tz tf tk ta te fB fN) (st := []) C (cc_X6_isFull l z ph pa pr pt pd pb fP fR fT (by omega)) yk_X6_isFull qw_563 ⟨by decide, by decide⟩ [0, 1, 2, 3] [4, 5, 6] rfl rfl rfl rfl (by decide) 0 6 rfl rfl rfl rfl (Nat.le_of_ble_eq_true rfl) dX8_tellStatement_22 ⟨by decide, by decide⟩ ?_
      rintro _ _ ⟨q_22, hq_22, rfl, rfl⟩
      refine zz_st (st' := [.int (iI q_22)]) rfl (zz_ws (ws' := (wText z th tb tn tz tf tk ta te fB fN) ++ (wPlan z ph pa pr pt pd pb fP fR fT)) rfl ?_)
      refine zz_if_eq (tgt := 34) C dX8_tellStatement_25 (by decide) (by unfold rI; omega) (fun c25 => ?_) (fun c25 => ?_)
      · skip
        have hnf : ¬ sK fB tz a9 = 3 ∨ ¬ pb = 5 := Or.inr (hq_22.resolve_left (fun h => by omega)).2
        refine zz_aload_n C 1 dX8_tellStatement_34 rfl rfl ?_
        refine zz_aload_n C 2 dX8_tellStatement_35 rfl rfl ?_
        refine zz_iload_n C 0 dX8_tellStatement_36 rfl rfl ?_
        refine zz_callV (wr := ([] : va_W)) (st := []) C (cc_X8_readNumbers l z th tb tn tz tf tk ta te fB fN ph pa pr pt pd pb fP fR fT (sK fB tz a9) (by omega) (by omega) (by omega) (by omega) (by have := tok_rng hR htr.2; omega) (by omega)) yk_X8_readNumbers qw_564 ⟨by decide, by decide⟩ [0, 1, 2, 3, 4, 5, 6] [] rfl rfl rfl rfl (by decide) 0 8 rfl rfl rfl rfl (Nat.le_of_ble_eq_true rfl) dX8_tellStatement_37 ⟨by decide, by decide⟩ ?_
        rintro _ _ ⟨q_37, gA_37, gK_37, gE_37, gF_37, gN_37, hq_37, rfl, rfl⟩
        refine zz_st (st' := [.int (iI q_37)]) rfl (zz_ws (ws' := (wText z th tb tn tz gF_37 gK_37 gA_37 gE_37 fB gN_37) ++ (wPlan z ph pa pr pt pd pb fP fR fT)) rfl ?_)
        have hC := zNUM_rng (k := sK fB tz a9) (by omega)
        have hte9 : te = sE fB tz a9 := by rcases tok_word hR htr.2 with h | h; rw [h.2, hse]; exact absurd (by rw [← hsk]; exact h.2) c7
        refine zz_if_ne (tgt := 45) C dX8_tellStatement_40 (by decide) (by unfold rI; omega) (fun c40 => ?_) (fun c40 => ?_)
        · skip
          have hn1 := hq_37.resolve_right (fun h => by omega)
          refine zz_aload_n C 1 dX8_tellStatement_45 rfl rfl ?_
          refine zz_callV (wr := wPlan z ph pa pr pt pd pb fP fR fT) (st := []) C (cc_X8_readToken l z th tb tn tz gF_37 gK_37 gA_37 gE_37 fB gN_37 (by omega) (by omega) (by rw [hn1.2.1, hte9]; have := ps_rng (f := fB) (n := tz) (a := sE fB tz a9) (by rw [← hse]; exact hs2.2.1) (i := zNUMBERS (sK fB tz a9).toNat) (by omega); rw [← hse] at this ⊢; omega)) yk_X8_readToken qw_466 ⟨by decide, by decide⟩ [0, 1, 2] [3, 4, 5, 6] rfl rfl rfl rfl (by decide) 0 8 rfl rfl rfl rfl (Nat.le_of_ble_eq_true rfl) dX8_tellStatement_46 ⟨by decide, by decide⟩ ?_
          rintro _ _ ⟨gA_46, gK_46, gE_46, hA_46, hR_46, hgA_46, rfl, rfl⟩
          refine zz_st (st' := []) rfl (zz_ws (ws' := (wPlan z ph pa pr pt pd pb fP fR fT) ++ (wText z th tb tn tz gF_37 gK_46 gA_46 gE_46 fB gN_37)) rfl ?_)
          have hsr : gA_46 = sR fB tz a9 := by rw [hA_46, hn1.2.1, hte9]; rfl
          have hby46 := bAt_rng hby tz gA_46
          have hsr2 := sR_rng ha9.1 ha9.2 hkr.1 c7
          refine zz_aload_n C 1 dX8_tellStatement_49 rfl rfl ?_
          refine zz_aload_n C 1 dX8_tellStatement_50 rfl rfl ?_
          refine zz_get C 4 (ci := 8) (k := 5) rfl rfl in_X8 (by decide) qw_45 rfl rfl dX8_tellStatement_51 ?_
          refine zz_callV (wr := wPlan z ph pa pr pt pd pb fP fR fT) (st := []) C (cc_X8_byteAt l z th tb tn tz gF_37 gK_46 gA_46 gE_46 fB gN_37 gA_46 (by omega) (by omega) (by omega)) yk_X8_byteAt qw_470 ⟨by decide, by decide⟩ [4, 5, 6] [0, 1, 2, 3] rfl rfl rfl rfl (by decide) 0 8 rfl rfl rfl rfl (Nat.le_of_ble_eq_true rfl) dX8_tellStatement_54 ⟨by decide, by decide⟩ ?_
          rintro _ _ ⟨rfl, rfl⟩
          refine zz_st (st' := [.int (iI (bAt fB tz gA_46))]) rfl (zz_ws (ws' := (wPlan z ph pa pr pt pd pb fP fR fT) ++ (wText z th tb tn tz gF_37 gK_46 gA_46 gE_46 fB gN_37)) rfl ?_)
          refine zz_bipush C dX8_tellStatement_57 (by decide +kernel) ?_
          refine zz_icmp_eq (tgt := 68) C dX8_tellStatement_59 (by decide) (by unfold rI; omega) (by unfold rI; omega) (fun c59 => ?_) (fun c59 => ?_)
          · skip
            have hin : sR fB tz a9 < tz ∧ fB (sR fB tz a9) = 59 := by by_cases q9 : 0 ≤ gA_46 ∧ gA_46 < tz; rw [bAt_in q9] at c59; rw [← hsr]; exact ⟨q9.2, c59⟩; rw [bAt_out q9] at c59; omega
            have hso : stOk fB tz pd pb a9 := ⟨c7, by rcases hnf with h | h; exact fun x => h x.1; exact fun x => h x.2, fun i i0 i1 => by rw [← hte9]; exact (hn1.2.2.1 i i0 i1).1, hin⟩
            have hsa := st_args hso
            have hnv : ∀ i : Int, 0 ≤ i → i < zNUMBERS (sK fB tz a9).toNat → gN_37 i = sA fB tz a9 i := fun i i0 i1 => by unfold sA; rw [← hte9]; exact (hn1.2.2.1 i i0 i1).2
            have hgE := tok_semi hR_46 (by rw [hsr]; exact hin.1) (by rw [hsr]; exact hin.2)
            refine zz_aload_n C 1 dX8_tellStatement_68 rfl rfl ?_
            refine zz_aload_n C 2 dX8_tellStatement_69 rfl rfl ?_
            refine zz_iload_n C 0 dX8_tellStatement_70 rfl rfl ?_
            refine zz_callV (wr := ([] : va_W)) (st := []) C (cc_X8_carryOut l z th tb tn tz gF_37 gK_46 gA_46 gE_46 fB gN_37 ph pa pr pt pd pb fP fR fT (sK fB tz a9) (by omega) (by omega) (by omega) (fun h => by rw [hnv 0 (by omega) (by omega)]; exact hsa.2.1 h) (fun h => by rw [hnv 0 (by omega) (by omega)]; rcases h with h | h; exact (hsa.2.2.1 h).1; exact (hsa.2.2.2.1 h).1) (fun h => (hsa.2.2.2.2.1 h).1) (fun h => by rw [hnv 0 (by omega) (by omega)]; exact (hsa.2.2.2.2.2 h).1)) yk_X8_carryOut qw_577 ⟨by decide, by decide⟩ [4, 5, 6, 0, 1, 2, 3] [] rfl rfl rfl rfl (by decide) 0 8 rfl rfl rfl rfl (Nat.le_of_ble_eq_true rfl) dX8_tellStatement_71 ⟨by decide, by decide⟩ ?_
            rintro _ _ ⟨gd_71, gb_71, gP_71, gR_71, gT_71, hS_71, rfl, rfl⟩
            refine zz_st (st' := []) rfl (zz_ws (ws' := (wText z th tb tn tz gF_37 gK_46 gA_46 gE_46 fB gN_37) ++ (wPlan z ph pa pr pt gd_71 gb_71 gP_71 gR_71 gT_71)) rfl ?_)
            refine zz_iconst C dX8_tellStatement_74 ?_
            exact zz_zret C hr (by decide +kernel) dX8_tellStatement_75 ⟨1, _, _, _, _, _, _, _, _, _, _, Or.inl ⟨rfl, hso, by rw [hgE, hsr], hn1.2.2.2, by rw [hS_71]; exact opC_args hsa.1 hnv⟩, rfl, rfl⟩
          · skip
            have hno : ¬ (sR fB tz a9 < tz ∧ fB (sR fB tz a9) = 59) := fun h => c59 (by rw [hsr, bAt_in ⟨by omega, h.1⟩]; exact h.2)
            refine zz_aload_n C 1 dX8_tellStatement_62 rfl rfl ?_
            refine zz_iconst C dX8_tellStatement_63 ?_
            refine zz_callV (wr := wPlan z ph pa pr pt pd pb fP fR fT) (st := []) C (cc_X8_refuse l z th tb tn tz gF_37 gK_46 gA_46 gE_46 fB gN_37 1 ) yk_X8_refuse qw_559 ⟨by decide, by decide⟩ [4, 5, 6] [0, 1, 2, 3] rfl rfl rfl rfl (by decide) 0 8 rfl rfl rfl rfl (Nat.le_of_ble_eq_true rfl) dX8_tellStatement_64 ⟨by decide, by decide⟩ ?_
            rintro _ _ ⟨rfl, rfl⟩
            refine zz_st (st' := [.int (iI 0)]) rfl (zz_ws (ws' := (wPlan z ph pa pr pt pd pb fP fR fT) ++ (wText z th tb tn tz (1 + 8 * gA_46) gK_46 gA_46 gE_46 fB gN_37)) rfl ?_)
            refine zz_sub (ws' := (wText z th tb tn tz (1 + 8 * gA_46) gK_46 gA_46 gE_46 fB gN_37) ++ (wPlan z ph pa pr pt pd pb fP fR fT)) [4, 5, 6, 0, 1, 2, 3] rfl rfl ?_
            exact zz_zret C hr (by decide +kernel) dX8_tellStatement_67 ⟨0, _, _, _, _, _, _, _, _, _, _, Or.inr ⟨rfl, Or.inr (Or.inr (Or.inr ⟨c7, by rcases hnf with h | h; exact fun x => h x.1; exact fun x => h x.2, fun i i0 i1 => by rw [← hte9]; exact (hn1.2.2.1 i i0 i1).1, hno, by rw [hsr]⟩)), rfl⟩, rfl, rfl⟩
        · skip
          have hn0 := (hq_37.resolve_left (fun h => by omega)).2
          refine zz_iconst C dX8_tellStatement_43 ?_
          exact zz_zret C hr (by decide +kernel) dX8_tellStatement_44 ⟨0, _, _, _, _, _, _, _, _, _, _, Or.inr ⟨rfl, Or.inr (Or.inr (Or.inl ⟨c7, by rcases hnf with h | h; exact fun x => h x.1; exact fun x => h x.2, by rw [← hte9]; exact hn0⟩)), rfl⟩, rfl, rfl⟩
      · skip
        have hfu := (hq_22.resolve_right (fun h => by omega)).2
        refine zz_aload_n C 1 dX8_tellStatement_28 rfl rfl ?_
        refine zz_iconst C dX8_tellStatement_29 ?_
        refine zz_callV (wr := wPlan z ph pa pr pt pd pb fP fR fT) (st := []) C (cc_X8_refuse l z th tb tn tz tf tk ta te fB fN 3 ) yk_X8_refuse qw_559 ⟨by decide, by decide⟩ [0, 1, 2] [3, 4, 5, 6] rfl rfl rfl rfl (by decide) 0 8 rfl rfl rfl rfl (Nat.le_of_ble_eq_true rfl) dX8_tellStatement_30 ⟨by decide, by decide⟩ ?_
        rintro _ _ ⟨rfl, rfl⟩
        refine zz_st (st' := [.int (iI 0)]) rfl (zz_ws (ws' := (wPlan z ph pa pr pt pd pb fP fR fT) ++ (wText z th tb tn tz (3 + 8 * ta) tk ta te fB fN)) rfl ?_)
        refine zz_sub (ws' := (wText z th tb tn tz (3 + 8 * ta) tk ta te fB fN) ++ (wPlan z ph pa pr pt pd pb fP fR fT)) [4, 5, 6, 0, 1, 2, 3] rfl rfl ?_
        exact zz_zret C hr (by decide +kernel) dX8_tellStatement_33 ⟨0, _, _, _, _, _, _, _, _, _, _, Or.inr ⟨rfl, Or.inr (Or.inl ⟨c18, hfu, by rw [hta]; rfl⟩), rfl⟩, rfl, rfl⟩
  · skip
    refine zz_aload_n C 1 dX8_tellStatement_10 rfl rfl ?_
    refine zz_iconst C dX8_tellStatement_11 ?_
    refine zz_callV (wr := wPlan z ph pa pr pt pd pb fP fR fT) (st := []) C (cc_X8_refuse l z th tb tn tz tf tk ta te fB fN 1 ) yk_X8_refuse qw_559 ⟨by decide, by decide⟩ [4, 5, 6] [0, 1, 2, 3] rfl rfl rfl rfl (by decide) 0 8 rfl rfl rfl rfl (Nat.le_of_ble_eq_true rfl) dX8_tellStatement_12 ⟨by decide, by decide⟩ ?_
    rintro _ _ ⟨rfl, rfl⟩
    refine zz_st (st' := [.int (iI 0)]) rfl (zz_ws (ws' := (wPlan z ph pa pr pt pd pb fP fR fT) ++ (wText z th tb tn tz (1 + 8 * ta) tk ta te fB fN)) rfl ?_)
    refine zz_sub (ws' := (wText z th tb tn tz (1 + 8 * ta) tk ta te fB fN) ++ (wPlan z ph pa pr pt pd pb fP fR fT)) [4, 5, 6, 0, 1, 2, 3] rfl rfl ?_
    exact zz_zret C hr (by decide +kernel) dX8_tellStatement_15 ⟨0, _, _, _, _, _, _, _, _, _, _, Or.inr ⟨rfl, Or.inl ⟨c7, by rw [hta]; rfl⟩, rfl⟩, rfl, rfl⟩
