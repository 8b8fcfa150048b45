def lSt (T B : Int) (p l o : Int → Int) (y s : Int → Int → Int) : Prop := ((1 ≤ T ∧ T ≤ 4) ∧ (0 ≤ B ∧ B ≤ 5)) ∧ (∀ b : Int, 0 ≤ b → b < B → (0 ≤ p b ∧ p b ≤ 91395200) ∧ (0 ≤ l b ∧ l b ≤ 12)) ∧ (∀ b d : Int, 0 ≤ b → b < B → 1 ≤ d → d ≤ T → 0 ≤ y b d ∧ y b d ≤ 109674240) ∧ (∀ d : Int, 1 ≤ d → d ≤ T → 0 ≤ o d ∧ o d ≤ 365580800) ∧ savR T B p l y s
theorem sav_rng {T B : Int} {p l o : Int → Int} {y s : Int → Int → Int} (h : lSt T B p l o y s) {b d : Int} (b0 : 0 ≤ b) (b1 : b ≤ B) (d0 : 1 ≤ d) (d1 : d ≤ T) : 0 ≤ s b d ∧ s b d ≤ 6580454400 := by
  obtain ⟨h1, h2, h3, h4, h5⟩ := h
  have key : ∀ k : Nat, ∀ b : Int, 0 ≤ b → b ≤ B → B - b = (k : Int) → 0 ≤ s b d ∧ s b d ≤ (k : Int) * 1316090880 := by
    intro k
    induction k with
    | zero => intro b a c e; rw [show b = B by omega, h5.1 d d0 d1]; omega
    | succ k ih =>
      intro b a c e
      have q := ih (b + 1) (by omega) (by omega) (by omega)
      have r := h5.2 b d a (by omega) d0 d1
      have u := (h2 b a (by omega)).2
      have v := h3 b d a (by omega) d0 d1
      have w := (h2 b a (by omega)).1
      have m := mul_pos_rng (a := l b) (A := 12) (b := max 0 (y b d - p b)) (B := 109674240) u (by omega)
      rw [r]
      omega
  have := key (B - b).toNat b b0 b1 (by omega)
  omega
theorem lots_rng {m l f : Int → Int} {b B M : Int} (b0 : 0 ≤ b) (b1 : b ≤ B) (hB : B ≤ 5) (hM : 0 ≤ M) (hm : bxd b l m) (hl : ∀ c : Int, 0 ≤ c → c < B → l c ≤ 12) (hf : ∀ c : Int, 0 ≤ c → c < B → 0 ≤ f c ∧ f c ≤ M) : 0 ≤ zsum (fun c => m c * f c) b ∧ zsum (fun c => m c * f c) b ≤ 60 * M := by
  have := zsum_rng2 (f := fun c => m c * f c) (lo := 0) (hi := 12 * M) b0 (fun c c0 c1 => mul_pos_rng (A := 12) (B := M) (by have := hm c c0 c1; have := hl c c0 (by omega); omega) (hf c c0 (by omega)))
  have e : b * (12 * M) ≤ 5 * (12 * M) := Int.mul_le_mul_of_nonneg_right (by omega) (by omega)
  omega
theorem ow_rng {T B : Int} {p l o : Int → Int} {y s : Int → Int → Int} {m : Int → Int} (h : lSt T B p l o y s) {b d : Int} (b0 : 0 ≤ b) (b1 : b ≤ B) (hm : bxd b l m) (d0 : 1 ≤ d) (d1 : d ≤ T) : -6580454400 ≤ owF o y m b d ∧ owF o y m b d ≤ 365580800 := by
  obtain ⟨h1, h2, h3, h4, h5⟩ := h
  have a := lots_rng (f := fun c => y c d) (M := 109674240) b0 b1 h1.2.2 (by omega) hm (fun c c0 c1 => (h2 c c0 c1).2.2) (fun c c0 c1 => h3 c d c0 c1 d0 d1)
  have c := h4 d d0 d1
  have a' : 0 ≤ zsum (fun c => m c * y c d) b ∧ zsum (fun c => m c * y c d) b ≤ 60 * 109674240 := a
  unfold owF
  omega
theorem sp_rng {T B : Int} {p l o : Int → Int} {y s : Int → Int → Int} {m : Int → Int} (h : lSt T B p l o y s) {b : Int} (b0 : 0 ≤ b) (b1 : b ≤ B) (hm : bxd b l m) : 0 ≤ spF p m b ∧ spF p m b ≤ 5483712000 := by
  obtain ⟨h1, h2, h3, h4, h5⟩ := h
  have a := lots_rng (f := p) (M := 91395200) b0 b1 h1.2.2 (by omega) hm (fun c c0 c1 => (h2 c c0 c1).2.2) (fun c c0 c1 => (h2 c c0 c1).1)
  unfold spF
  omega
theorem lst_rng {T B : Int} {p l o : Int → Int} {y s : Int → Int → Int} {m : Int → Int} (h : lSt T B p l o y s) {b : Int} (b0 : 0 ≤ b) (b1 : b ≤ B) (hm : bxd b l m) : 0 ≤ lstF T p o y s m b ∧ lstF T p o y s m b ≤ 5849292800 := by
  have a := sp_rng h b0 b1 hm
  have c := (mx_spec (fun d => owF o y m b d - s b d) T).1
  have d : mx (fun d => owF o y m b d - s b d) T ≤ 365580800 := mx_le (by omega) (fun d d0 d1 => by have := ow_rng h b0 b1 hm d0 d1; have := sav_rng h b0 b1 d0 d1; omega)
  unfold lstF
  omega
theorem ch_T {p m gT uN : Int → Int} {b n : Int} (b0 : 0 ≤ b) (ha : agr b m uN) (hT : gT b = spF p uN b) : zup gT (b + 1) (gT b + n * p b) (b + 1) = spF p (zup m b n) (b + 1) := by
  have : spF p (zup m b n) (b + 1) = spF p (zup m b n) b + zup m b n b * p b := zsum_succ _ b0
  rw [zup_eq, this, spF_agr agr_zup, zup_eq, spF_agr ha, hT]
theorem ch_O {o : Int → Int} {y gO gO' : Int → Int → Int} {m uN : Int → Int} {T b n : Int} (b0 : 0 ≤ b) (ha : agr b m uN) (hO : ∀ d : Int, 1 ≤ d → d ≤ T → gO b d = owF o y uN b d) (hg : ∀ c d : Int, gO' c d = if c = b + 1 ∧ 1 ≤ d ∧ d ≤ T then gO b d - n * y b d else gO c d) : ∀ d : Int, 1 ≤ d → d ≤ T → gO' (b + 1) d = owF o y (zup m b n) (b + 1) d := by
  intro d d0 d1
  rw [hg (b + 1) d, if_pos ⟨rfl, d0, d1⟩, hO d d0 d1]
  have : owF o y (zup m b n) (b + 1) d = owF o y (zup m b n) b d - zup m b n b * y b d := by
    unfold owF
    rw [zsum_succ _ b0]
    omega
  rw [this, owF_agr agr_zup, zup_eq, owF_agr ha]
theorem bxd_zup {l m uN : Int → Int} {b n : Int} (ha : agr b m uN) (hb : bxd b l uN) (hn : 0 ≤ n ∧ n ≤ l b) : bxd (b + 1) l (zup m b n) := fun c c0 c1 => by
  by_cases e : c = b
  · rw [e, zup_eq]; exact hn
  · rw [zup_ne e, ha c c0 (by omega)]; exact hb c c0 (by omega)
theorem agr_up {m uN : Int → Int} {b n : Int} (ha : agr b m uN) : agr (b + 1) (zup m b n) (zup uN b n) := fun c c0 c1 => by
  by_cases e : c = b
  · rw [e, zup_eq, zup_eq]
  · rw [zup_ne e, zup_ne e]; exact ha c c0 (by omega)
theorem sRes_tail {T b B n : Int} {p l o : Int → Int} {y s : Int → Int → Int} {uN : Int → Int} {ch at' : Int} {C : Int → Int} {ch1 at1 : Int} {C1 : Int → Int} {x : Int} (h : sRes T b B p l o y uN (fun m => m b < n) ch at' C ch1 at1 C1) (hl : lSt T B p l o y s) (hb : 0 ≤ b ∧ b < B) (hx : x = fN T p o y s uN b n) (hc : ch1 ≤ x) : sRes T b B p l o y uN (fun m => m b < n + 1) ch at' C ch1 at1 C1 := by
  refine sRes_keep h hb (fun m => m b < n + 1) (fun m a q => ?_) (fun m a q => by show m b < n + 1; omega) (fun m a q z => by omega)
  by_cases z : m b < n
  · exact Or.inl z
  · right
    have q' : m b < n + 1 := q
    have e : lstF T p o y s m (b + 1) = fN T p o y s uN b n := by
      unfold fN
      refine lstF_agr (fun c c0 c1 => ?_)
      by_cases w : c = b
      · rw [w, zup_eq]; omega
      · rw [zup_ne w]; exact a.1 c c0 (by omega)
    have := lst_le (o := o) (b := b + 1) hl.2.2.2.2 (fun c c0 c1 => (hl.2.1 c c0 c1).1.1) (by omega) (by omega) a.2
    omega
theorem sRes_stop {T b B n : Int} {p l o : Int → Int} {y s : Int → Int → Int} {uN : Int → Int} {ch at' : Int} {C : Int → Int} {ch1 at1 : Int} {C1 : Int → Int} {x : Int} (h : sRes T b B p l o y uN (fun m => m b < n) ch at' C ch1 at1 C1) (hl : lSt T B p l o y s) (hb : 0 ≤ b ∧ b < B) (hx : x = fN T p o y s uN b n) (hc : ch1 ≤ x) (hf : fN T p o y s uN b (n - 1) ≤ x) : sRes T b B p l o y uN (fun _ => True) ch at' C ch1 at1 C1 := by
  refine sRes_keep h hb (fun _ => True) (fun m a q => ?_) (fun m a q => trivial) (fun m a q z => by omega)
  by_cases z : m b < n
  · exact Or.inl z
  · right
    have e : lstF T p o y s m (b + 1) = fN T p o y s uN b (m b) := by
      unfold fN
      refine lstF_agr (fun c c0 c1 => ?_)
      by_cases w : c = b
      · rw [w, zup_eq]
      · rw [zup_ne w]; exact a.1 c c0 (by omega)
    have u := lst_le (o := o) (b := b + 1) hl.2.2.2.2 (fun c c0 c1 => (hl.2.1 c c0 c1).1.1) (by omega) (by omega) a.2
    have v := fN_up (n' := m b) hb.1 (by rw [← hx]; exact hf) (by omega)
    omega
theorem sRes_all {T b B n : Int} {p l o : Int → Int} {y : Int → Int → Int} {uN : Int → Int} {ch at' : Int} {C : Int → Int} {ch1 at1 : Int} {C1 : Int → Int} (h : sRes T b B p l o y uN (fun m => m b < n) ch at' C ch1 at1 C1) (hb : 0 ≤ b ∧ b < B) (hn : l b < n) : sRes T b B p l o y uN (fun _ => True) ch at' C ch1 at1 C1 :=
  sRes_eq h (fun m a => ⟨fun _ => trivial, fun _ => by have := a.2 b hb.1 hb.2; show m b < n; omega⟩)
theorem sRes_end {T B : Int} {p l o : Int → Int} {y s : Int → Int → Int} {uN C C1 : Int → Int} {ch at' ch1 at1 : Int} (hl : lSt T B p l o y s) (hb : bxd B l uN) (h1 : ch1 = lstF T p o y s uN B) (h2 : at1 = ch1 - spF p uN B) (h3 : ∀ c : Int, 0 ≤ c → c < B → C1 c = uN c) (hlt : lstF T p o y s uN B < ch) : sRes T B B p l o y uN (fun _ => True) ch at' C ch1 at1 C1 := by
  have e : lstF T p o y s uN B = cstF T B p o y uN := lst_cost hl.2.2.2.2
  refine Or.inr ⟨by omega, uN, ⟨fun c _ _ => rfl, hb⟩, trivial, by omega, by omega, h3, fun m' a _ => ?_⟩
  have e2 : cstF T B p o y m' = cstF T B p o y uN := by
    rw [← lst_cost hl.2.2.2.2, ← lst_cost hl.2.2.2.2]
    exact lstF_agr a.1
  refine ⟨by omega, fun x => ?_⟩
  obtain ⟨j, j0, j1, -⟩ := x
  omega
theorem cho_step {b n d9 : Int} {uO gO : Int → Int → Int} {y : Int → Int → Int} (h : ∀ c d : Int, gO c d = if c = b + 1 ∧ 1 ≤ d ∧ d < d9 then uO b d - n * y b d else uO c d) (h1 : 1 ≤ d9) : ∀ c d : Int, zup2 gO (b + 1) d9 (gO b d9 - n * y b d9) c d = if c = b + 1 ∧ 1 ≤ d ∧ d < d9 + 1 then uO b d - n * y b d else uO c d := by
  intro c d
  by_cases e : c = b + 1 ∧ d = d9
  · obtain ⟨rfl, rfl⟩ := e
    rw [zup2_eq, if_pos ⟨rfl, h1, by omega⟩, h b d, if_neg (by omega)]
  · rw [zup2_ne e, h c d]
    by_cases q : c = b + 1 ∧ 1 ≤ d ∧ d < d9
    · rw [if_pos q, if_pos (by omega)]
    · rw [if_neg q, if_neg (by omega)]

abbrev po_X5_leastCost (z : zC) (vh : Nat) (vc : Nat) (vp : Nat) (vl : Nat) (vy : Nat) (vs : Nat) (vo : Nat) (vt : Nat) (vn : Nat) (rY : Int → Nat) (rS : Int → Nat) (rO : Int → Nat) (vsc : Int) (vch : Int) (vat : Int) (vd : Int) (vb : Int) (uC : Int → Int) (uP : Int → Int) (uL : Int → Int) (uT : Int → Int) (uN : Int → Int) (uY : Int → Int → Int) (uS : Int → Int → Int) (uO : Int → Int → Int) (o8 : Int → Int) (m8 : Int → Int) (b8 : Int) : Option Value → va_W → Prop := fun v w => v = some (Value.long (iL (lstF vd uP o8 uY uS m8 b8))) ∧ w = wLot z vh vc vp vl vy vs vo vt vn rY rS rO vsc vch vat vd vb uC uP uL uT uN uY uS uO
abbrev rm_X5_leastCost : Room := { frames := 1, cells := 0, slots := 0, locals := 40 }
set_option maxHeartbeats 4000000 in
set_option maxRecDepth 100000 in
theorem cc_X5_leastCost (l : Launch) (z : zC) (vh : Nat) (vc : Nat) (vp : Nat) (vl : Nat) (vy : Nat) (vs : Nat) (vo : Nat) (vt : Nat) (vn : Nat) (rY : Int → Nat) (rS : Int → Nat) (rO : Int → Nat) (vsc : Int) (vch : Int) (vat : Int) (vd : Int) (vb : Int) (uC : Int → Int) (uP : Int → Int) (uL : Int → Int) (uT : Int → Int) (uN : Int → Int) (uY : Int → Int → Int) (uS : Int → Int → Int) (uO : Int → Int → Int) (o8 : Int → Int) (m8 : Int → Int) (b8 : Int) (hl : lSt vd vb uP uL o8 uY uS) (hb8 : 0 ≤ b8 ∧ b8 ≤ vb) (hT : uT b8 = spF uP m8 b8) (hO : ∀ d : Int, 1 ≤ d → d ≤ vd → uO b8 d = owF o8 uY m8 b8 d) (hx : bxd b8 uL m8) : zzMet l yX5_leastCost cX5_leastCost 5 (Option.some .long) rm_X5_leastCost z [.ref vh, .int (iI b8)] (wLot z vh vc vp vl vy vs vo vt vn rY rS rO vsc vch vat vd vb uC uP uL uT uN uY uS uO) (po_X5_leastCost z vh vc vp vl vy vs vo vt vn rY rS rO vsc vch vat vd vb uC uP uL uT uN uY uS uO o8 m8 b8) := by
  refine zzMet.of (own := RX5) (ls0 := [(0, .ref vh), (1, .int (iI b8))]) (by decide) rfl (Nat.le_of_ble_eq_true rfl) rfl ?_
  intro p e s m below meth c A C hr hnm
  have hl1 := hl.1
  refine zz_lconst (a := 0) C dX5_leastCost_0 (by decide +kernel) ?_
  refine zz_lstore_n (ls' := [(2, .long (iL 0)), (0, .ref vh), (1, .int (iI b8))]) C dX5_leastCost_1 rfl (by decide) rfl ?_
  refine zz_iconst C dX5_leastCost_2 ?_
  refine zz_istore (ls' := [(4, .int (iI 1)), (2, .long (iL 0)), (0, .ref vh), (1, .int (iI b8))]) C dX5_leastCost_3 (by decide) rfl ?_
  have Lp5 : ∀ (fu9 : Nat) (d9 : Int) (v9 : Int), (1 ≤ d9 ∧ d9 ≤ vd + 1) → (v9 = mx (fun d => owF o8 uY m8 b8 d - uS b8 d) (d9 - 1)) → (0 ≤ v9 ∧ v9 ≤ 365580800) → (vd + 1 - d9).toNat < fu9 → zzW p l e rm_X5_leastCost s m ([.ref vh, .int (iI b8)] : List Value).toArray below meth c z A 5 (MQ below (zQ z A (po_X5_leastCost z vh vc vp vl vy vs vo vt vn rY rS rO vsc vch vat vd vb uC uP uL uT uN uY uS uO o8 m8 b8)) ([.ref vh, .int (iI b8)] : List Value).toArray s 0 0 A) 0 0 (wLot z vh vc vp vl vy vs vo vt vn rY rS rO vsc vch vat vd vb uC uP uL uT uN uY uS uO) [(0, .ref vh), (1, .int (iI b8)), (2, .long (iL v9)), (4, .int (iI d9))] [] 5 := by
    intro fu9
    induction fu9 with
    | zero => intro d9 v9 hd9 hv9 hv8 h9; exact absurd h9 (Nat.not_lt_zero _)
    | succ fu9 ih5 =>
      intro d9 v9 hd9 hv9 hv8 hm5
      refine zz_iload C 3 dX5_leastCost_5 rfl ?_
      refine zz_aload_n C 0 dX5_leastCost_7 rfl rfl ?_
      refine zz_get C 0 (ci := 5) (k := 4) rfl rfl in_X5 (by decide) qw_223 rfl rfl dX5_leastCost_8 ?_
      refine zz_icmp_gt (tgt := 44) C dX5_leastCost_11 (by decide) (by unfold rI; omega) (by unfold rI; omega) (fun c11 => ?_) (fun c11 => ?_)
      · skip
        refine zz_aload_n C 0 dX5_leastCost_44 rfl rfl ?_
        refine zz_get C 0 (ci := 5) (k := 11) rfl rfl in_X5 (by decide) qw_230 rfl rfl dX5_leastCost_45 ?_
        refine zz_iload_n C 1 dX5_leastCost_48 rfl rfl ?_
        refine zz_lald C 7 rfl (by omega) (by omega) (by decide) dX5_leastCost_49 ?_
        refine zz_lload_n C 2 dX5_leastCost_50 rfl rfl ?_
        refine zz_ladd C dX5_leastCost_51 ?_
        exact zz_lret C hr dX5_leastCost_52 ⟨zz_vL (by unfold lstF; rw [hT, hv9, show d9 - 1 = vd by omega]), rfl⟩
      · skip
        have hr1 := ow_rng hl hb8.1 hb8.2 hx (d := d9) (by omega) (by omega)
        have hr2 := sav_rng hl hb8.1 hb8.2 (d := d9) (by omega) (by omega)
        have hr3 := hO d9 (by omega) (by omega)
        refine zz_lload_n C 2 dX5_leastCost_14 rfl rfl ?_
        refine zz_aload_n C 0 dX5_leastCost_15 rfl rfl ?_
        refine zz_get C 0 (ci := 5) (k := 10) rfl rfl in_X5 (by decide) qw_229 rfl rfl dX5_leastCost_16 ?_
        refine zz_iload_n C 1 dX5_leastCost_19 rfl rfl ?_
        refine zz_qald C 6 rfl (by omega) (by omega) (by decide) dX5_leastCost_20 ?_
        refine zz_iload C 3 dX5_leastCost_21 rfl ?_
        refine zz_lald (T := uO b8) C (20 + b8.toNat) (zz_c6 (P := fun i9 => (wLot z vh vc vp vl vy vs vo vt vn rY rS rO vsc vch vat vd vb uC uP uL uT uN uY uS uO : va_W)[20 + i9.toNat]? = some (rO i9, lrow 5 (z.2.1 2) (uO i9))) rfl rfl rfl rfl rfl rfl (by omega) (by omega)) (by omega) (by omega) (by decide) dX5_leastCost_23 ?_
        refine zz_aload_n C 0 dX5_leastCost_24 rfl rfl ?_
        refine zz_get C 0 (ci := 5) (k := 9) rfl rfl in_X5 (by decide) qw_228 rfl rfl dX5_leastCost_25 ?_
        refine zz_iload_n C 1 dX5_leastCost_28 rfl rfl ?_
        refine zz_qald C 5 rfl (by omega) (by omega) (by decide) dX5_leastCost_29 ?_
        refine zz_iload C 3 dX5_leastCost_30 rfl ?_
        refine zz_lald (T := uS b8) C (14 + b8.toNat) (zz_c6 (P := fun i9 => (wLot z vh vc vp vl vy vs vo vt vn rY rS rO vsc vch vat vd vb uC uP uL uT uN uY uS uO : va_W)[14 + i9.toNat]? = some (rS i9, lrow 5 (z.2.1 2) (uS i9))) rfl rfl rfl rfl rfl rfl (by omega) (by omega)) (by omega) (by omega) (by decide) dX5_leastCost_32 ?_
        refine zz_lsub C dX5_leastCost_33 ?_
        refine zz_mmax C qw_773 (by unfold rL; omega) (by unfold rL; omega) ⟨by decide, by decide⟩ ⟨by decide, by decide⟩ dX5_leastCost_34 ?_
        refine zz_lstore_n (ls' := [(2, .long (iL (max v9 ((uO b8 d9) - (uS b8 d9))))), (0, .ref vh), (1, .int (iI b8)), (4, .int (iI d9))]) C dX5_leastCost_37 rfl (by decide) rfl ?_
        refine zz_iinc (ls' := [(4, .int (iI (d9 + 1))), (2, .long (iL (max v9 ((uO b8 d9) - (uS b8 d9))))), (0, .ref vh), (1, .int (iI b8))]) C 3 dX5_leastCost_38 rfl (by decide) rfl ?_
        refine zz_goto (tgt := 5) C dX5_leastCost_41 (by decide) ?_
        refine zz_loc (ls' := [(0, .ref vh), (1, .int (iI b8)), (2, .long (iL (max v9 ((uO b8 d9) - (uS b8 d9))))), (4, .int (iI (d9 + 1)))]) [2, 3, 1, 0] rfl ?_
        exact ih5 (d9 + 1) (max v9 ((uO b8 d9) - (uS b8 d9))) (by omega) (by rw [hO d9 (by omega) (by omega), hv9, show d9 + 1 - 1 = d9 - 1 + 1 by omega, mx_succ _ (by omega), show d9 - 1 + 1 = d9 by omega]) (by omega) (by omega)
  refine zz_loc (ls' := [(0, .ref vh), (1, .int (iI b8)), (2, .long (iL 0)), (4, .int (iI 1))]) [2, 3, 1, 0] rfl ?_
  exact Lp5 _ 1 0 (by omega) rfl (by omega) (Nat.lt_succ_self _)
abbrev po_X5_choose (z : zC) (vh : Nat) (vc : Nat) (vp : Nat) (vl : Nat) (vy : Nat) (vs : Nat) (vo : Nat) (vt : Nat) (vn : Nat) (rY : Int → Nat) (rS : Int → Nat) (rO : Int → Nat) (vsc : Int) (vch : Int) (vat : Int) (vd : Int) (vb : Int) (uC : Int → Int) (uP : Int → Int) (uL : Int → Int) (uT : Int → Int) (uN : Int → Int) (uY : Int → Int → Int) (uS : Int → Int → Int) (uO : Int → Int → Int) (b8 : Int) (n8 : Int) : Option Value → va_W → Prop := fun v w => ∃ (gO : Int → Int → Int), (∀ c d : Int, gO c d = if c = b8 + 1 ∧ 1 ≤ d ∧ d ≤ vd then uO b8 d - n8 * uY b8 d else uO c d) ∧ v = none ∧ w = wLot z vh vc vp vl vy vs vo vt vn rY rS rO vsc vch vat vd vb uC uP uL (zup uT (b8 + 1) (uT b8 + n8 * uP b8)) (zup uN b8 n8) uY uS gO
abbrev rm_X5_choose : Room := { frames := 1, cells := 0, slots := 0, locals := 40 }
set_option maxHeartbeats 4000000 in
set_option maxRecDepth 100000 in
theorem cc_X5_choose (l : Launch) (z : zC) (vh : Nat) (vc : Nat) (vp : Nat) (vl : Nat) (vy : Nat) (vs : Nat) (vo : Nat) (vt : Nat) (vn : Nat) (rY : Int → Nat) (rS : Int → Nat) (rO : Int → Nat) (vsc : Int) (vch : Int) (vat : Int) (vd : Int) (vb : Int) (uC : Int → Int) (uP : Int → Int) (uL : Int → Int) (uT : Int → Int) (uN : Int → Int) (uY : Int → Int → Int) (uS : Int → Int → Int) (uO : Int → Int → Int) (b8 : Int) (n8 : Int) (hvd : 1 ≤ vd ∧ vd ≤ 4) (hb8 : 0 ≤ b8 ∧ b8 < 5) (hn8 : 0 ≤ n8 ∧ n8 ≤ 12) : zzMet l yX5_choose cX5_choose 4 none rm_X5_choose z [.ref vh, .int (iI b8), .int (iI n8)] (wLot z vh vc vp vl vy vs vo vt vn rY rS rO vsc vch vat vd vb uC uP uL uT uN uY uS uO) (po_X5_choose z vh vc vp vl vy vs vo vt vn rY rS rO vsc vch vat vd vb uC uP uL uT uN uY uS uO b8 n8) := by
  refine zzMet.of (own := RX5) (ls0 := [(0, .ref vh), (1, .int (iI b8)), (2, .int (iI n8))]) (by decide) rfl (Nat.le_of_ble_eq_true rfl) rfl ?_
  intro p e s m below meth c A C hr hnm
  refine zz_aload_n C 0 dX5_choose_0 rfl rfl ?_
  refine zz_get C 0 (ci := 5) (k := 12) rfl rfl in_X5 (by decide) qw_231 rfl rfl dX5_choose_1 ?_
  refine zz_iload_n C 1 dX5_choose_4 rfl rfl ?_
  refine zz_iload_n C 2 dX5_choose_5 rfl rfl ?_
  refine zz_iast (ws' := wLot z vh vc vp vl vy vs vo vt vn rY rS rO vsc vch vat vd vb uC uP uL uT (zup uN b8 n8) uY uS uO) C 8 rfl (by omega) (by omega) (by decide) rfl dX5_choose_6 ?_
  refine zz_aload_n C 0 dX5_choose_7 rfl rfl ?_
  refine zz_get C 0 (ci := 5) (k := 11) rfl rfl in_X5 (by decide) qw_230 rfl rfl dX5_choose_8 ?_
  refine zz_iload_n C 1 dX5_choose_11 rfl rfl ?_
  refine zz_iconst C dX5_choose_12 ?_
  refine zz_iadd C dX5_choose_13 ?_
  refine zz_aload_n C 0 dX5_choose_14 rfl rfl ?_
  refine zz_get C 0 (ci := 5) (k := 11) rfl rfl in_X5 (by decide) qw_230 rfl rfl dX5_choose_15 ?_
  refine zz_iload_n C 1 dX5_choose_18 rfl rfl ?_
  refine zz_lald C 7 rfl (by omega) (by omega) (by decide) dX5_choose_19 ?_
  refine zz_iload_n C 2 dX5_choose_20 rfl rfl ?_
  refine zz_i2l C dX5_choose_21 (by unfold rI; omega) ?_
  refine zz_aload_n C 0 dX5_choose_22 rfl rfl ?_
  refine zz_get C 0 (ci := 5) (k := 6) rfl rfl in_X5 (by decide) qw_225 rfl rfl dX5_choose_23 ?_
  refine zz_iload_n C 1 dX5_choose_26 rfl rfl ?_
  refine zz_lald C 2 rfl (by omega) (by omega) (by decide) dX5_choose_27 ?_
  refine zz_lmul C dX5_choose_28 ?_
  refine zz_ladd C dX5_choose_29 ?_
  refine zz_last (ws' := wLot z vh vc vp vl vy vs vo vt vn rY rS rO vsc vch vat vd vb uC uP uL (zup uT (b8 + 1) ((uT b8) + (n8 * (uP b8)))) (zup uN b8 n8) uY uS uO) C 7 rfl (by omega) (by omega) (by decide) rfl dX5_choose_30 ?_
  refine zz_iconst C dX5_choose_31 ?_
  refine zz_istore_n (ls' := [(3, .int (iI 1)), (0, .ref vh), (1, .int (iI b8)), (2, .int (iI n8))]) C dX5_choose_32 rfl (by decide) rfl ?_
  have Lp33 : ∀ (fu9 : Nat) (d9 : Int) (gO : Int → Int → Int), (1 ≤ d9 ∧ d9 ≤ vd + 1) → (∀ c d : Int, gO c d = if c = b8 + 1 ∧ 1 ≤ d ∧ d < d9 then uO b8 d - n8 * uY b8 d else uO c d) → (vd + 1 - d9).toNat < fu9 → zzW p l e rm_X5_choose s m ([.ref vh, .int (iI b8), .int (iI n8)] : List Value).toArray below meth c z A 4 (MQ below (zQ z A (po_X5_choose z vh vc vp vl vy vs vo vt vn rY rS rO vsc vch vat vd vb uC uP uL uT uN uY uS uO b8 n8)) ([.ref vh, .int (iI b8), .int (iI n8)] : List Value).toArray s 0 0 A) 0 0 (wLot z vh vc vp vl vy vs vo vt vn rY rS rO vsc vch vat vd vb uC uP uL (zup uT (b8 + 1) ((uT b8) + (n8 * (uP b8)))) (zup uN b8 n8) uY uS gO) [(0, .ref vh), (1, .int (iI b8)), (2, .int (iI n8)), (3, .int (iI d9))] [] 33 := by
    intro fu9
    induction fu9 with
    | zero => intro d9 gO hd9 hgO h9; exact absurd h9 (Nat.not_lt_zero _)
    | succ fu9 ih33 =>
      intro d9 gO hd9 hgO hm33
      refine zz_iload_n C 3 dX5_choose_33 rfl rfl ?_
      refine zz_aload_n C 0 dX5_choose_34 rfl rfl ?_
      refine zz_get C 0 (ci := 5) (k := 4) rfl rfl in_X5 (by decide) qw_223 rfl rfl dX5_choose_35 ?_
      refine zz_icmp_gt (tgt := 77) C dX5_choose_38 (by decide) (by unfold rI; omega) (by unfold rI; omega) (fun c38 => ?_) (fun c38 => ?_)
      · skip
        exact zz_vret C hr dX5_choose_77 ⟨gO, fun c d => by rw [hgO c d]; (repeat' split) <;> first | rfl | (exfalso; omega), rfl, rfl⟩
      · skip
        refine zz_aload_n C 0 dX5_choose_41 rfl rfl ?_
        refine zz_get C 0 (ci := 5) (k := 10) rfl rfl in_X5 (by decide) qw_229 rfl rfl dX5_choose_42 ?_
        refine zz_iload_n C 1 dX5_choose_45 rfl rfl ?_
        refine zz_iconst C dX5_choose_46 ?_
        refine zz_iadd C dX5_choose_47 ?_
        refine zz_qald C 6 rfl (by omega) (by omega) (by decide) dX5_choose_48 ?_
        refine zz_iload_n C 3 dX5_choose_49 rfl rfl ?_
        refine zz_aload_n C 0 dX5_choose_50 rfl rfl ?_
        refine zz_get C 0 (ci := 5) (k := 10) rfl rfl in_X5 (by decide) qw_229 rfl rfl dX5_choose_51 ?_
        refine zz_iload_n C 1 dX5_choose_54 rfl rfl ?_
        refine zz_qald C 6 rfl (by omega) (by omega) (by decide) dX5_choose_55 ?_
        refine zz_iload_n C 3 dX5_choose_56 rfl rfl ?_
        refine zz_lald (T := gO b8) C (20 + b8.toNat) (zz_c6 (P := fun i9 => (wLot z vh vc vp vl vy vs vo vt vn rY rS rO vsc vch vat vd vb uC uP uL (zup uT (b8 + 1) ((uT b8) + (n8 * (uP b8)))) (zup uN b8 n8) uY uS gO : va_W)[20 + i9.toNat]? = some (rO i9, lrow 5 (z.2.1 2) (gO i9))) rfl rfl rfl rfl rfl rfl (by omega) (by omega)) (by omega) (by omega) (by decide) dX5_choose_57 ?_
        refine zz_iload_n C 2 dX5_choose_58 rfl rfl ?_
        refine zz_i2l C dX5_choose_59 (by unfold rI; omega) ?_
        refine zz_aload_n C 0 dX5_choose_60 rfl rfl ?_
        refine zz_get C 0 (ci := 5) (k := 8) rfl rfl in_X5 (by decide) qw_227 rfl rfl dX5_choose_61 ?_
        refine zz_iload_n C 1 dX5_choose_64 rfl rfl ?_
        refine zz_qald C 4 rfl (by omega) (by omega) (by decide) dX5_choose_65 ?_
        refine zz_iload_n C 3 dX5_choose_66 rfl rfl ?_
        refine zz_lald (T := uY b8) C (9 + b8.toNat) (zz_c5 (P := fun i9 => (wLot z vh vc vp vl vy vs vo vt vn rY rS rO vsc vch vat vd vb uC uP uL (zup uT (b8 + 1) ((uT b8) + (n8 * (uP b8)))) (zup uN b8 n8) uY uS gO : va_W)[9 + i9.toNat]? = some (rY i9, lrow 5 (z.2.1 2) (uY i9))) rfl rfl rfl rfl rfl (by omega) (by omega)) (by omega) (by omega) (by decide) dX5_choose_67 ?_
        refine zz_lmul C dX5_choose_68 ?_
        refine zz_lsub C dX5_choose_69 ?_
        refine zz_last (T := gO (b8 + 1)) (ws' := wLot z vh vc vp vl vy vs vo vt vn rY rS rO vsc vch vat vd vb uC uP uL (zup uT (b8 + 1) ((uT b8) + (n8 * (uP b8)))) (zup uN b8 n8) uY uS (zup2 gO (b8 + 1) d9 ((gO b8 d9) - (n8 * (uY b8 d9))))) C (20 + (b8 + 1).toNat) (zz_c6 (P := fun i9 => (wLot z vh vc vp vl vy vs vo vt vn rY rS rO vsc vch vat vd vb uC uP uL (zup uT (b8 + 1) ((uT b8) + (n8 * (uP b8)))) (zup uN b8 n8) uY uS gO : va_W)[20 + i9.toNat]? = some (rO i9, lrow 5 (z.2.1 2) (gO i9))) rfl rfl rfl rfl rfl rfl (by omega) (by omega)) (by omega) (by omega) (by decide) (zz_c6 (P := fun i9 => (wLot z vh vc vp vl vy vs vo vt vn rY rS rO vsc vch vat vd vb uC uP uL (zup uT (b8 + 1) ((uT b8) + (n8 * (uP b8)))) (zup uN b8 n8) uY uS gO : va_W).set (20 + i9.toNat) (rO i9, lrow 5 (z.2.1 2) (zup (gO i9) d9 ((gO b8 d9) - (n8 * (uY b8 d9))))) = (wLot z vh vc vp vl vy vs vo vt vn rY rS rO vsc vch vat vd vb uC uP uL (zup uT (b8 + 1) ((uT b8) + (n8 * (uP b8)))) (zup uN b8 n8) uY uS (zup2 gO i9 d9 ((gO b8 d9) - (n8 * (uY b8 d9)))))) rfl rfl rfl rfl rfl rfl (by omega) (by omega)) dX5_choose_70 ?_
        refine zz_iinc (ls' := [(3, .int (iI (d9 + 1))), (0, .ref vh), (1, .int (iI b8)), (2, .int (iI n8))]) C 3 dX5_choose_71 rfl (by decide) rfl ?_
        refine zz_goto (tgt := 33) C dX5_choose_74 (by decide) ?_
        refine zz_loc (ls' := [(0, .ref vh), (1, .int (iI b8)), (2, .int (iI n8)), (3, .int (iI (d9 + 1)))]) [1, 2, 3, 0] rfl ?_
        exact ih33 (d9 + 1) (zup2 gO (b8 + 1) d9 ((gO b8 d9) - (n8 * (uY b8 d9)))) (by omega) (cho_step hgO hd9.1) (by omega)
  refine zz_loc (ls' := [(0, .ref vh), (1, .int (iI b8)), (2, .int (iI n8)), (3, .int (iI 1))]) [1, 2, 3, 0] rfl ?_
  exact Lp33 _ 1 uO (by omega) (fun c d => by rw [if_neg (by omega)]) (Nat.lt_succ_self _)
abbrev po_X5_keep (z : zC) (vh : Nat) (vc : Nat) (vp : Nat) (vl : Nat) (vy : Nat) (vs : Nat) (vo : Nat) (vt : Nat) (vn : Nat) (rY : Int → Nat) (rS : Int → Nat) (rO : Int → Nat) (vsc : Int) (vch : Int) (vat : Int) (vd : Int) (vb : Int) (uC : Int → Int) (uP : Int → Int) (uL : Int → Int) (uT : Int → Int) (uN : Int → Int) (uY : Int → Int → Int) (uS : Int → Int → Int) (uO : Int → Int → Int) (o8 : Int → Int) : Option Value → va_W → Prop := fun v w => ∃ (gC : Int → Int), (∀ c : Int, 0 ≤ c → c < vb → gC c = uN c) ∧ v = none ∧ w = wLot z vh vc vp vl vy vs vo vt vn rY rS rO vsc (lstF vd uP o8 uY uS uN vb) (lstF vd uP o8 uY uS uN vb - uT vb) vd vb gC uP uL uT uN uY uS uO
abbrev rm_X5_keep : Room := { frames := 2, cells := 0, slots := 0, locals := 64 }
set_option maxHeartbeats 4000000 in
set_option maxRecDepth 100000 in
theorem cc_X5_keep (l : Launch) (z : zC) (vh : Nat) (vc : Nat) (vp : Nat) (vl : Nat) (vy : Nat) (vs : Nat) (vo : Nat) (vt : Nat) (vn : Nat) (rY : Int → Nat) (rS : Int → Nat) (rO : Int → Nat) (vsc : Int) (vch : Int) (vat : Int) (vd : Int) (vb : Int) (uC : Int → Int) (uP : Int → Int) (uL : Int → Int) (uT : Int → Int) (uN : Int → Int) (uY : Int → Int → Int) (uS : Int → Int → Int) (uO : Int → Int → Int) (o8 : Int → Int) (hl : lSt vd vb uP uL o8 uY uS) (hT : uT vb = spF uP uN vb) (hO : ∀ d : Int, 1 ≤ d → d ≤ vd → uO vb d = owF o8 uY uN vb d) (hx : bxd vb uL uN) : zzMet l yX5_keep cX5_keep 2 none rm_X5_keep z [.ref vh] (wLot z vh vc vp vl vy vs vo vt vn rY rS rO vsc vch vat vd vb uC uP uL uT uN uY uS uO) (po_X5_keep z vh vc vp vl vy vs vo vt vn rY rS rO vsc vch vat vd vb uC uP uL uT uN uY uS uO o8) := by
  refine zzMet.of (own := RX5) (ls0 := [(0, .ref vh)]) (by decide) rfl (Nat.le_of_ble_eq_true rfl) rfl ?_
  intro p e s m below meth c A C hr hnm
  have hl1 := hl.1
  refine zz_aload_n C 0 dX5_keep_0 rfl rfl ?_
  refine zz_aload_n C 0 dX5_keep_1 rfl rfl ?_
  refine zz_aload_n C 0 dX5_keep_2 rfl rfl ?_
  refine zz_get C 0 (ci := 5) (k := 5) rfl rfl in_X5 (by decide) qw_224 rfl rfl dX5_keep_3 ?_
  refine zz_callV (wr := ([] : va_W)) (st := [.ref vh]) C (cc_X5_leastCost l z vh vc vp vl vy vs vo vt vn rY rS rO vsc vch vat vd vb uC uP uL uT uN uY uS uO o8 uN vb hl (by omega) hT hO hx) yk_X5_leastCost qw_785 ⟨by decide, by decide⟩ [0, 1, 2, 3, 4, 5, 6, 7, 8, 9, 10, 11, 12, 13, 14, 15, 16, 17, 18, 19, 20, 21, 22, 23, 24, 25] [] rfl rfl rfl rfl (by decide) 0 5 rfl rfl rfl rfl (Nat.le_of_ble_eq_true rfl) dX5_keep_6 ⟨by decide, by decide⟩ ?_
  rintro _ _ ⟨rfl, rfl⟩
  refine zz_st (st' := [.long (iL (lstF vd uP o8 uY uS uN vb)), .ref vh]) rfl (zz_ws (ws' := wLot z vh vc vp vl vy vs vo vt vn rY rS rO vsc vch vat vd vb uC uP uL uT uN uY uS uO) rfl ?_)
  refine zz_put (ty := .long) (ws' := wLot z vh vc vp vl vy vs vo vt vn rY rS rO vsc (lstF vd uP o8 uY uS uN vb) vat vd vb uC uP uL uT uN uY uS uO) C 0 (ci := 5) (k := 1) rfl rfl in_X5 tyX5 tyX5_ok nmX5 (by decide) qw_217 rfl rfl (by decide +kernel) rfl rfl (Nat.le_of_ble_eq_true rfl) rfl dX5_keep_9 ?_
  refine zz_aload_n C 0 dX5_keep_12 rfl rfl ?_
  refine zz_aload_n C 0 dX5_keep_13 rfl rfl ?_
  refine zz_get C 0 (ci := 5) (k := 1) rfl rfl in_X5 (by decide) qw_217 rfl rfl dX5_keep_14 ?_
  refine zz_aload_n C 0 dX5_keep_17 rfl rfl ?_
  refine zz_get C 0 (ci := 5) (k := 11) rfl rfl in_X5 (by decide) qw_230 rfl rfl dX5_keep_18 ?_
  refine zz_aload_n C 0 dX5_keep_21 rfl rfl ?_
  refine zz_get C 0 (ci := 5) (k := 5) rfl rfl in_X5 (by decide) qw_224 rfl rfl dX5_keep_22 ?_
  refine zz_lald C 7 rfl (by omega) (by omega) (by decide) dX5_keep_25 ?_
  refine zz_lsub C dX5_keep_26 ?_
  refine zz_put (ty := .long) (ws' := wLot z vh vc vp vl vy vs vo vt vn rY rS rO vsc (lstF vd uP o8 uY uS uN vb) ((lstF vd uP o8 uY uS uN vb) - (uT vb)) vd vb uC uP uL uT uN uY uS uO) C 0 (ci := 5) (k := 2) rfl rfl in_X5 tyX5 tyX5_ok nmX5 (by decide) qw_219 rfl rfl (by decide +kernel) rfl rfl (Nat.le_of_ble_eq_true rfl) rfl dX5_keep_27 ?_
  refine zz_iconst C dX5_keep_30 ?_
  refine zz_istore_n (ls' := [(1, .int (iI 0)), (0, .ref vh)]) C dX5_keep_31 rfl (by decide) rfl ?_
  have Lp32 : ∀ (fu9 : Nat) (k : Int) (gC : Int → Int), (0 ≤ k ∧ k ≤ vb) → (∀ c : Int, 0 ≤ c → c < k → gC c = uN c) → (vb - k).toNat < fu9 → zzW p l e rm_X5_keep s m ([.ref vh] : List Value).toArray below meth c z A 2 (MQ below (zQ z A (po_X5_keep z vh vc vp vl vy vs vo vt vn rY rS rO vsc vch vat vd vb uC uP uL uT uN uY uS uO o8)) ([.ref vh] : List Value).toArray s 0 0 A) 0 0 (wLot z vh vc vp vl vy vs vo vt vn rY rS rO vsc (lstF vd uP o8 uY uS uN vb) ((lstF vd uP o8 uY uS uN vb) - (uT vb)) vd vb gC uP uL uT uN uY uS uO) [(0, .ref vh), (1, .int (iI k))] [] 32 := by
    intro fu9
    induction fu9 with
    | zero => intro k gC hk hgC h9; exact absurd h9 (Nat.not_lt_zero _)
    | succ fu9 ih32 =>
      intro k gC hk hgC hm32
      refine zz_iload_n C 1 dX5_keep_32 rfl rfl ?_
      refine zz_aload_n C 0 dX5_keep_33 rfl rfl ?_
      refine zz_get C 0 (ci := 5) (k := 5) rfl rfl in_X5 (by decide) qw_224 rfl rfl dX5_keep_34 ?_
      refine zz_icmp_ge (tgt := 58) C dX5_keep_37 (by decide) (by unfold rI; omega) (by unfold rI; omega) (fun c37 => ?_) (fun c37 => ?_)
      · skip
        exact zz_vret C hr dX5_keep_58 ⟨gC, fun c h0 h1 => hgC c h0 (by omega), rfl, rfl⟩
      · skip
        refine zz_aload_n C 0 dX5_keep_40 rfl rfl ?_
        refine zz_get C 0 (ci := 5) (k := 3) rfl rfl in_X5 (by decide) qw_221 rfl rfl dX5_keep_41 ?_
        refine zz_iload_n C 1 dX5_keep_44 rfl rfl ?_
        refine zz_aload_n C 0 dX5_keep_45 rfl rfl ?_
        refine zz_get C 0 (ci := 5) (k := 12) rfl rfl in_X5 (by decide) qw_231 rfl rfl dX5_keep_46 ?_
        refine zz_iload_n C 1 dX5_keep_49 rfl rfl ?_
        refine zz_iald C 8 rfl (by omega) (by omega) (by decide) dX5_keep_50 ?_
        refine zz_iast (ws' := wLot z vh vc vp vl vy vs vo vt vn rY rS rO vsc (lstF vd uP o8 uY uS uN vb) ((lstF vd uP o8 uY uS uN vb) - (uT vb)) vd vb (zup gC k (uN k)) uP uL uT uN uY uS uO) C 1 rfl (by omega) (by omega) (by decide) rfl dX5_keep_51 ?_
        refine zz_iinc (ls' := [(1, .int (iI (k + 1))), (0, .ref vh)]) C 1 dX5_keep_52 rfl (by decide) rfl ?_
        refine zz_goto (tgt := 32) C dX5_keep_55 (by decide) ?_
        refine zz_loc (ls' := [(0, .ref vh), (1, .int (iI (k + 1)))]) [1, 0] rfl ?_
        exact ih32 (k + 1) (zup gC k (uN k)) (by omega) (zup_all hgC rfl) (by omega)
  refine zz_loc (ls' := [(0, .ref vh), (1, .int (iI 0))]) [1, 0] rfl ?_
  exact Lp32 _ 0 uC (by omega) (fun c h0 h1 => by omega) (Nat.lt_succ_self _)
abbrev po_X5_search_0 (z : zC) (vh : Nat) (vc : Nat) (vp : Nat) (vl : Nat) (vy : Nat) (vs : Nat) (vo : Nat) (vt : Nat) (vn : Nat) (rY : Int → Nat) (rS : Int → Nat) (rO : Int → Nat) (vsc : Int) (vch : Int) (vat : Int) (vd : Int) (vb : Int) (uC : Int → Int) (uP : Int → Int) (uL : Int → Int) (uT : Int → Int) (uN : Int → Int) (uY : Int → Int → Int) (uS : Int → Int → Int) (uO : Int → Int → Int) (o8 : Int → Int) (b8 : Int) : Option Value → va_W → Prop := fun v w => ∃ (gh9 : Int), ∃ (ga9 : Int), ∃ (gC : Int → Int), ∃ (gN : Int → Int), ∃ (gT : Int → Int), ∃ (gO : Int → Int → Int), (agr b8 gN uN ∧ (∀ c : Int, 0 ≤ c → c ≤ b8 → gT c = uT c) ∧ (∀ c d : Int, 0 ≤ c → c ≤ b8 → gO c d = uO c d)) ∧ (0 ≤ gh9 ∧ gh9 ≤ 9223372036854775807) ∧ (sRes vd b8 vb uP uL o8 uY uN (fun _ => True) vch vat uC gh9 ga9 gC) ∧ v = none ∧ w = wLot z vh vc vp vl vy vs vo vt vn rY rS rO vsc gh9 ga9 vd vb gC uP uL gT gN uY uS gO
abbrev rm_X5_search_0 : Room := { frames := 3, cells := 0, slots := 0, locals := 85 }
set_option maxHeartbeats 4000000 in
set_option maxRecDepth 100000 in
theorem cc_X5_search_0 (l : Launch) (z : zC) (vh : Nat) (vc : Nat) (vp : Nat) (vl : Nat) (vy : Nat) (vs : Nat) (vo : Nat) (vt : Nat) (vn : Nat) (rY : Int → Nat) (rS : Int → Nat) (rO : Int → Nat) (vsc : Int) (vch : Int) (vat : Int) (vd : Int) (vb : Int) (uC : Int → Int) (uP : Int → Int) (uL : Int → Int) (uT : Int → Int) (uN : Int → Int) (uY : Int → Int → Int) (uS : Int → Int → Int) (uO : Int → Int → Int) (o8 : Int → Int) (b8 : Int) (hl : lSt vd vb uP uL o8 uY uS) (hb8 : 0 ≤ b8 ∧ b8 + 0 = vb) (hT : uT b8 = spF uP uN b8) (hO : ∀ d : Int, 1 ≤ d → d ≤ vd → uO b8 d = owF o8 uY uN b8 d) (hx : bxd b8 uL uN) (hch : 0 ≤ vch ∧ vch ≤ 9223372036854775807) (hlt : lstF vd uP o8 uY uS uN b8 < vch) : zzMet l yX5_search cX5_search 7 none rm_X5_search_0 z [.ref vh, .int (iI b8)] (wLot z vh vc vp vl vy vs vo vt vn rY rS rO vsc vch vat vd vb uC uP uL uT uN uY uS uO) (po_X5_search_0 z vh vc vp vl vy vs vo vt vn rY rS rO vsc vch vat vd vb uC uP uL uT uN uY uS uO o8 b8) := by
  refine zzMet.of (own := RX5) (ls0 := [(0, .ref vh), (1, .int (iI b8))]) (by decide) rfl (Nat.le_of_ble_eq_true rfl) rfl ?_
  intro p e s m below meth c A C hr hnm
  have hl1 := hl.1
  have hbe : b8 = vb := by omega
  rw [hbe] at hT hO hx hlt
  have hr9 := lst_rng hl (b := vb) (by omega) (Int.le_refl vb) hx
  refine zz_iload_n C 1 dX5_search_0 rfl rfl ?_
  refine zz_aload_n C 0 dX5_search_1 rfl rfl ?_
  refine zz_get C 0 (ci := 5) (k := 5) rfl rfl in_X5 (by decide) qw_224 rfl rfl dX5_search_2 ?_
  refine zz_icmp_lt (tgt := 13) C dX5_search_5 (by decide) (by unfold rI; omega) (by unfold rI; omega) (fun c5 => ?_) (fun c5 => ?_)
  · skip
    exfalso; omega
  · skip
    refine zz_aload_n C 0 dX5_search_8 rfl rfl ?_
    refine zz_callV (wr := ([] : va_W)) (st := []) C (cc_X5_keep l z vh vc vp vl vy vs vo vt vn rY rS rO vsc vch vat vd vb uC uP uL uT uN uY uS uO o8 hl hT hO hx) yk_X5_keep qw_781 ⟨by decide, by decide⟩ [0, 1, 2, 3, 4, 5, 6, 7, 8, 9, 10, 11, 12, 13, 14, 15, 16, 17, 18, 19, 20, 21, 22, 23, 24, 25] [] rfl rfl rfl rfl (by decide) 0 5 rfl rfl rfl rfl (Nat.le_of_ble_eq_true rfl) dX5_search_9 ⟨by decide, by decide⟩ ?_
    rintro _ _ ⟨gC_9, hgC_9, rfl, rfl⟩
    refine zz_st (st' := []) rfl (zz_ws (ws' := wLot z vh vc vp vl vy vs vo vt vn rY rS rO vsc (lstF vd uP o8 uY uS uN vb) (lstF vd uP o8 uY uS uN vb - uT vb) vd vb gC_9 uP uL uT uN uY uS uO) rfl ?_)
    exact zz_vret C hr dX5_search_12 ⟨_, _, _, _, _, _, ⟨fun _ _ _ => rfl, fun _ _ _ => rfl, fun _ _ _ _ => rfl⟩, by omega, by rw [hbe]; exact sRes_end hl hx rfl (by rw [hT]) hgC_9 hlt, rfl, rfl⟩
abbrev po_X5_search_1 (z : zC) (vh : Nat) (vc : Nat) (vp : Nat) (vl : Nat) (vy : Nat) (vs : Nat) (vo : Nat) (vt : Nat) (vn : Nat) (rY : Int → Nat) (rS : Int → Nat) (rO : Int → Nat) (vsc : Int) (vch : Int) (vat : Int) (vd : Int) (vb : Int) (uC : Int → Int) (uP : Int → Int) (uL : Int → Int) (uT : Int → Int) (uN : Int → Int) (uY : Int → Int → Int) (uS : Int → Int → Int) (uO : Int → Int → Int) (o8 : Int → Int) (b8 : Int) : Option Value → va_W → Prop := fun v w => ∃ (gh9 : Int), ∃ (ga9 : Int), ∃ (gC : Int → Int), ∃ (gN : Int → Int), ∃ (gT : Int → Int), ∃ (gO : Int → Int → Int), (agr b8 gN uN ∧ (∀ c : Int, 0 ≤ c → c ≤ b8 → gT c = uT c) ∧ (∀ c d : Int, 0 ≤ c → c ≤ b8 → gO c d = uO c d)) ∧ (0 ≤ gh9 ∧ gh9 ≤ 9223372036854775807) ∧ (sRes vd b8 vb uP uL o8 uY uN (fun _ => True) vch vat uC gh9 ga9 gC) ∧ v = none ∧ w = wLot z vh vc vp vl vy vs vo vt vn rY rS rO vsc gh9 ga9 vd vb gC uP uL gT gN uY uS gO
abbrev rm_X5_search_1 : Room := { frames := 4, cells := 0, slots := 0, locals := 111 }
set_option maxHeartbeats 4000000 in
set_option maxRecDepth 100000 in
theorem cc_X5_search_1 (l : Launch) (z : zC) (vh : Nat) (vc : Nat) (vp : Nat) (vl : Nat) (vy : Nat) (vs : Nat) (vo : Nat) (vt : Nat) (vn : Nat) (rY : Int → Nat) (rS : Int → Nat) (rO : Int → Nat) (vsc : Int) (vch : Int) (vat : Int) (vd : Int) (vb : Int) (uC : Int → Int) (uP : Int → Int) (uL : Int → Int) (uT : Int → Int) (uN : Int → Int) (uY : Int → Int → Int) (uS : Int → Int → Int) (uO : Int → Int → Int) (o8 : Int → Int) (b8 : Int) (hl : lSt vd vb uP uL o8 uY uS) (hb8 : 0 ≤ b8 ∧ b8 + 1 = vb) (hT : uT b8 = spF uP uN b8) (hO : ∀ d : Int, 1 ≤ d → d ≤ vd → uO b8 d = owF o8 uY uN b8 d) (hx : bxd b8 uL uN) (hch : 0 ≤ vch ∧ vch ≤ 9223372036854775807) (hlt : lstF vd uP o8 uY uS uN b8 < vch) : zzMet l yX5_search cX5_search 7 none rm_X5_search_1 z [.ref vh, .int (iI b8)] (wLot z vh vc vp vl vy vs vo vt vn rY rS rO vsc vch vat vd vb uC uP uL uT uN uY uS uO) (po_X5_search_1 z vh vc vp vl vy vs vo vt vn rY rS rO vsc vch vat vd vb uC uP uL uT uN uY uS uO o8 b8) := by
  refine zzMet.of (own := RX5) (ls0 := [(0, .ref vh), (1, .int (iI b8))]) (by decide) rfl (Nat.le_of_ble_eq_true rfl) rfl ?_
  intro p e s m below meth c A C hr hnm
  have hl1 := hl.1
  have hlb := hl.2.1 b8 (by omega) (by omega)
  refine zz_iload_n C 1 dX5_search_0 rfl rfl ?_
  refine zz_aload_n C 0 dX5_search_1 rfl rfl ?_
  refine zz_get C 0 (ci := 5) (k := 5) rfl rfl in_X5 (by decide) qw_224 rfl rfl dX5_search_2 ?_
  refine zz_icmp_lt (tgt := 13) C dX5_search_5 (by decide) (by unfold rI; omega) (by unfold rI; omega) (fun c5 => ?_) (fun c5 => ?_)
  · skip
    refine zz_ldc2 (a := 9223372036854775807) C qw_776 (by decide +kernel) dX5_search_13 ?_
    refine zz_lstore_n (ls' := [(2, .long (iL 9223372036854775807)), (0, .ref vh), (1, .int (iI b8))]) C dX5_search_16 rfl (by decide) rfl ?_
    refine zz_iconst C dX5_search_17 ?_
    refine zz_istore (ls' := [(4, .int (iI 0)), (2, .long (iL 9223372036854775807)), (0, .ref vh), (1, .int (iI b8))]) C dX5_search_18 (by decide) rfl ?_
    have Lp20 : ∀ (fu9 : Nat) (n9 : Int) (bf : Int) (gh9 : Int) (ga9 : Int) (gC : Int → Int) (gN : Int → Int) (gT : Int → Int) (gO : Int → Int → Int), (0 ≤ n9 ∧ n9 ≤ uL b8 + 1) → (agr b8 gN uN ∧ (∀ c : Int, 0 ≤ c → c ≤ b8 → gT c = uT c) ∧ (∀ c d : Int, 0 ≤ c → c ≤ b8 → gO c d = uO c d)) → (0 ≤ gh9 ∧ gh9 ≤ 9223372036854775807) → ((n9 = 0 ∧ bf = 9223372036854775807) ∨ (1 ≤ n9 ∧ bf = fN vd uP o8 uY uS uN b8 (n9 - 1))) → (0 ≤ bf ∧ bf ≤ 9223372036854775807) → (sRes vd b8 vb uP uL o8 uY uN (fun m => m b8 < n9) vch vat uC gh9 ga9 gC) → (uL b8 + 1 - n9).toNat < fu9 → zzW p l e rm_X5_search_1 s m ([.ref vh, .int (iI b8)] : List Value).toArray below meth c z A 7 (MQ below (zQ z A (po_X5_search_1 z vh vc vp vl vy vs vo vt vn rY rS rO vsc vch vat vd vb uC uP uL uT uN uY uS uO o8 b8)) ([.ref vh, .int (iI b8)] : List Value).toArray s 0 0 A) 0 0 (wLot z vh vc vp vl vy vs vo vt vn rY rS rO vsc gh9 ga9 vd vb gC uP uL gT gN uY uS gO) [(0, .ref vh), (1, .int (iI b8)), (2, .long (iL bf)), (4, .int (iI n9))] [] 20 := by
      intro fu9
      induction fu9 with
      | zero => intro n9 bf gh9 ga9 gC gN gT gO hn9 hfr hgh hbf hbr hres h9; exact absurd h9 (Nat.not_lt_zero _)
      | succ fu9 ih20 =>
        intro n9 bf gh9 ga9 gC gN gT gO hn9 hfr hgh hbf hbr hres hm20
        refine zz_iload C 3 dX5_search_20 rfl ?_
        refine zz_aload_n C 0 dX5_search_22 rfl rfl ?_
        refine zz_get C 0 (ci := 5) (k := 7) rfl rfl in_X5 (by decide) qw_226 rfl rfl dX5_search_23 ?_
        refine zz_iload_n C 1 dX5_search_26 rfl rfl ?_
        refine zz_iald C 3 rfl (by omega) (by omega) (by decide) dX5_search_27 ?_
        refine zz_icmp_gt (tgt := 84) C dX5_search_28 (by decide) (by unfold rI; omega) (by unfold rI; omega) (fun c28 => ?_) (fun c28 => ?_)
        · skip
          exact zz_vret C hr dX5_search_84 ⟨_, _, _, _, _, _, hfr, hgh, sRes_all hres (by omega) (by omega), rfl, rfl⟩
        · skip
          refine zz_aload_n C 0 dX5_search_31 rfl rfl ?_
          refine zz_iload_n C 1 dX5_search_32 rfl rfl ?_
          refine zz_iload C 3 dX5_search_33 rfl ?_
          refine zz_callV (wr := ([] : va_W)) (st := []) C (cc_X5_choose l z vh vc vp vl vy vs vo vt vn rY rS rO vsc gh9 ga9 vd vb gC uP uL gT gN uY uS gO b8 n9 (by omega) (by omega) (by omega)) yk_X5_choose qw_789 ⟨by decide, by decide⟩ [0, 1, 2, 3, 4, 5, 6, 7, 8, 9, 10, 11, 12, 13, 14, 15, 16, 17, 18, 19, 20, 21, 22, 23, 24, 25] [] rfl rfl rfl rfl (by decide) 0 5 rfl rfl rfl rfl (Nat.le_of_ble_eq_true rfl) dX5_search_35 ⟨by decide, by decide⟩ ?_
          rintro _ _ ⟨gO_35, hgO_35, rfl, rfl⟩
          refine zz_st (st' := []) rfl (zz_ws (ws' := wLot z vh vc vp vl vy vs vo vt vn rY rS rO vsc gh9 ga9 vd vb gC uP uL (zup gT (b8 + 1) (gT b8 + n9 * uP b8)) (zup gN b8 n9) uY uS gO_35) rfl ?_)
          have hT9 := ch_T (p := uP) (n := n9) (m := gN) (gT := gT) hb8.1 hfr.1 (by rw [hfr.2.1 b8 hb8.1 (by omega)]; exact hT)
          have hO9 := ch_O (o := o8) (T := vd) (m := gN) hb8.1 hfr.1 (fun d d0 d1 => by rw [hfr.2.2 b8 d hb8.1 (by omega)]; exact hO d d0 d1) hgO_35
          have hx9 := bxd_zup (n := n9) hfr.1 hx (by omega)
          have hr9 := lst_rng hl (b := b8 + 1) (by omega) (by omega) hx9
          have hfe : lstF vd uP o8 uY uS (zup gN b8 n9) (b8 + 1) = fN vd uP o8 uY uS uN b8 n9 := lstF_agr (agr_up hfr.1)
          have hfrC : agr b8 (zup gN b8 n9) uN ∧ (∀ c : Int, 0 ≤ c → c ≤ b8 → zup gT (b8 + 1) (gT b8 + n9 * uP b8) c = uT c) ∧ (∀ c d : Int, 0 ≤ c → c ≤ b8 → gO_35 c d = uO c d) := ⟨fun c c0 c1 => by rw [zup_ne (by omega)]; exact hfr.1 c c0 c1, fun c c0 c1 => by rw [zup_ne (by omega)]; exact hfr.2.1 c c0 c1, fun c d c0 c1 => by rw [hgO_35 c d, if_neg (by omega)]; exact hfr.2.2 c d c0 c1⟩
          refine zz_aload_n C 0 dX5_search_38 rfl rfl ?_
          refine zz_iload_n C 1 dX5_search_39 rfl rfl ?_
          refine zz_iconst C dX5_search_40 ?_
          refine zz_iadd C dX5_search_41 ?_
          refine zz_callV (wr := ([] : va_W)) (st := []) C (cc_X5_leastCost l z vh vc vp vl vy vs vo vt vn rY rS rO vsc gh9 ga9 vd vb gC uP uL (zup gT (b8 + 1) (gT b8 + n9 * uP b8)) (zup gN b8 n9) uY uS gO_35 o8 (zup gN b8 n9) (b8 + 1) hl (by omega) hT9 hO9 hx9) yk_X5_leastCost qw_785 ⟨by decide, by decide⟩ [0, 1, 2, 3, 4, 5, 6, 7, 8, 9, 10, 11, 12, 13, 14, 15, 16, 17, 18, 19, 20, 21, 22, 23, 24, 25] [] rfl rfl rfl rfl (by decide) 0 5 rfl rfl rfl rfl (Nat.le_of_ble_eq_true rfl) dX5_search_42 ⟨by decide, by decide⟩ ?_
          rintro _ _ ⟨rfl, rfl⟩
          refine zz_st (st' := [.long (iL (lstF vd uP o8 uY uS (zup gN b8 n9) (b8 + 1)))]) rfl (zz_ws (ws' := wLot z vh vc vp vl vy vs vo vt vn rY rS rO vsc gh9 ga9 vd vb gC uP uL (zup gT (b8 + 1) (gT b8 + n9 * uP b8)) (zup gN b8 n9) uY uS gO_35) rfl ?_)
          refine zz_lstore (ls' := [(5, .long (iL (lstF vd uP o8 uY uS (zup gN b8 n9) (b8 + 1)))), (0, .ref vh), (1, .int (iI b8)), (2, .long (iL bf)), (4, .int (iI n9))]) C dX5_search_45 (by decide) rfl ?_
          refine zz_lload C 0 dX5_search_47 rfl ?_
          refine zz_aload_n C 1 dX5_search_49 rfl rfl ?_
          refine zz_get C 0 (ci := 5) (k := 1) rfl rfl in_X5 (by decide) qw_217 rfl rfl dX5_search_50 ?_
          refine zz_lcmp_ge (tgt := 67) C dX5_search_53 dX5_search_54 (by decide) (by unfold rL; omega) (by unfold rL; omega) (fun c53 => ?_) (fun c53 => ?_)
          · skip
            refine zz_lload C 0 dX5_search_67 rfl ?_
            refine zz_lload_n C 3 dX5_search_69 rfl rfl ?_
            refine zz_lcmp_lt (tgt := 75) C dX5_search_70 dX5_search_71 (by decide) (by unfold rL; omega) (by unfold rL; omega) (fun c70 => ?_) (fun c70 => ?_)
            · skip
              have hfr9 := hfrC
              have hres9 := sRes_tail hres hl (by omega) hfe (by omega)
              refine zz_lload C 0 dX5_search_75 rfl ?_
              refine zz_lstore_n (ls' := [(2, .long (iL (lstF vd uP o8 uY uS (zup gN b8 n9) (b8 + 1)))), (5, .long (iL (lstF vd uP o8 uY uS (zup gN b8 n9) (b8 + 1)))), (0, .ref vh), (1, .int (iI b8)), (4, .int (iI n9))]) C dX5_search_77 rfl (by decide) rfl ?_
              refine zz_iinc (ls' := [(4, .int (iI (n9 + 1))), (2, .long (iL (lstF vd uP o8 uY uS (zup gN b8 n9) (b8 + 1)))), (5, .long (iL (lstF vd uP o8 uY uS (zup gN b8 n9) (b8 + 1)))), (0, .ref vh), (1, .int (iI b8))]) C 4 dX5_search_78 rfl (by decide) rfl ?_
              refine zz_goto (tgt := 20) C dX5_search_81 (by decide) ?_
              refine zz_loc (ls' := [(0, .ref vh), (1, .int (iI b8)), (2, .long (iL (lstF vd uP o8 uY uS (zup gN b8 n9) (b8 + 1)))), (4, .int (iI (n9 + 1)))]) [3, 4, 1, 0] rfl ?_
              exact ih20 (n9 + 1) (lstF vd uP o8 uY uS (zup gN b8 n9) (b8 + 1)) gh9 ga9 gC (zup gN b8 n9) (zup gT (b8 + 1) (gT b8 + n9 * uP b8)) gO_35 (by omega) hfr9 (by omega) (Or.inr ⟨by omega, by rw [show n9 + 1 - 1 = n9 by omega]; exact hfe⟩) (by omega) hres9 (by omega)
            · skip
              exact zz_vret C hr dX5_search_74 ⟨_, _, _, _, _, _, hfrC, hgh, sRes_stop hres hl (by omega) hfe (by omega) (by rcases hbf with h | h; omega; rw [← h.2]; omega), rfl, rfl⟩
          · skip
            have hlt9 := c53
            refine zz_aload_n C 1 dX5_search_57 rfl rfl ?_
            refine zz_iload_n C 2 dX5_search_58 rfl rfl ?_
            refine zz_iconst C dX5_search_59 ?_
            refine zz_iadd C dX5_search_60 ?_
            refine zz_callV (wr := ([] : va_W)) (st := []) C (cc_X5_search_0 l z vh vc vp vl vy vs vo vt vn rY rS rO vsc gh9 ga9 vd vb gC uP uL (zup gT (b8 + 1) (gT b8 + n9 * uP b8)) (zup gN b8 n9) uY uS gO_35 o8 (b8 + 1) hl (by omega) hT9 hO9 hx9 (by omega) c53) yk_X5_search qw_777 ⟨by decide, by decide⟩ [0, 1, 2, 3, 4, 5, 6, 7, 8, 9, 10, 11, 12, 13, 14, 15, 16, 17, 18, 19, 20, 21, 22, 23, 24, 25] [] rfl rfl rfl rfl (by decide) 0 5 rfl rfl rfl rfl (Nat.le_of_ble_eq_true rfl) dX5_search_61 ⟨by decide, by decide⟩ ?_
            rintro _ _ ⟨gh9_61, ga9_61, gC_61, gN_61, gT_61, gO_61, hfr_61, hgh_61, hres_61, rfl, rfl⟩
            refine zz_st (st' := []) rfl (zz_ws (ws' := wLot z vh vc vp vl vy vs vo vt vn rY rS rO vsc gh9_61 ga9_61 vd vb gC_61 uP uL gT_61 gN_61 uY uS gO_61) rfl ?_)
            have hfr9 : agr b8 gN_61 uN ∧ (∀ c : Int, 0 ≤ c → c ≤ b8 → gT_61 c = uT c) ∧ (∀ c d : Int, 0 ≤ c → c ≤ b8 → gO_61 c d = uO c d) := ⟨fun c c0 c1 => by rw [hfr_61.1 c c0 (by omega)]; exact hfrC.1 c c0 c1, fun c c0 c1 => by rw [hfr_61.2.1 c c0 (by omega)]; exact hfrC.2.1 c c0 c1, fun c d c0 c1 => by rw [hfr_61.2.2 c d c0 (by omega)]; exact hfrC.2.2 c d c0 c1⟩
            have hres9 := sRes_join hres (by omega) (⟨hfrC.1, zup_eq _ _ _⟩ : agr b8 (zup gN b8 n9) uN ∧ zup gN b8 n9 b8 = n9) hres_61
            refine zz_goto (tgt := 75) C dX5_search_64 (by decide) ?_
            refine zz_lload C 0 dX5_search_75 rfl ?_
            refine zz_lstore_n (ls' := [(2, .long (iL (lstF vd uP o8 uY uS (zup gN b8 n9) (b8 + 1)))), (5, .long (iL (lstF vd uP o8 uY uS (zup gN b8 n9) (b8 + 1)))), (0, .ref vh), (1, .int (iI b8)), (4, .int (iI n9))]) C dX5_search_77 rfl (by decide) rfl ?_
            refine zz_iinc (ls' := [(4, .int (iI (n9 + 1))), (2, .long (iL (lstF vd uP o8 uY uS (zup gN b8 n9) (b8 + 1)))), (5, .long (iL (lstF vd uP o8 uY uS (zup gN b8 n9) (b8 + 1)))), (0, .ref vh), (1, .int (iI b8))]) C 4 dX5_search_78 rfl (by decide) rfl ?_
            refine zz_goto (tgt := 20) C dX5_search_81 (by decide) ?_
            refine zz_loc (ls' := [(0, .ref vh), (1, .int (iI b8)), (2, .long (iL (lstF vd uP o8 uY uS (zup gN b8 n9) (b8 + 1)))), (4, .int (iI (n9 + 1)))]) [3, 4, 1, 0] rfl ?_
            exact ih20 (n9 + 1) (lstF vd uP o8 uY uS (zup gN b8 n9) (b8 + 1)) gh9_61 ga9_61 gC_61 gN_61 gT_61 gO_61 (by omega) hfr9 (by omega) (Or.inr ⟨by omega, by rw [show n9 + 1 - 1 = n9 by omega]; exact hfe⟩) (by omega) hres9 (by omega)
    refine zz_loc (ls' := [(0, .ref vh), (1, .int (iI b8)), (2, .long (iL 9223372036854775807)), (4, .int (iI 0))]) [2, 3, 1, 0] rfl ?_
    exact Lp20 _ 0 9223372036854775807 vch vat uC uN uT uO (by omega) ⟨fun _ _ _ => rfl, fun _ _ _ => rfl, fun _ _ _ _ => rfl⟩ (by omega) (Or.inl ⟨rfl, rfl⟩) (by omega) (sRes_0.resolve_right (fun h => h ⟨by omega, by omega⟩)) (Nat.lt_succ_self _)
  · skip
    exfalso; omega
abbrev po_X5_search_2 (z : zC) (vh : Nat) (vc : Nat) (vp : Nat) (vl : Nat) (vy : Nat) (vs : Nat) (vo : Nat) (vt : Nat) (vn : Nat) (rY : Int → Nat) (rS : Int → Nat) (rO : Int → Nat) (vsc : Int) (vch : Int) (vat : Int) (vd : Int) (vb : Int) (uC : Int → Int) (uP : Int → Int) (uL : Int → Int) (uT : Int → Int) (uN : Int → Int) (uY : Int → Int → Int) (uS : Int → Int → Int) (uO : Int → Int → Int) (o8 : Int → Int) (b8 : Int) : Option Value → va_W → Prop := fun v w => ∃ (gh9 : Int), ∃ (ga9 : Int), ∃ (gC : Int → Int), ∃ (gN : Int → Int), ∃ (gT : Int → Int), ∃ (gO : Int → Int → Int), (agr b8 gN uN ∧ (∀ c : Int, 0 ≤ c → c ≤ b8 → gT c = uT c) ∧ (∀ c d : Int, 0 ≤ c → c ≤ b8 → gO c d = uO c d)) ∧ (0 ≤ gh9 ∧ gh9 ≤ 9223372036854775807) ∧ (sRes vd b8 vb uP uL o8 uY uN (fun _ => True) vch vat uC gh9 ga9 gC) ∧ v = none ∧ w = wLot z vh vc vp vl vy vs vo vt vn rY rS rO vsc gh9 ga9 vd vb gC uP uL gT gN uY uS gO
abbrev rm_X5_search_2 : Room := { frames := 5, cells := 0, slots := 0, locals := 137 }
set_option maxHeartbeats 4000000 in
set_option maxRecDepth 100000 in
theorem cc_X5_search_2 (l : Launch) (z : zC) (vh : Nat) (vc : Nat) (vp : Nat) (vl : Nat) (vy : Nat) (vs : Nat) (vo : Nat) (vt : Nat) (vn : Nat) (rY : Int → Nat) (rS : Int → Nat) (rO : Int → Nat) (vsc : Int) (vch : Int) (vat : Int) (vd : Int) (vb : Int) (uC : Int → Int) (uP : Int → Int) (uL : Int → Int) (uT : Int → Int) (uN : Int → Int) (uY : Int → Int → Int) (uS : Int → Int → Int) (uO : Int → Int → Int) (o8 : Int → Int) (b8 : Int) (hl : lSt vd vb uP uL o8 uY uS) (hb8 : 0 ≤ b8 ∧ b8 + 2 = vb) (hT : uT b8 = spF uP uN b8) (hO : ∀ d : Int, 1 ≤ d → d ≤ vd → uO b8 d = owF o8 uY uN b8 d) (hx : bxd b8 uL uN) (hch : 0 ≤ vch ∧ vch ≤ 9223372036854775807) (hlt : lstF vd uP o8 uY uS uN b8 < vch) : zzMet l yX5_search cX5_search 7 none rm_X5_search_2 z [.ref vh, .int (iI b8)] (wLot z vh vc vp vl vy vs vo vt vn rY rS rO vsc vch vat vd vb uC uP uL uT uN uY uS uO) (po_X5_search_2 z vh vc vp vl vy vs vo vt vn rY rS rO vsc vch vat vd vb uC uP uL uT uN uY uS uO o8 b8) := by
  refine zzMet.of (own := RX5) (ls0 := [(0, .ref vh), (1, .int (iI b8))]) (by decide) rfl (Nat.le_of_ble_eq_true rfl) rfl ?_
  intro p e s m below meth c A C hr hnm
  have hl1 := hl.1
  have hlb := hl.2.1 b8 (by omega) (by omega)
  refine zz_iload_n C 1 dX5_search_0 rfl rfl ?_
  refine zz_aload_n C 0 dX5_search_1 rfl rfl ?_
  refine zz_get C 0 (ci := 5) (k := 5) rfl rfl in_X5 (by decide) qw_224 rfl rfl dX5_search_2 ?_
  refine zz_icmp_lt (tgt := 13) C dX5_search_5 (by decide) (by unfold rI; omega) (by unfold rI; omega) (fun c5 => ?_) (fun c5 => ?_)
  · skip
    refine zz_ldc2 (a := 9223372036854775807) C qw_776 (by decide +kernel) dX5_search_13 ?_
    refine zz_lstore_n (ls' := [(2, .long (iL 9223372036854775807)), (0, .ref vh), (1, .int (iI b8))]) C dX5_search_16 rfl (by decide) rfl ?_
    refine zz_iconst C dX5_search_17 ?_
    refine zz_istore (ls' := [(4, .int (iI 0)), (2, .long (iL 9223372036854775807)), (0, .ref vh), (1, .int (iI b8))]) C dX5_search_18 (by decide) rfl ?_
    have Lp20 : ∀ (fu9 : Nat) (n9 : Int) (bf : Int) (gh9 : Int) (ga9 : Int) (gC : Int → Int) (gN : Int → Int) (gT : Int → Int) (gO : Int → Int → Int), (0 ≤ n9 ∧ n9 ≤ uL b8 + 1) → (agr b8 gN uN ∧ (∀ c : Int, 0 ≤ c → c ≤ b8 → gT c = uT c) ∧ (∀ c d : Int, 0 ≤ c → c ≤ b8 → gO c d = uO c d)) → (0 ≤ gh9 ∧ gh9 ≤ 9223372036854775807) → ((n9 = 0 ∧ bf = 9223372036854775807) ∨ (1 ≤ n9 ∧ bf = fN vd uP o8 uY uS uN b8 (n9 - 1))) → (0 ≤ bf ∧ bf ≤ 9223372036854775807) → (sRes vd b8 vb uP uL o8 uY uN (fun m => m b8 < n9) vch vat uC gh9 ga9 gC) → (uL b8 + 1 - n9).toNat < fu9 → zzW p l e rm_X5_search_2 s m ([.ref vh, .int (iI b8)] : List Value).toArray below meth c z A 7 (MQ below (zQ z A (po_X5_search_2 z vh vc vp vl vy vs vo vt vn rY rS rO vsc vch vat vd vb uC uP uL uT uN uY uS uO o8 b8)) ([.ref vh, .int (iI b8)] : List Value).toArray s 0 0 A) 0 0 (wLot z vh vc vp vl vy vs vo vt vn rY rS rO vsc gh9 ga9 vd vb gC uP uL gT gN uY uS gO) [(0, .ref vh), (1, .int (iI b8)), (2, .long (iL bf)), (4, .int (iI n9))] [] 20 := by
      intro fu9
      induction fu9 with
      | zero => intro n9 bf gh9 ga9 gC gN gT gO hn9 hfr hgh hbf hbr hres h9; exact absurd h9 (Nat.not_lt_zero _)
      | succ fu9 ih20 =>
        intro n9 bf gh9 ga9 gC gN gT gO hn9 hfr hgh hbf hbr hres hm20
        refine zz_iload C 3 dX5_search_20 rfl ?_
        refine zz_aload_n C 0 dX5_search_22 rfl rfl ?_
        refine zz_get C 0 (ci := 5) (k := 7) rfl rfl in_X5 (by decide) qw_226 rfl rfl dX5_search_23 ?_
        refine zz_iload_n C 1 dX5_search_26 rfl rfl ?_
        refine zz_iald C 3 rfl (by omega) (by omega) (by decide) dX5_search_27 ?_
        refine zz_icmp_gt (tgt := 84) C dX5_search_28 (by decide) (by unfold rI; omega) (by unfold rI; omega) (fun c28 => ?_) (fun c28 => ?_)
        · skip
          exact zz_vret C hr dX5_search_84 ⟨_, _, _, _, _, _, hfr, hgh, sRes_all hres (by omega) (by omega), rfl, rfl⟩
        · skip
          refine zz_aload_n C 0 dX5_search_31 rfl rfl ?_
          refine zz_iload_n C 1 dX5_search_32 rfl rfl ?_
          refine zz_iload C 3 dX5_search_33 rfl ?_
          refine zz_callV (wr := ([] : va_W)) (st := []) C (cc_X5_choose l z vh vc vp vl vy vs vo vt vn rY rS rO vsc gh9 ga9 vd vb gC uP uL gT gN uY uS gO b8 n9 (by omega) (by omega) (by omega)) yk_X5_choose qw_789 ⟨by decide, by decide⟩ [0, 1, 2, 3, 4, 5, 6, 7, 8, 9, 10, 11, 12, 13, 14, 15, 16, 17, 18, 19, 20, 21, 22, 23, 24, 25] [] rfl rfl rfl rfl (by decide) 0 5 rfl rfl rfl rfl (Nat.le_of_ble_eq_true rfl) dX5_search_35 ⟨by decide, by decide⟩ ?_
          rintro _ _ ⟨gO_35, hgO_35, rfl, rfl⟩
          refine zz_st (st' := []) rfl (zz_ws (ws' := wLot z vh vc vp vl vy vs vo vt vn rY rS rO vsc gh9 ga9 vd vb gC uP uL (zup gT (b8 + 1) (gT b8 + n9 * uP b8)) (zup gN b8 n9) uY uS gO_35) rfl ?_)
          have hT9 := ch_T (p := uP) (n := n9) (m := gN) (gT := gT) hb8.1 hfr.1 (by rw [hfr.2.1 b8 hb8.1 (by omega)]; exact hT)
          have hO9 := ch_O (o := o8) (T := vd) (m := gN) hb8.1 hfr.1 (fun d d0 d1 => by rw [hfr.2.2 b8 d hb8.1 (by omega)]; exact hO d d0 d1) hgO_35
          have hx9 := bxd_zup (n := n9) hfr.1 hx (by omega)
          have hr9 := lst_rng hl (b := b8 + 1) (by omega) (by omega) hx9
          have hfe : lstF vd uP o8 uY uS (zup gN b8 n9) (b8 + 1) = fN vd uP o8 uY uS uN b8 n9 := lstF_agr (agr_up hfr.1)
          have hfrC : agr b8 (zup gN b8 n9) uN ∧ (∀ c : Int, 0 ≤ c → c ≤ b8 → zup gT (b8 + 1) (gT b8 + n9 * uP b8) c = uT c) ∧ (∀ c d : Int, 0 ≤ c → c ≤ b8 → gO_35 c d = uO c d) := ⟨fun c c0 c1 => by rw [zup_ne (by omega)]; exact hfr.1 c c0 c1, fun c c0 c1 => by rw [zup_ne (by omega)]; exact hfr.2.1 c c0 c1, fun c d c0 c1 => by rw [hgO_35 c d, if_neg (by omega)]; exact hfr.2.2 c d c0 c1⟩
          refine zz_aload_n C 0 dX5_search_38 rfl rfl ?_
          refine zz_iload_n C 1 dX5_search_39 rfl rfl ?_
          refine zz_iconst C dX5_search_40 ?_
          refine zz_iadd C dX5_search_41 ?_
          refine zz_callV (wr := ([] : va_W)) (st := []) C (cc_X5_leastCost l z vh vc vp vl vy vs vo vt vn rY rS rO vsc gh9 ga9 vd vb gC uP uL (zup gT (b8 + 1) (gT b8 + n9 * uP b8)) (zup gN b8 n9) uY uS gO_35 o8 (zup gN b8 n9) (b8 + 1) hl (by omega) hT9 hO9 hx9) yk_X5_leastCost qw_785 ⟨by decide, by decide⟩ [0, 1, 2, 3, 4, 5, 6, 7, 8, 9, 10, 11, 12, 13, 14, 15, 16, 17, 18, 19, 20, 21, 22, 23, 24, 25] [] rfl rfl rfl rfl (by decide) 0 5 rfl rfl rfl rfl (Nat.le_of_ble_eq_true rfl) dX5_search_42 ⟨by decide, by decide⟩ ?_
          rintro _ _ ⟨rfl, rfl⟩
          refine zz_st (st' := [.long (iL (lstF vd uP o8 uY uS (zup gN b8 n9) (b8 + 1)))]) rfl (zz_ws (ws' := wLot z vh vc vp vl vy vs vo vt vn rY rS rO vsc gh9 ga9 vd vb gC uP uL (zup gT (b8 + 1) (gT b8 + n9 * uP b8)) (zup gN b8 n9) uY uS gO_35) rfl ?_)
          refine zz_lstore (ls' := [(5, .long (iL (lstF vd uP o8 uY uS (zup gN b8 n9) (b8 + 1)))), (0, .ref vh), (1, .int (iI b8)), (2, .long (iL bf)), (4, .int (iI n9))]) C dX5_search_45 (by decide) rfl ?_
          refine zz_lload C 0 dX5_search_47 rfl ?_
          refine zz_aload_n C 1 dX5_search_49 rfl rfl ?_
          refine zz_get C 0 (ci := 5) (k := 1) rfl rfl in_X5 (by decide) qw_217 rfl rfl dX5_search_50 ?_
          refine zz_lcmp_ge (tgt := 67) C dX5_search_53 dX5_search_54 (by decide) (by unfold rL; omega) (by unfold rL; omega) (fun c53 => ?_) (fun c53 => ?_)
          · skip
            refine zz_lload C 0 dX5_search_67 rfl ?_
            refine zz_lload_n C 3 dX5_search_69 rfl rfl ?_
            refine zz_lcmp_lt (tgt := 75) C dX5_search_70 dX5_search_71 (by decide) (by unfold rL; omega) (by unfold rL; omega) (fun c70 => ?_) (fun c70 => ?_)
            · skip
              have hfr9 := hfrC
              have hres9 := sRes_tail hres hl (by omega) hfe (by omega)
              refine zz_lload C 0 dX5_search_75 rfl ?_
              refine zz_lstore_n (ls' := [(2, .long (iL (lstF vd uP o8 uY uS (zup gN b8 n9) (b8 + 1)))), (5, .long (iL (lstF vd uP o8 uY uS (zup gN b8 n9) (b8 + 1)))), (0, .ref vh), (1, .int (iI b8)), (4, .int (iI n9))]) C dX5_search_77 rfl (by decide) rfl ?_
              refine zz_iinc (ls' := [(4, .int (iI (n9 + 1))), (2, .long (iL (lstF vd uP o8 uY uS (zup gN b8 n9) (b8 + 1)))), (5, .long (iL (lstF vd uP o8 uY uS (zup gN b8 n9) (b8 + 1)))), (0, .ref vh), (1, .int (iI b8))]) C 4 dX5_search_78 rfl (by decide) rfl ?_
              refine zz_goto (tgt := 20) C dX5_search_81 (by decide) ?_
              refine zz_loc (ls' := [(0, .ref vh), (1, .int (iI b8)), (2, .long (iL (lstF vd uP o8 uY uS (zup gN b8 n9) (b8 + 1)))), (4, .int (iI (n9 + 1)))]) [3, 4, 1, 0] rfl ?_
              exact ih20 (n9 + 1) (lstF vd uP o8 uY uS (zup gN b8 n9) (b8 + 1)) gh9 ga9 gC (zup gN b8 n9) (zup gT (b8 + 1) (gT b8 + n9 * uP b8)) gO_35 (by omega) hfr9 (by omega) (Or.inr ⟨by omega, by rw [show n9 + 1 - 1 = n9 by omega]; exact hfe⟩) (by omega) hres9 (by omega)
            · skip
              exact zz_vret C hr dX5_search_74 ⟨_, _, _, _, _, _, hfrC, hgh, sRes_stop hres hl (by omega) hfe (by omega) (by rcases hbf with h | h; omega; rw [← h.2]; omega), rfl, rfl⟩
          · skip
            have hlt9 := c53
            refine zz_aload_n C 1 dX5_search_57 rfl rfl ?_
            refine zz_iload_n C 2 dX5_search_58 rfl rfl ?_
            refine zz_iconst C dX5_search_59 ?_
            refine zz_iadd C dX5_search_60 ?_
            refine zz_callV (wr := ([] : va_W)) (st := []) C (cc_X5_search_1 l z vh vc vp vl vy vs vo vt vn rY rS rO vsc gh9 ga9 vd vb gC uP uL (zup gT (b8 + 1) (gT b8 + n9 * uP b8)) (zup gN b8 n9) uY uS gO_35 o8 (b8 + 1) hl (by omega) hT9 hO9 hx9 (by omega) c53) yk_X5_search qw_777 ⟨by decide, by decide⟩ [0, 1, 2, 3, 4, 5, 6, 7, 8, 9, 10, 11, 12, 13, 14, 15, 16, 17, 18, 19, 20, 21, 22, 23, 24, 25] [] rfl rfl rfl rfl (by decide) 0 5 rfl rfl rfl rfl (Nat.le_of_ble_eq_true rfl) dX5_search_61 ⟨by decide, by decide⟩ ?_
            rintro _ _ ⟨gh9_61, ga9_61, gC_61, gN_61, gT_61, gO_61, hfr_61, hgh_61, hres_61, rfl, rfl⟩
            refine zz_st (st' := []) rfl (zz_ws (ws' := wLot z vh vc vp vl vy vs vo vt vn rY rS rO vsc gh9_61 ga9_61 vd vb gC_61 uP uL gT_61 gN_61 uY uS gO_61) rfl ?_)
            have hfr9 : agr b8 gN_61 uN ∧ (∀ c : Int, 0 ≤ c → c ≤ b8 → gT_61 c = uT c) ∧ (∀ c d : Int, 0 ≤ c → c ≤ b8 → gO_61 c d = uO c d) := ⟨fun c c0 c1 => by rw [hfr_61.1 c c0 (by omega)]; exact hfrC.1 c c0 c1, fun c c0 c1 => by rw [hfr_61.2.1 c c0 (by omega)]; exact hfrC.2.1 c c0 c1, fun c d c0 c1 => by rw [hfr_61.2.2 c d c0 (by omega)]; exact hfrC.2.2 c d c0 c1⟩
            have hres9 := sRes_join hres (by omega) (⟨hfrC.1, zup_eq _ _ _⟩ : agr b8 (zup gN b8 n9) uN ∧ zup gN b8 n9 b8 = n9) hres_61
            refine zz_goto (tgt := 75) C dX5_search_64 (by decide) ?_
            refine zz_lload C 0 dX5_search_75 rfl ?_
            refine zz_lstore_n (ls' := [(2, .long (iL (lstF vd uP o8 uY uS (zup gN b8 n9) (b8 + 1)))), (5, .long (iL (lstF vd uP o8 uY uS (zup gN b8 n9) (b8 + 1)))), (0, .ref vh), (1, .int (iI b8)), (4, .int (iI n9))]) C dX5_search_77 rfl (by decide) rfl ?_
            refine zz_iinc (ls' := [(4, .int (iI (n9 + 1))), (2, .long (iL (lstF vd uP o8 uY uS (zup gN b8 n9) (b8 + 1)))), (5, .long (iL (lstF vd uP o8 uY uS (zup gN b8 n9) (b8 + 1)))), (0, .ref vh), (1, .int (iI b8))]) C 4 dX5_search_78 rfl (by decide) rfl ?_
            refine zz_goto (tgt := 20) C dX5_search_81 (by decide) ?_
            refine zz_loc (ls' := [(0, .ref vh), (1, .int (iI b8)), (2, .long (iL (lstF vd uP o8 uY uS (zup gN b8 n9) (b8 + 1)))), (4, .int (iI (n9 + 1)))]) [3, 4, 1, 0] rfl ?_
            exact ih20 (n9 + 1) (lstF vd uP o8 uY uS (zup gN b8 n9) (b8 + 1)) gh9_61 ga9_61 gC_61 gN_61 gT_61 gO_61 (by omega) hfr9 (by omega) (Or.inr ⟨by omega, by rw [show n9 + 1 - 1 = n9 by omega]; exact hfe⟩) (by omega) hres9 (by omega)
    refine zz_loc (ls' := [(0, .ref vh), (1, .int (iI b8)), (2, .long (iL 9223372036854775807)), (4, .int (iI 0))]) [2, 3, 1, 0] rfl ?_
    exact Lp20 _ 0 9223372036854775807 vch vat uC uN uT uO (by omega) ⟨fun _ _ _ => rfl, fun _ _ _ => rfl, fun _ _ _ _ => rfl⟩ (by omega) (Or.inl ⟨rfl, rfl⟩) (by omega) (sRes_0.resolve_right (fun h => h ⟨by omega, by omega⟩)) (Nat.lt_succ_self _)
  · skip
    exfalso; omega
abbrev po_X5_search_3 (z : zC) (vh : Nat) (vc : Nat) (vp : Nat) (vl : Nat) (vy : Nat) (vs : Nat) (vo : Nat) (vt : Nat) (vn : Nat) (rY : Int → Nat) (rS : Int → Nat) (rO : Int → Nat) (vsc : Int) (vch : Int) (vat : Int) (vd : Int) (vb : Int) (uC : Int → Int) (uP : Int → Int) (uL : Int → Int) (uT : Int → Int) (uN : Int → Int) (uY : Int → Int → Int) (uS : Int → Int → Int) (uO : Int → Int → Int) (o8 : Int → Int) (b8 : Int) : Option Value → va_W → Prop := fun v w => ∃ (gh9 : Int), ∃ (ga9 : Int), ∃ (gC : Int → Int), ∃ (gN : Int → Int), ∃ (gT : Int → Int), ∃ (gO : Int → Int → Int), (agr b8 gN uN ∧ (∀ c : Int, 0 ≤ c → c ≤ b8 → gT c = uT c) ∧ (∀ c d : Int, 0 ≤ c → c ≤ b8 → gO c d = uO c d)) ∧ (0 ≤ gh9 ∧ gh9 ≤ 9223372036854775807) ∧ (sRes vd b8 vb uP uL o8 uY uN (fun _ => True) vch vat uC gh9 ga9 gC) ∧ v = none ∧ w = wLot z vh vc vp vl vy vs vo vt vn rY rS rO vsc gh9 ga9 vd vb gC uP uL gT gN uY uS gO
abbrev rm_X5_search_3 : Room := { frames := 6, cells := 0, slots := 0, locals := 163 }
set_option maxHeartbeats 4000000 in
set_option maxRecDepth 100000 in
theorem cc_X5_search_3 (l : Launch) (z : zC) (vh : Nat) (vc : Nat) (vp : Nat) (vl : Nat) (vy : Nat) (vs : Nat) (vo : Nat) (vt : Nat) (vn : Nat) (rY : Int → Nat) (rS : Int → Nat) (rO : Int → Nat) (vsc : Int) (vch : Int) (vat : Int) (vd : Int) (vb : Int) (uC : Int → Int) (uP : Int → Int) (uL : Int → Int) (uT : Int → Int) (uN : Int → Int) (uY : Int → Int → Int) (uS : Int → Int → Int) (uO : Int → Int → Int) (o8 : Int → Int) (b8 : Int) (hl : lSt vd vb uP uL o8 uY uS) (hb8 : 0 ≤ b8 ∧ b8 + 3 = vb) (hT : uT b8 = spF uP uN b8) (hO : ∀ d : Int, 1 ≤ d → d ≤ vd → uO b8 d = owF o8 uY uN b8 d) (hx : bxd b8 uL uN) (hch : 0 ≤ vch ∧ vch ≤ 9223372036854775807) (hlt : lstF vd uP o8 uY uS uN b8 < vch) : zzMet l yX5_search cX5_search 7 none rm_X5_search_3 z [.ref vh, .int (iI b8)] (wLot z vh vc vp vl vy vs vo vt vn rY rS rO vsc vch vat vd vb uC uP uL uT uN uY uS uO) (po_X5_search_3 z vh vc vp vl vy vs vo vt vn rY rS rO vsc vch vat vd vb uC uP uL uT uN uY uS uO o8 b8) := by
  refine zzMet.of (own := RX5) (ls0 := [(0, .ref vh), (1, .int (iI b8))]) (by decide) rfl (Nat.le_of_ble_eq_true rfl) rfl ?_
  intro p e s m below meth c A C hr hnm
  have hl1 := hl.1
  have hlb := hl.2.1 b8 (by omega) (by omega)
  refine zz_iload_n C 1 dX5_search_0 rfl rfl ?_
  refine zz_aload_n C 0 dX5_search_1 rfl rfl ?_
  refine zz_get C 0 (ci := 5) (k := 5) rfl rfl in_X5 (by decide) qw_224 rfl rfl dX5_search_2 ?_
  refine zz_icmp_lt (tgt := 13) C dX5_search_5 (by decide) (by unfold rI; omega) (by unfold rI; omega) (fun c5 => ?_) (fun c5 => ?_)
  · skip
    refine zz_ldc2 (a := 9223372036854775807) C qw_776 (by decide +kernel) dX5_search_13 ?_
    refine zz_lstore_n (ls' := [(2, .long (iL 9223372036854775807)), (0, .ref vh), (1, .int (iI b8))]) C dX5_search_16 rfl (by decide) rfl ?_
    refine zz_iconst C dX5_search_17 ?_
    refine zz_istore (ls' := [(4, .int (iI 0)), (2, .long (iL 9223372036854775807)), (0, .ref vh), (1, .int (iI b8))]) C dX5_search_18 (by decide) rfl ?_
    have Lp20 : ∀ (fu9 : Nat) (n9 : Int) (bf : Int) (gh9 : Int) (ga9 : Int) (gC : Int → Int) (gN : Int → Int) (gT : Int → Int) (gO : Int → Int → Int), (0 ≤ n9 ∧ n9 ≤ uL b8 + 1) → (agr b8 gN uN ∧ (∀ c : Int, 0 ≤ c → c ≤ b8 → gT c = uT c) ∧ (∀ c d : Int, 0 ≤ c → c ≤ b8 → gO c d = uO c d)) → (0 ≤ gh9 ∧ gh9 ≤ 9223372036854775807) → ((n9 = 0 ∧ bf = 9223372036854775807) ∨ (1 ≤ n9 ∧ bf = fN vd uP o8 uY uS uN b8 (n9 - 1))) → (0 ≤ bf ∧ bf ≤ 9223372036854775807) → (sRes vd b8 vb uP uL o8 uY uN (fun m => m b8 < n9) vch vat uC gh9 ga9 gC) → (uL b8 + 1 - n9).toNat < fu9 → zzW p l e rm_X5_search_3 s m ([.ref vh, .int (iI b8)] : List Value).toArray below meth c z A 7 (MQ below (zQ z A (po_X5_search_3 z vh vc vp vl vy vs vo vt vn rY rS rO vsc vch vat vd vb uC uP uL uT uN uY uS uO o8 b8)) ([.ref vh, .int (iI b8)] : List Value).toArray s 0 0 A) 0 0 (wLot z vh vc vp vl vy vs vo vt vn rY rS rO vsc gh9 ga9 vd vb gC uP uL gT gN uY uS gO) [(0, .ref vh), (1, .int (iI b8)), (2, .long (iL bf)), (4, .int (iI n9))] [] 20 := by
      intro fu9
      induction fu9 with
      | zero => intro n9 bf gh9 ga9 gC gN gT gO hn9 hfr hgh hbf hbr hres h9; exact absurd h9 (Nat.not_lt_zero _)
      | succ fu9 ih20 =>
        intro n9 bf gh9 ga9 gC gN gT gO hn9 hfr hgh hbf hbr hres hm20
        refine zz_iload C 3 dX5_search_20 rfl ?_
        refine zz_aload_n C 0 dX5_search_22 rfl rfl ?_
        refine zz_get C 0 (ci := 5) (k := 7) rfl rfl in_X5 (by decide) qw_226 rfl rfl dX5_search_23 ?_
        refine zz_iload_n C 1 dX5_search_26 rfl rfl ?_
        refine zz_iald C 3 rfl (by omega) (by omega) (by decide) dX5_search_27 ?_
        refine zz_icmp_gt (tgt := 84) C dX5_search_28 (by decide) (by unfold rI; omega) (by unfold rI; omega) (fun c28 => ?_) (fun c28 => ?_)
        · skip
          exact zz_vret C hr dX5_search_84 ⟨_, _, _, _, _, _, hfr, hgh, sRes_all hres (by omega) (by omega), rfl, rfl⟩
        · skip
          refine zz_aload_n C 0 dX5_search_31 rfl rfl ?_
          refine zz_iload_n C 1 dX5_search_32 rfl rfl ?_
          refine zz_iload C 3 dX5_search_33 rfl ?_
          refine zz_callV (wr := ([] : va_W)) (st := []) C (cc_X5_choose l z vh vc vp vl vy vs vo vt vn rY rS rO vsc gh9 ga9 vd vb gC uP uL gT gN uY uS gO b8 n9 (by omega) (by omega) (by omega)) yk_X5_choose qw_789 ⟨by decide, by decide⟩ [0, 1, 2, 3, 4, 5, 6, 7, 8, 9, 10, 11, 12, 13, 14, 15, 16, 17, 18, 19, 20, 21, 22, 23, 24, 25] [] rfl rfl rfl rfl (by decide) 0 5 rfl rfl rfl rfl (Nat.le_of_ble_eq_true rfl) dX5_search_35 ⟨by decide, by decide⟩ ?_
          rintro _ _ ⟨gO_35, hgO_35, rfl, rfl⟩
          refine zz_st (st' := []) rfl (zz_ws (ws' := wLot z vh vc vp vl vy vs vo vt vn rY rS rO vsc gh9 ga9 vd vb gC uP uL (zup gT (b8 + 1) (gT b8 + n9 * uP b8)) (zup gN b8 n9) uY uS gO_35) rfl ?_)
          have hT9 := ch_T (p := uP) (n := n9) (m := gN) (gT := gT) hb8.1 hfr.1 (by rw [hfr.2.1 b8 hb8.1 (by omega)]; exact hT)
          have hO9 := ch_O (o := o8) (T := vd) (m := gN) hb8.1 hfr.1 (fun d d0 d1 => by rw [hfr.2.2 b8 d hb8.1 (by omega)]; exact hO d d0 d1) hgO_35
          have hx9 := bxd_zup (n := n9) hfr.1 hx (by omega)
          have hr9 := lst_rng hl (b := b8 + 1) (by omega) (by omega) hx9
          have hfe : lstF vd uP o8 uY uS (zup gN b8 n9) (b8 + 1) = fN vd uP o8 uY uS uN b8 n9 := lstF_agr (agr_up hfr.1)
          have hfrC : agr b8 (zup gN b8 n9) uN ∧ (∀ c : Int, 0 ≤ c → c ≤ b8 → zup gT (b8 + 1) (gT b8 + n9 * uP b8) c = uT c) ∧ (∀ c d : Int, 0 ≤ c → c ≤ b8 → gO_35 c d = uO c d) := ⟨fun c c0 c1 => by rw [zup_ne (by omega)]; exact hfr.1 c c0 c1, fun c c0 c1 => by rw [zup_ne (by omega)]; exact hfr.2.1 c c0 c1, fun c d c0 c1 => by rw [hgO_35 c d, if_neg (by omega)]; exact hfr.2.2 c d c0 c1⟩
          refine zz_aload_n C 0 dX5_search_38 rfl rfl ?_
          refine zz_iload_n C 1 dX5_search_39 rfl rfl ?_
          refine zz_iconst C dX5_search_40 ?_
          refine zz_iadd C dX5_search_41 ?_
          refine zz_callV (wr := ([] : va_W)) (st := []) C (cc_X5_leastCost l z vh vc vp vl vy vs vo vt vn rY rS rO vsc gh9 ga9 vd vb gC uP uL (zup gT (b8 + 1) (gT b8 + n9 * uP b8)) (zup gN b8 n9) uY uS gO_35 o8 (zup gN b8 n9) (b8 + 1) hl (by omega) hT9 hO9 hx9) yk_X5_leastCost qw_785 ⟨by decide, by decide⟩ [0, 1, 2, 3, 4, 5, 6, 7, 8, 9, 10, 11, 12, 13, 14, 15, 16, 17, 18, 19, 20, 21, 22, 23, 24, 25] [] rfl rfl rfl rfl (by decide) 0 5 rfl rfl rfl rfl (Nat.le_of_ble_eq_true rfl) dX5_search_42 ⟨by decide, by decide⟩ ?_
          rintro _ _ ⟨rfl, rfl⟩
          refine zz_st (st' := [.long (iL (lstF vd uP o8 uY uS (zup gN b8 n9) (b8 + 1)))]) rfl (zz_ws (ws' := wLot z vh vc vp vl vy vs vo vt vn rY rS rO vsc gh9 ga9 vd vb gC uP uL (zup gT (b8 + 1) (gT b8 + n9 * uP b8)) (zup gN b8 n9) uY uS gO_35) rfl ?_)
          refine zz_lstore (ls' := [(5, .long (iL (lstF vd uP o8 uY uS (zup gN b8 n9) (b8 + 1)))), (0, .ref vh), (1, .int (iI b8)), (2, .long (iL bf)), (4, .int (iI n9))]) C dX5_search_45 (by decide) rfl ?_
          refine zz_lload C 0 dX5_search_47 rfl ?_
          refine zz_aload_n C 1 dX5_search_49 rfl rfl ?_
          refine zz_get C 0 (ci := 5) (k := 1) rfl rfl in_X5 (by decide) qw_217 rfl rfl dX5_search_50 ?_
          refine zz_lcmp_ge (tgt := 67) C dX5_search_53 dX5_search_54 (by decide) (by unfold rL; omega) (by unfold rL; omega) (fun c53 => ?_) (fun c53 => ?_)
          · skip
            refine zz_lload C 0 dX5_search_67 rfl ?_
            refine zz_lload_n C 3 dX5_search_69 rfl rfl ?_
            refine zz_lcmp_lt (tgt := 75) C dX5_search_70 dX5_search_71 (by decide) (by unfold rL; omega) (by unfold rL; omega) (fun c70 => ?_) (fun c70 => ?_)
            · skip
              have hfr9 := hfrC
              have hres9 := sRes_tail hres hl (by omega) hfe (by omega)
              refine zz_lload C 0 dX5_search_75 rfl ?_
              refine zz_lstore_n (ls' := [(2, .long (iL (lstF vd uP o8 uY uS (zup gN b8 n9) (b8 + 1)))), (5, .long (iL (lstF vd uP o8 uY uS (zup gN b8 n9) (b8 + 1)))), (0, .ref vh), (1, .int (iI b8)), (4, .int (iI n9))]) C dX5_search_77 rfl (by decide) rfl ?_
              refine zz_iinc (ls' := [(4, .int (iI (n9 + 1))), (2, .long (iL (lstF vd uP o8 uY uS (zup gN b8 n9) (b8 + 1)))), (5, .long (iL (lstF vd uP o8 uY uS (zup gN b8 n9) (b8 + 1)))), (0, .ref vh), (1, .int (iI b8))]) C 4 dX5_search_78 rfl (by decide) rfl ?_
              refine zz_goto (tgt := 20) C dX5_search_81 (by decide) ?_
              refine zz_loc (ls' := [(0, .ref vh), (1, .int (iI b8)), (2, .long (iL (lstF vd uP o8 uY uS (zup gN b8 n9) (b8 + 1)))), (4, .int (iI (n9 + 1)))]) [3, 4, 1, 0] rfl ?_
              exact ih20 (n9 + 1) (lstF vd uP o8 uY uS (zup gN b8 n9) (b8 + 1)) gh9 ga9 gC (zup gN b8 n9) (zup gT (b8 + 1) (gT b8 + n9 * uP b8)) gO_35 (by omega) hfr9 (by omega) (Or.inr ⟨by omega, by rw [show n9 + 1 - 1 = n9 by omega]; exact hfe⟩) (by omega) hres9 (by omega)
            · skip
              exact zz_vret C hr dX5_search_74 ⟨_, _, _, _, _, _, hfrC, hgh, sRes_stop hres hl (by omega) hfe (by omega) (by rcases hbf with h | h; omega; rw [← h.2]; omega), rfl, rfl⟩
          · skip
            have hlt9 := c53
            refine zz_aload_n C 1 dX5_search_57 rfl rfl ?_
            refine zz_iload_n C 2 dX5_search_58 rfl rfl ?_
            refine zz_iconst C dX5_search_59 ?_
            refine zz_iadd C dX5_search_60 ?_
            refine zz_callV (wr := ([] : va_W)) (st := []) C (cc_X5_search_2 l z vh vc vp vl vy vs vo vt vn rY rS rO vsc gh9 ga9 vd vb gC uP uL (zup gT (b8 + 1) (gT b8 + n9 * uP b8)) (zup gN b8 n9) uY uS gO_35 o8 (b8 + 1) hl (by omega) hT9 hO9 hx9 (by omega) c53) yk_X5_search qw_777 ⟨by decide, by decide⟩ [0, 1, 2, 3, 4, 5, 6, 7, 8, 9, 10, 11, 12, 13, 14, 15, 16, 17, 18, 19, 20, 21, 22, 23, 24, 25] [] rfl rfl rfl rfl (by decide) 0 5 rfl rfl rfl rfl (Nat.le_of_ble_eq_true rfl) dX5_search_61 ⟨by decide, by decide⟩ ?_
            rintro _ _ ⟨gh9_61, ga9_61, gC_61, gN_61, gT_61, gO_61, hfr_61, hgh_61, hres_61, rfl, rfl⟩
            refine zz_st (st' := []) rfl (zz_ws (ws' := wLot z vh vc vp vl vy vs vo vt vn rY rS rO vsc gh9_61 ga9_61 vd vb gC_61 uP uL gT_61 gN_61 uY uS gO_61) rfl ?_)
            have hfr9 : agr b8 gN_61 uN ∧ (∀ c : Int, 0 ≤ c → c ≤ b8 → gT_61 c = uT c) ∧ (∀ c d : Int, 0 ≤ c → c ≤ b8 → gO_61 c d = uO c d) := ⟨fun c c0 c1 => by rw [hfr_61.1 c c0 (by omega)]; exact hfrC.1 c c0 c1, fun c c0 c1 => by rw [hfr_61.2.1 c c0 (by omega)]; exact hfrC.2.1 c c0 c1, fun c d c0 c1 => by rw [hfr_61.2.2 c d c0 (by omega)]; exact hfrC.2.2 c d c0 c1⟩
            have hres9 := sRes_join hres (by omega) (⟨hfrC.1, zup_eq _ _ _⟩ : agr b8 (zup gN b8 n9) uN ∧ zup gN b8 n9 b8 = n9) hres_61
            refine zz_goto (tgt := 75) C dX5_search_64 (by decide) ?_
            refine zz_lload C 0 dX5_search_75 rfl ?_
            refine zz_lstore_n (ls' := [(2, .long (iL (lstF vd uP o8 uY uS (zup gN b8 n9) (b8 + 1)))), (5, .long (iL (lstF vd uP o8 uY uS (zup gN b8 n9) (b8 + 1)))), (0, .ref vh), (1, .int (iI b8)), (4, .int (iI n9))]) C dX5_search_77 rfl (by decide) rfl ?_
            refine zz_iinc (ls' := [(4, .int (iI (n9 + 1))), (2, .long (iL (lstF vd uP o8 uY uS (zup gN b8 n9) (b8 + 1)))), (5, .long (iL (lstF vd uP o8 uY uS (zup gN b8 n9) (b8 + 1)))), (0, .ref vh), (1, .int (iI b8))]) C 4 dX5_search_78 rfl (by decide) rfl ?_
            refine zz_goto (tgt := 20) C dX5_search_81 (by decide) ?_
            refine zz_loc (ls' := [(0, .ref vh), (1, .int (iI b8)), (2, .long (iL (lstF vd uP o8 uY uS (zup gN b8 n9) (b8 + 1)))), (4, .int (iI (n9 + 1)))]) [3, 4, 1, 0] rfl ?_
            exact ih20 (n9 + 1) (lstF vd uP o8 uY uS (zup gN b8 n9) (b8 + 1)) gh9_61 ga9_61 gC_61 gN_61 gT_61 gO_61 (by omega) hfr9 (by omega) (Or.inr ⟨by omega, by rw [show n9 + 1 - 1 = n9 by omega]; exact hfe⟩) (by omega) hres9 (by omega)
    refine zz_loc (ls' := [(0, .ref vh), (1, .int (iI b8)), (2, .long (iL 9223372036854775807)), (4, .int (iI 0))]) [2, 3, 1, 0] rfl ?_
    exact Lp20 _ 0 9223372036854775807 vch vat uC uN uT uO (by omega) ⟨fun _ _ _ => rfl, fun _ _ _ => rfl, fun _ _ _ _ => rfl⟩ (by omega) (Or.inl ⟨rfl, rfl⟩) (by omega) (sRes_0.resolve_right (fun h => h ⟨by omega, by omega⟩)) (Nat.lt_succ_self _)
  · skip
    exfalso; omega
abbrev po_X5_search_4 (z : zC) (vh : Nat) (vc : Nat) (vp : Nat) (vl : Nat) (vy : Nat) (vs : Nat) (vo : Nat) (vt : Nat) (vn : Nat) (rY : Int → Nat) (rS : Int → Nat) (rO : Int → Nat) (vsc : Int) (vch : Int) (vat : Int) (vd : Int) (vb : Int) (uC : Int → Int) (uP : Int → Int) (uL : Int → Int) (uT : Int → Int) (uN : Int → Int) (uY : Int → Int → Int) (uS : Int → Int → Int) (uO : Int → Int → Int) (o8 : Int → Int) (b8 : Int) : Option Value → va_W → Prop := fun v w => ∃ (gh9 : Int), ∃ (ga9 : Int), ∃ (gC : Int → Int), ∃ (gN : Int → Int), ∃ (gT : Int → Int), ∃ (gO : Int → Int → Int), (agr b8 gN uN ∧ (∀ c : Int, 0 ≤ c → c ≤ b8 → gT c = uT c) ∧ (∀ c d : Int, 0 ≤ c → c ≤ b8 → gO c d = uO c d)) ∧ (0 ≤ gh9 ∧ gh9 ≤ 9223372036854775807) ∧ (sRes vd b8 vb uP uL o8 uY uN (fun _ => True) vch vat uC gh9 ga9 gC) ∧ v = none ∧ w = wLot z vh vc vp vl vy vs vo vt vn rY rS rO vsc gh9 ga9 vd vb gC uP uL gT gN uY uS gO
abbrev rm_X5_search_4 : Room := { frames := 7, cells := 0, slots := 0, locals := 189 }
set_option maxHeartbeats 4000000 in
set_option maxRecDepth 100000 in
theorem cc_X5_search_4 (l : Launch) (z : zC) (vh : Nat) (vc : Nat) (vp : Nat) (vl : Nat) (vy : Nat) (vs : Nat) (vo : Nat) (vt : Nat) (vn : Nat) (rY : Int → Nat) (rS : Int → Nat) (rO : Int → Nat) (vsc : Int) (vch : Int) (vat : Int) (vd : Int) (vb : Int) (uC : Int → Int) (uP : Int → Int) (uL : Int → Int) (uT : Int → Int) (uN : Int → Int) (uY : Int → Int → Int) (uS : Int → Int → Int) (uO : Int → Int → Int) (o8 : Int → Int) (b8 : Int) (hl : lSt vd vb uP uL o8 uY uS) (hb8 : 0 ≤ b8 ∧ b8 + 4 = vb) (hT : uT b8 = spF uP uN b8) (hO : ∀ d : Int, 1 ≤ d → d ≤ vd → uO b8 d = owF o8 uY uN b8 d) (hx : bxd b8 uL uN) (hch : 0 ≤ vch ∧ vch ≤ 9223372036854775807) (hlt : lstF vd uP o8 uY uS uN b8 < vch) : zzMet l yX5_search cX5_search 7 none rm_X5_search_4 z [.ref vh, .int (iI b8)] (wLot z vh vc vp vl vy vs vo vt vn rY rS rO vsc vch vat vd vb uC uP uL uT uN uY uS uO) (po_X5_search_4 z vh vc vp vl vy vs vo vt vn rY rS rO vsc vch vat vd vb uC uP uL uT uN uY uS uO o8 b8) := by
  refine zzMet.of (own := RX5) (ls0 := [(0, .ref vh), (1, .int (iI b8))]) (by decide) rfl (Nat.le_of_ble_eq_true rfl) rfl ?_
  intro p e s m below meth c A C hr hnm
  have hl1 := hl.1
  have hlb := hl.2.1 b8 (by omega) (by omega)
  refine zz_iload_n C 1 dX5_search_0 rfl rfl ?_
  refine zz_aload_n C 0 dX5_search_1 rfl rfl ?_
  refine zz_get C 0 (ci := 5) (k := 5) rfl rfl in_X5 (by decide) qw_224 rfl rfl dX5_search_2 ?_
  refine zz_icmp_lt (tgt := 13) C dX5_search_5 (by decide) (by unfold rI; omega) (by unfold rI; omega) (fun c5 => ?_) (fun c5 => ?_)
  · skip
    refine zz_ldc2 (a := 9223372036854775807) C qw_776 (by decide +kernel) dX5_search_13 ?_
    refine zz_lstore_n (ls' := [(2, .long (iL 9223372036854775807)), (0, .ref vh), (1, .int (iI b8))]) C dX5_search_16 rfl (by decide) rfl ?_
    refine zz_iconst C dX5_search_17 ?_
    refine zz_istore (ls' := [(4, .int (iI 0)), (2, .long (iL 9223372036854775807)), (0, .ref vh), (1, .int (iI b8))]) C dX5_search_18 (by decide) rfl ?_
    have Lp20 : ∀ (fu9 : Nat) (n9 : Int) (bf : Int) (gh9 : Int) (ga9 : Int) (gC : Int → Int) (gN : Int → Int) (gT : Int → Int) (gO : Int → Int → Int), (0 ≤ n9 ∧ n9 ≤ uL b8 + 1) → (agr b8 gN uN ∧ (∀ c : Int, 0 ≤ c → c ≤ b8 → gT c = uT c) ∧ (∀ c d : Int, 0 ≤ c → c ≤ b8 → gO c d = uO c d)) → (0 ≤ gh9 ∧ gh9 ≤ 9223372036854775807) → ((n9 = 0 ∧ bf = 9223372036854775807) ∨ (1 ≤ n9 ∧ bf = fN vd uP o8 uY uS uN b8 (n9 - 1))) → (0 ≤ bf ∧ bf ≤ 9223372036854775807) → (sRes vd b8 vb uP uL o8 uY uN (fun m => m b8 < n9) vch vat uC gh9 ga9 gC) → (uL b8 + 1 - n9).toNat < fu9 → zzW p l e rm_X5_search_4 s m ([.ref vh, .int (iI b8)] : List Value).toArray below meth c z A 7 (MQ below (zQ z A (po_X5_search_4 z vh vc vp vl vy vs vo vt vn rY rS rO vsc vch vat vd vb uC uP uL uT uN uY uS uO o8 b8)) ([.ref vh, .int (iI b8)] : List Value).toArray s 0 0 A) 0 0 (wLot z vh vc vp vl vy vs vo vt vn rY rS rO vsc gh9 ga9 vd vb gC uP uL gT gN uY uS gO) [(0, .ref vh), (1, .int (iI b8)), (2, .long (iL bf)), (4, .int (iI n9))] [] 20 := by
      intro fu9
      induction fu9 with
      | zero => intro n9 bf gh9 ga9 gC gN gT gO hn9 hfr hgh hbf hbr hres h9; exact absurd h9 (Nat.not_lt_zero _)
      | succ fu9 ih20 =>
        intro n9 bf gh9 ga9 gC gN gT gO hn9 hfr hgh hbf hbr hres hm20
        refine zz_iload C 3 dX5_search_20 rfl ?_
        refine zz_aload_n C 0 dX5_search_22 rfl rfl ?_
        refine zz_get C 0 (ci := 5) (k := 7) rfl rfl in_X5 (by decide) qw_226 rfl rfl dX5_search_23 ?_
        refine zz_iload_n C 1 dX5_search_26 rfl rfl ?_
        refine zz_iald C 3 rfl (by omega) (by omega) (by decide) dX5_search_27 ?_
        refine zz_icmp_gt (tgt := 84) C dX5_search_28 (by decide) (by unfold rI; omega) (by unfold rI; omega) (fun c28 => ?_) (fun c28 => ?_)
        · skip
          exact zz_vret C hr dX5_search_84 ⟨_, _, _, _, _, _, hfr, hgh, sRes_all hres (by omega) (by omega), rfl, rfl⟩
        · skip
          refine zz_aload_n C 0 dX5_search_31 rfl rfl ?_
          refine zz_iload_n C 1 dX5_search_32 rfl rfl ?_
          refine zz_iload C 3 dX5_search_33 rfl ?_
          refine zz_callV (wr := ([] : va_W)) (st := []) C (cc_X5_choose l z vh vc vp vl vy vs vo vt vn rY rS rO vsc gh9 ga9 vd vb gC uP uL gT gN uY uS gO b8 n9 (by omega) (by omega) (by omega)) yk_X5_choose qw_789 ⟨by decide, by decide⟩ [0, 1, 2, 3, 4, 5, 6, 7, 8, 9, 10, 11, 12, 13, 14, 15, 16, 17, 18, 19, 20, 21, 22, 23, 24, 25] [] rfl rfl rfl rfl (by decide) 0 5 rfl rfl rfl rfl (Nat.le_of_ble_eq_true rfl) dX5_search_35 ⟨by decide, by decide⟩ ?_
          rintro _ _ ⟨gO_35, hgO_35, rfl, rfl⟩
          refine zz_st (st' := []) rfl (zz_ws (ws' := wLot z vh vc vp vl vy vs vo vt vn rY rS rO vsc gh9 ga9 vd vb gC uP uL (zup gT (b8 + 1) (gT b8 + n9 * uP b8)) (zup gN b8 n9) uY uS gO_35) rfl ?_)
          have hT9 := ch_T (p := uP) (n := n9) (m := gN) (gT := gT) hb8.1 hfr.1 (by rw [hfr.2.1 b8 hb8.1 (by omega)]; exact hT)
          have hO9 := ch_O (o := o8) (T := vd) (m := gN) hb8.1 hfr.1 (fun d d0 d1 => by rw [hfr.2.2 b8 d hb8.1 (by omega)]; exact hO d d0 d1) hgO_35
          have hx9 := bxd_zup (n := n9) hfr.1 hx (by omega)
          have hr9 := lst_rng hl (b := b8 + 1) (by omega) (by omega) hx9
          have hfe : lstF vd uP o8 uY uS (zup gN b8 n9) (b8 + 1) = fN vd uP o8 uY uS uN b8 n9 := lstF_agr (agr_up hfr.1)
          have hfrC : agr b8 (zup gN b8 n9) uN ∧ (∀ c : Int, 0 ≤ c → c ≤ b8 → zup gT (b8 + 1) (gT b8 + n9 * uP b8) c = uT c) ∧ (∀ c d : Int, 0 ≤ c → c ≤ b8 → gO_35 c d = uO c d) := ⟨fun c c0 c1 => by rw [zup_ne (by omega)]; exact hfr.1 c c0 c1, fun c c0 c1 => by rw [zup_ne (by omega)]; exact hfr.2.1 c c0 c1, fun c d c0 c1 => by rw [hgO_35 c d, if_neg (by omega)]; exact hfr.2.2 c d c0 c1⟩
          refine zz_aload_n C 0 dX5_search_38 rfl rfl ?_
          refine zz_iload_n C 1 dX5_search_39 rfl rfl ?_
          refine zz_iconst C dX5_search_40 ?_
          refine zz_iadd C dX5_search_41 ?_
          refine zz_callV (wr := ([] : va_W)) (st := []) C (cc_X5_leastCost l z vh vc vp vl vy vs vo vt vn rY rS rO vsc gh9 ga9 vd vb gC uP uL (zup gT (b8 + 1) (gT b8 + n9 * uP b8)) (zup gN b8 n9) uY uS gO_35 o8 (zup gN b8 n9) (b8 + 1) hl (by omega) hT9 hO9 hx9) yk_X5_leastCost qw_785 ⟨by decide, by decide⟩ [0, 1, 2, 3, 4, 5, 6, 7, 8, 9, 10, 11, 12, 13, 14, 15, 16, 17, 18, 19, 20, 21, 22, 23, 24, 25] [] rfl rfl rfl rfl (by decide) 0 5 rfl rfl rfl rfl (Nat.le_of_ble_eq_true rfl) dX5_search_42 ⟨by decide, by decide⟩ ?_
          rintro _ _ ⟨rfl, rfl⟩
          refine zz_st (st' := [.long (iL (lstF vd uP o8 uY uS (zup gN b8 n9) (b8 + 1)))]) rfl (zz_ws (ws' := wLot z vh vc vp vl vy vs vo vt vn rY rS rO vsc gh9 ga9 vd vb gC uP uL (zup gT (b8 + 1) (gT b8 + n9 * uP b8)) (zup gN b8 n9) uY uS gO_35) rfl ?_)
          refine zz_lstore (ls' := [(5, .long (iL (lstF vd uP o8 uY uS (zup gN b8 n9) (b8 + 1)))), (0, .ref vh), (1, .int (iI b8)), (2, .long (iL bf)), (4, .int (iI n9))]) C dX5_search_45 (by decide) rfl ?_
          refine zz_lload C 0 dX5_search_47 rfl ?_
          refine zz_aload_n C 1 dX5_search_49 rfl rfl ?_
          refine zz_get C 0 (ci := 5) (k := 1) rfl rfl in_X5 (by decide) qw_217 rfl rfl dX5_search_50 ?_
          refine zz_lcmp_ge (tgt := 67) C dX5_search_53 dX5_search_54 (by decide) (by unfold rL; omega) (by unfold rL; omega) (fun c53 => ?_) (fun c53 => ?_)
          · skip
            refine zz_lload C 0 dX5_search_67 rfl ?_
            refine zz_lload_n C 3 dX5_search_69 rfl rfl ?_
            refine zz_lcmp_lt (tgt := 75) C dX5_search_70 dX5_search_71 (by decide) (by unfold rL; omega) (by unfold rL; omega) (fun c70 => ?_) (fun c70 => ?_)
            · skip
              have hfr9 := hfrC
              have hres9 := sRes_tail hres hl (by omega) hfe (by omega)
              refine zz_lload C 0 dX5_search_75 rfl ?_
              refine zz_lstore_n (ls' := [(2, .long (iL (lstF vd uP o8 uY uS (zup gN b8 n9) (b8 + 1)))), (5, .long (iL (lstF vd uP o8 uY uS (zup gN b8 n9) (b8 + 1)))), (0, .ref vh), (1, .int (iI b8)), (4, .int (iI n9))]) C dX5_search_77 rfl (by decide) rfl ?_
              refine zz_iinc (ls' := [(4, .int (iI (n9 + 1))), (2, .long (iL (lstF vd uP o8 uY uS (zup gN b8 n9) (b8 + 1)))), (5, .long (iL (lstF vd uP o8 uY uS (zup gN b8 n9) (b8 + 1)))), (0, .ref vh), (1, .int (iI b8))]) C 4 dX5_search_78 rfl (by decide) rfl ?_
              refine zz_goto (tgt := 20) C dX5_search_81 (by decide) ?_
              refine zz_loc (ls' := [(0, .ref vh), (1, .int (iI b8)), (2, .long (iL (lstF vd uP o8 uY uS (zup gN b8 n9) (b8 + 1)))), (4, .int (iI (n9 + 1)))]) [3, 4, 1, 0] rfl ?_
              exact ih20 (n9 + 1) (lstF vd uP o8 uY uS (zup gN b8 n9) (b8 + 1)) gh9 ga9 gC (zup gN b8 n9) (zup gT (b8 + 1) (gT b8 + n9 * uP b8)) gO_35 (by omega) hfr9 (by omega) (Or.inr ⟨by omega, by rw [show n9 + 1 - 1 = n9 by omega]; exact hfe⟩) (by omega) hres9 (by omega)
            · skip
              exact zz_vret C hr dX5_search_74 ⟨_, _, _, _, _, _, hfrC, hgh, sRes_stop hres hl (by omega) hfe (by omega) (by rcases hbf with h | h; omega; rw [← h.2]; omega), rfl, rfl⟩
          · skip
            have hlt9 := c53
            refine zz_aload_n C 1 dX5_search_57 rfl rfl ?_
            refine zz_iload_n C 2 dX5_search_58 rfl rfl ?_
            refine zz_iconst C dX5_search_59 ?_
            refine zz_iadd C dX5_search_60 ?_
            refine zz_callV (wr := ([] : va_W)) (st := []) C (cc_X5_search_3 l z vh vc vp vl vy vs vo vt vn rY rS rO vsc gh9 ga9 vd vb gC uP uL (zup gT (b8 + 1) (gT b8 + n9 * uP b8)) (zup gN b8 n9) uY uS gO_35 o8 (b8 + 1) hl (by omega) hT9 hO9 hx9 (by omega) c53) yk_X5_search qw_777 ⟨by decide, by decide⟩ [0, 1, 2, 3, 4, 5, 6, 7, 8, 9, 10, 11, 12, 13, 14, 15, 16, 17, 18, 19, 20, 21, 22, 23, 24, 25] [] rfl rfl rfl rfl (by decide) 0 5 rfl rfl rfl rfl (Nat.le_of_ble_eq_true rfl) dX5_search_61 ⟨by decide, by decide⟩ ?_
            rintro _ _ ⟨gh9_61, ga9_61, gC_61, gN_61, gT_61, gO_61, hfr_61, hgh_61, hres_61, rfl, rfl⟩
            refine zz_st (st' := []) rfl (zz_ws (ws' := wLot z vh vc vp vl vy vs vo vt vn rY rS rO vsc gh9_61 ga9_61 vd vb gC_61 uP uL gT_61 gN_61 uY uS gO_61) rfl ?_)
            have hfr9 : agr b8 gN_61 uN ∧ (∀ c : Int, 0 ≤ c → c ≤ b8 → gT_61 c = uT c) ∧ (∀ c d : Int, 0 ≤ c → c ≤ b8 → gO_61 c d = uO c d) := ⟨fun c c0 c1 => by rw [hfr_61.1 c c0 (by omega)]; exact hfrC.1 c c0 c1, fun c c0 c1 => by rw [hfr_61.2.1 c c0 (by omega)]; exact hfrC.2.1 c c0 c1, fun c d c0 c1 => by rw [hfr_61.2.2 c d c0 (by omega)]; exact hfrC.2.2 c d c0 c1⟩
            have hres9 := sRes_join hres (by omega) (⟨hfrC.1, zup_eq _ _ _⟩ : agr b8 (zup gN b8 n9) uN ∧ zup gN b8 n9 b8 = n9) hres_61
            refine zz_goto (tgt := 75) C dX5_search_64 (by decide) ?_
            refine zz_lload C 0 dX5_search_75 rfl ?_
            refine zz_lstore_n (ls' := [(2, .long (iL (lstF vd uP o8 uY uS (zup gN b8 n9) (b8 + 1)))), (5, .long (iL (lstF vd uP o8 uY uS (zup gN b8 n9) (b8 + 1)))), (0, .ref vh), (1, .int (iI b8)), (4, .int (iI n9))]) C dX5_search_77 rfl (by decide) rfl ?_
            refine zz_iinc (ls' := [(4, .int (iI (n9 + 1))), (2, .long (iL (lstF vd uP o8 uY uS (zup gN b8 n9) (b8 + 1)))), (5, .long (iL (lstF vd uP o8 uY uS (zup gN b8 n9) (b8 + 1)))), (0, .ref vh), (1, .int (iI b8))]) C 4 dX5_search_78 rfl (by decide) rfl ?_
            refine zz_goto (tgt := 20) C dX5_search_81 (by decide) ?_
            refine zz_loc (ls' := [(0, .ref vh), (1, .int (iI b8)), (2, .long (iL (lstF vd uP o8 uY uS (zup gN b8 n9) (b8 + 1)))), (4, .int (iI (n9 + 1)))]) [3, 4, 1, 0] rfl ?_
            exact ih20 (n9 + 1) (lstF vd uP o8 uY uS (zup gN b8 n9) (b8 + 1)) gh9_61 ga9_61 gC_61 gN_61 gT_61 gO_61 (by omega) hfr9 (by omega) (Or.inr ⟨by omega, by rw [show n9 + 1 - 1 = n9 by omega]; exact hfe⟩) (by omega) hres9 (by omega)
    refine zz_loc (ls' := [(0, .ref vh), (1, .int (iI b8)), (2, .long (iL 9223372036854775807)), (4, .int (iI 0))]) [2, 3, 1, 0] rfl ?_
    exact Lp20 _ 0 9223372036854775807 vch vat uC uN uT uO (by omega) ⟨fun _ _ _ => rfl, fun _ _ _ => rfl, fun _ _ _ _ => rfl⟩ (by omega) (Or.inl ⟨rfl, rfl⟩) (by omega) (sRes_0.resolve_right (fun h => h ⟨by omega, by omega⟩)) (Nat.lt_succ_self _)
  · skip
    exfalso; omega
abbrev po_X5_search_5 (z : zC) (vh : Nat) (vc : Nat) (vp : Nat) (vl : Nat) (vy : Nat) (vs : Nat) (vo : Nat) (vt : Nat) (vn : Nat) (rY : Int → Nat) (rS : Int → Nat) (rO : Int → Nat) (vsc : Int) (vch : Int) (vat : Int) (vd : Int) (vb : Int) (uC : Int → Int) (uP : Int → Int) (uL : Int → Int) (uT : Int → Int) (uN : Int → Int) (uY : Int → Int → Int) (uS : Int → Int → Int) (uO : Int → Int → Int) (o8 : Int → Int) (b8 : Int) : Option Value → va_W → Prop := fun v w => ∃ (gh9 : Int), ∃ (ga9 : Int), ∃ (gC : Int → Int), ∃ (gN : Int → Int), ∃ (gT : Int → Int), ∃ (gO : Int → Int → Int), (agr b8 gN uN ∧ (∀ c : Int, 0 ≤ c → c ≤ b8 → gT c = uT c) ∧ (∀ c d : Int, 0 ≤ c → c ≤ b8 → gO c d = uO c d)) ∧ (0 ≤ gh9 ∧ gh9 ≤ 9223372036854775807) ∧ (sRes vd b8 vb uP uL o8 uY uN (fun _ => True) vch vat uC gh9 ga9 gC) ∧ v = none ∧ w = wLot z vh vc vp vl vy vs vo vt vn rY rS rO vsc gh9 ga9 vd vb gC uP uL gT gN uY uS gO
abbrev rm_X5_search_5 : Room := { frames := 8, cells := 0, slots := 0, locals := 215 }
set_option maxHeartbeats 4000000 in
set_option maxRecDepth 100000 in
theorem cc_X5_search_5 (l : Launch) (z : zC) (vh : Nat) (vc : Nat) (vp : Nat) (vl : Nat) (vy : Nat) (vs : Nat) (vo : Nat) (vt : Nat) (vn : Nat) (rY : Int → Nat) (rS : Int → Nat) (rO : Int → Nat) (vsc : Int) (vch : Int) (vat : Int) (vd : Int) (vb : Int) (uC : Int → Int) (uP : Int → Int) (uL : Int → Int) (uT : Int → Int) (uN : Int → Int) (uY : Int → Int → Int) (uS : Int → Int → Int) (uO : Int → Int → Int) (o8 : Int → Int) (b8 : Int) (hl : lSt vd vb uP uL o8 uY uS) (hb8 : 0 ≤ b8 ∧ b8 + 5 = vb) (hT : uT b8 = spF uP uN b8) (hO : ∀ d : Int, 1 ≤ d → d ≤ vd → uO b8 d = owF o8 uY uN b8 d) (hx : bxd b8 uL uN) (hch : 0 ≤ vch ∧ vch ≤ 9223372036854775807) (hlt : lstF vd uP o8 uY uS uN b8 < vch) : zzMet l yX5_search cX5_search 7 none rm_X5_search_5 z [.ref vh, .int (iI b8)] (wLot z vh vc vp vl vy vs vo vt vn rY rS rO vsc vch vat vd vb uC uP uL uT uN uY uS uO) (po_X5_search_5 z vh vc vp vl vy vs vo vt vn rY rS rO vsc vch vat vd vb uC uP uL uT uN uY uS uO o8 b8) := by
  refine zzMet.of (own := RX5) (ls0 := [(0, .ref vh), (1, .int (iI b8))]) (by decide) rfl (Nat.le_of_ble_eq_true rfl) rfl ?_
  intro p e s m below meth c A C hr hnm
  have hl1 := hl.1
  have hlb := hl.2.1 b8 (by omega) (by omega)
  refine zz_iload_n C 1 dX5_search_0 rfl rfl ?_
  refine zz_aload_n C 0 dX5_search_1 rfl rfl ?_
  refine zz_get C 0 (ci := 5) (k := 5) rfl rfl in_X5 (by decide) qw_224 rfl rfl dX5_search_2 ?_
  refine zz_icmp_lt (tgt := 13) C dX5_search_5 (by decide) (by unfold rI; omega) (by unfold rI; omega) (fun c5 => ?_) (fun c5 => ?_)
  · skip
    refine zz_ldc2 (a := 9223372036854775807) C qw_776 (by decide +kernel) dX5_search_13 ?_
    refine zz_lstore_n (ls' := [(2, .long (iL 9223372036854775807)), (0, .ref vh), (1, .int (iI b8))]) C dX5_search_16 rfl (by decide) rfl ?_
    refine zz_iconst C dX5_search_17 ?_
    refine zz_istore (ls' := [(4, .int (iI 0)), (2, .long (iL 9223372036854775807)), (0, .ref vh), (1, .int (iI b8))]) C dX5_search_18 (by decide) rfl ?_
    have Lp20 : ∀ (fu9 : Nat) (n9 : Int) (bf : Int) (gh9 : Int) (ga9 : Int) (gC : Int → Int) (gN : Int → Int) (gT : Int → Int) (gO : Int → Int → Int), (0 ≤ n9 ∧ n9 ≤ uL b8 + 1) → (agr b8 gN uN ∧ (∀ c : Int, 0 ≤ c → c ≤ b8 → gT c = uT c) ∧ (∀ c d : Int, 0 ≤ c → c ≤ b8 → gO c d = uO c d)) → (0 ≤ gh9 ∧ gh9 ≤ 9223372036854775807) → ((n9 = 0 ∧ bf = 9223372036854775807) ∨ (1 ≤ n9 ∧ bf = fN vd uP o8 uY uS uN b8 (n9 - 1))) → (0 ≤ bf ∧ bf ≤ 9223372036854775807) → (sRes vd b8 vb uP uL o8 uY uN (fun m => m b8 < n9) vch vat uC gh9 ga9 gC) → (uL b8 + 1 - n9).toNat < fu9 → zzW p l e rm_X5_search_5 s m ([.ref vh, .int (iI b8)] : List Value).toArray below meth c z A 7 (MQ below (zQ z A (po_X5_search_5 z vh vc vp vl vy vs vo vt vn rY rS rO vsc vch vat vd vb uC uP uL uT uN uY uS uO o8 b8)) ([.ref vh, .int (iI b8)] : List Value).toArray s 0 0 A) 0 0 (wLot z vh vc vp vl vy vs vo vt vn rY rS rO vsc gh9 ga9 vd vb gC uP uL gT gN uY uS gO) [(0, .ref vh), (1, .int (iI b8)), (2, .long (iL bf)), (4, .int (iI n9))] [] 20 := by
      intro fu9
      induction fu9 with
      | zero => intro n9 bf gh9 ga9 gC gN gT gO hn9 hfr hgh hbf hbr hres h9; exact absurd h9 (Nat.not_lt_zero _)
      | succ fu9 ih20 =>
        intro n9 bf gh9 ga9 gC gN gT gO hn9 hfr hgh hbf hbr hres hm20
        refine zz_iload C 3 dX5_search_20 rfl ?_
        refine zz_aload_n C 0 dX5_search_22 rfl rfl ?_
        refine zz_get C 0 (ci := 5) (k := 7) rfl rfl in_X5 (by decide) qw_226 rfl rfl dX5_search_23 ?_
        refine zz_iload_n C 1 dX5_search_26 rfl rfl ?_
        refine zz_iald C 3 rfl (by omega) (by omega) (by decide) dX5_search_27 ?_
        refine zz_icmp_gt (tgt := 84) C dX5_search_28 (by decide) (by unfold rI; omega) (by unfold rI; omega) (fun c28 => ?_) (fun c28 => ?_)
        · skip
          exact zz_vret C hr dX5_search_84 ⟨_, _, _, _, _, _, hfr, hgh, sRes_all hres (by omega) (by omega), rfl, rfl⟩
        · skip
          refine zz_aload_n C 0 dX5_search_31 rfl rfl ?_
          refine zz_iload_n C 1 dX5_search_32 rfl rfl ?_
          refine zz_iload C 3 dX5_search_33 rfl ?_
          refine zz_callV (wr := ([] : va_W)) (st := []) C (cc_X5_choose l z vh vc vp vl vy vs vo vt vn rY rS rO vsc gh9 ga9 vd vb gC uP uL gT gN uY uS gO b8 n9 (by omega) (by omega) (by omega)) yk_X5_choose qw_789 ⟨by decide, by decide⟩ [0, 1, 2, 3, 4, 5, 6, 7, 8, 9, 10, 11, 12, 13, 14, 15, 16, 17, 18, 19, 20, 21, 22, 23, 24, 25] [] rfl rfl rfl rfl (by decide) 0 5 rfl rfl rfl rfl (Nat.le_of_ble_eq_true rfl) dX5_search_35 ⟨by decide, by decide⟩ ?_
          rintro _ _ ⟨gO_35, hgO_35, rfl, rfl⟩
          refine zz_st (st' := []) rfl (zz_ws (ws' := wLot z vh vc vp vl vy vs vo vt vn rY rS rO vsc gh9 ga9 vd vb gC uP uL (zup gT (b8 + 1) (gT b8 + n9 * uP b8)) (zup gN b8 n9) uY uS gO_35) rfl ?_)
          have hT9 := ch_T (p := uP) (n := n9) (m := gN) (gT := gT) hb8.1 hfr.1 (by rw [hfr.2.1 b8 hb8.1 (by omega)]; exact hT)
          have hO9 := ch_O (o := o8) (T := vd) (m := gN) hb8.1 hfr.1 (fun d d0 d1 => by rw [hfr.2.2 b8 d hb8.1 (by omega)]; exact hO d d0 d1) hgO_35
          have hx9 := bxd_zup (n := n9) hfr.1 hx (by omega)
          have hr9 := lst_rng hl (b := b8 + 1) (by omega) (by omega) hx9
          have hfe : lstF vd uP o8 uY uS (zup gN b8 n9) (b8 + 1) = fN vd uP o8 uY uS uN b8 n9 := lstF_agr (agr_up hfr.1)
          have hfrC : agr b8 (zup gN b8 n9) uN ∧ (∀ c : Int, 0 ≤ c → c ≤ b8 → zup gT (b8 + 1) (gT b8 + n9 * uP b8) c = uT c) ∧ (∀ c d : Int, 0 ≤ c → c ≤ b8 → gO_35 c d = uO c d) := ⟨fun c c0 c1 => by rw [zup_ne (by omega)]; exact hfr.1 c c0 c1, fun c c0 c1 => by rw [zup_ne (by omega)]; exact hfr.2.1 c c0 c1, fun c d c0 c1 => by rw [hgO_35 c d, if_neg (by omega)]; exact hfr.2.2 c d c0 c1⟩
          refine zz_aload_n C 0 dX5_search_38 rfl rfl ?_
          refine zz_iload_n C 1 dX5_search_39 rfl rfl ?_
          refine zz_iconst C dX5_search_40 ?_
          refine zz_iadd C dX5_search_41 ?_
          refine zz_callV (wr := ([] : va_W)) (st := []) C (cc_X5_leastCost l z vh vc vp vl vy vs vo vt vn rY rS rO vsc gh9 ga9 vd vb gC uP uL (zup gT (b8 + 1) (gT b8 + n9 * uP b8)) (zup gN b8 n9) uY uS gO_35 o8 (zup gN b8 n9) (b8 + 1) hl (by omega) hT9 hO9 hx9) yk_X5_leastCost qw_785 ⟨by decide, by decide⟩ [0, 1, 2, 3, 4, 5, 6, 7, 8, 9, 10, 11, 12, 13, 14, 15, 16, 17, 18, 19, 20, 21, 22, 23, 24, 25] [] rfl rfl rfl rfl (by decide) 0 5 rfl rfl rfl rfl (Nat.le_of_ble_eq_true rfl) dX5_search_42 ⟨by decide, by decide⟩ ?_
          rintro _ _ ⟨rfl, rfl⟩
          refine zz_st (st' := [.long (iL (lstF vd uP o8 uY uS (zup gN b8 n9) (b8 + 1)))]) rfl (zz_ws (ws' := wLot z vh vc vp vl vy vs vo vt vn rY rS rO vsc gh9 ga9 vd vb gC uP uL (zup gT (b8 + 1) (gT b8 + n9 * uP b8)) (zup gN b8 n9) uY uS gO_35) rfl ?_)
          refine zz_lstore (ls' := [(5, .long (iL (lstF vd uP o8 uY uS (zup gN b8 n9) (b8 + 1)))), (0, .ref vh), (1, .int (iI b8)), (2, .long (iL bf)), (4, .int (iI n9))]) C dX5_search_45 (by decide) rfl ?_
          refine zz_lload C 0 dX5_search_47 rfl ?_
          refine zz_aload_n C 1 dX5_search_49 rfl rfl ?_
          refine zz_get C 0 (ci := 5) (k := 1) rfl rfl in_X5 (by decide) qw_217 rfl rfl dX5_search_50 ?_
          refine zz_lcmp_ge (tgt := 67) C dX5_search_53 dX5_search_54 (by decide) (by unfold rL; omega) (by unfold rL; omega) (fun c53 => ?_) (fun c53 => ?_)
          · skip
            refine zz_lload C 0 dX5_search_67 rfl ?_
            refine zz_lload_n C 3 dX5_search_69 rfl rfl ?_
            refine zz_lcmp_lt (tgt := 75) C dX5_search_70 dX5_search_71 (by decide) (by unfold rL; omega) (by unfold rL; omega) (fun c70 => ?_) (fun c70 => ?_)
            · skip
              have hfr9 := hfrC
              have hres9 := sRes_tail hres hl (by omega) hfe (by omega)
              refine zz_lload C 0 dX5_search_75 rfl ?_
              refine zz_lstore_n (ls' := [(2, .long (iL (lstF vd uP o8 uY uS (zup gN b8 n9) (b8 + 1)))), (5, .long (iL (lstF vd uP o8 uY uS (zup gN b8 n9) (b8 + 1)))), (0, .ref vh), (1, .int (iI b8)), (4, .int (iI n9))]) C dX5_search_77 rfl (by decide) rfl ?_
              refine zz_iinc (ls' := [(4, .int (iI (n9 + 1))), (2, .long (iL (lstF vd uP o8 uY uS (zup gN b8 n9) (b8 + 1)))), (5, .long (iL (lstF vd uP o8 uY uS (zup gN b8 n9) (b8 + 1)))), (0, .ref vh), (1, .int (iI b8))]) C 4 dX5_search_78 rfl (by decide) rfl ?_
              refine zz_goto (tgt := 20) C dX5_search_81 (by decide) ?_
              refine zz_loc (ls' := [(0, .ref vh), (1, .int (iI b8)), (2, .long (iL (lstF vd uP o8 uY uS (zup gN b8 n9) (b8 + 1)))), (4, .int (iI (n9 + 1)))]) [3, 4, 1, 0] rfl ?_
              exact ih20 (n9 + 1) (lstF vd uP o8 uY uS (zup gN b8 n9) (b8 + 1)) gh9 ga9 gC (zup gN b8 n9) (zup gT (b8 + 1) (gT b8 + n9 * uP b8)) gO_35 (by omega) hfr9 (by omega) (Or.inr ⟨by omega, by rw [show n9 + 1 - 1 = n9 by omega]; exact hfe⟩) (by omega) hres9 (by omega)
            · skip
              exact zz_vret C hr dX5_search_74 ⟨_, _, _, _, _, _, hfrC, hgh, sRes_stop hres hl (by omega) hfe (by omega) (by rcases hbf with h | h; omega; rw [← h.2]; omega), rfl, rfl⟩
          · skip
            have hlt9 := c53
            refine zz_aload_n C 1 dX5_search_57 rfl rfl ?_
            refine zz_iload_n C 2 dX5_search_58 rfl rfl ?_
            refine zz_iconst C dX5_search_59 ?_
            refine zz_iadd C dX5_search_60 ?_
            refine zz_callV (wr := ([] : va_W)) (st := []) C (cc_X5_search_4 l z vh vc vp vl vy vs vo vt vn rY rS rO vsc gh9 ga9 vd vb gC uP uL (zup gT (b8 + 1) (gT b8 + n9 * uP b8)) (zup gN b8 n9) uY uS gO_35 o8 (b8 + 1) hl (by omega) hT9 hO9 hx9 (by omega) c53) yk_X5_search qw_777 ⟨by decide, by decide⟩ [0, 1, 2, 3, 4, 5, 6, 7, 8, 9, 10, 11, 12, 13, 14, 15, 16, 17, 18, 19, 20, 21, 22, 23, 24, 25] [] rfl rfl rfl rfl (by decide) 0 5 rfl rfl rfl rfl (Nat.le_of_ble_eq_true rfl) dX5_search_61 ⟨by decide, by decide⟩ ?_
            rintro _ _ ⟨gh9_61, ga9_61, gC_61, gN_61, gT_61, gO_61, hfr_61, hgh_61, hres_61, rfl, rfl⟩
            refine zz_st (st' := []) rfl (zz_ws (ws' := wLot z vh vc vp vl vy vs vo vt vn rY rS rO vsc gh9_61 ga9_61 vd vb gC_61 uP uL gT_61 gN_61 uY uS gO_61) rfl ?_)
            have hfr9 : agr b8 gN_61 uN ∧ (∀ c : Int, 0 ≤ c → c ≤ b8 → gT_61 c = uT c) ∧ (∀ c d : Int, 0 ≤ c → c ≤ b8 → gO_61 c d = uO c d) := ⟨fun c c0 c1 => by rw [hfr_61.1 c c0 (by omega)]; exact hfrC.1 c c0 c1, fun c c0 c1 => by rw [hfr_61.2.1 c c0 (by omega)]; exact hfrC.2.1 c c0 c1, fun c d c0 c1 => by rw [hfr_61.2.2 c d c0 (by omega)]; exact hfrC.2.2 c d c0 c1⟩
            have hres9 := sRes_join hres (by omega) (⟨hfrC.1, zup_eq _ _ _⟩ : agr b8 (zup gN b8 n9) uN ∧ zup gN b8 n9 b8 = n9) hres_61
            refine zz_goto (tgt := 75) C dX5_search_64 (by decide) ?_
            refine zz_lload C 0 dX5_search_75 rfl ?_
            refine zz_lstore_n (ls' := [(2, .long (iL (lstF vd uP o8 uY uS (zup gN b8 n9) (b8 + 1)))), (5, .long (iL (lstF vd uP o8 uY uS (zup gN b8 n9) (b8 + 1)))), (0, .ref vh), (1, .int (iI b8)), (4, .int (iI n9))]) C dX5_search_77 rfl (by decide) rfl ?_
            refine zz_iinc (ls' := [(4, .int (iI (n9 + 1))), (2, .long (iL (lstF vd uP o8 uY uS (zup gN b8 n9) (b8 + 1)))), (5, .long (iL (lstF vd uP o8 uY uS (zup gN b8 n9) (b8 + 1)))), (0, .ref vh), (1, .int (iI b8))]) C 4 dX5_search_78 rfl (by decide) rfl ?_
            refine zz_goto (tgt := 20) C dX5_search_81 (by decide) ?_
            refine zz_loc (ls' := [(0, .ref vh), (1, .int (iI b8)), (2, .long (iL (lstF vd uP o8 uY uS (zup gN b8 n9) (b8 + 1)))), (4, .int (iI (n9 + 1)))]) [3, 4, 1, 0] rfl ?_
            exact ih20 (n9 + 1) (lstF vd uP o8 uY uS (zup gN b8 n9) (b8 + 1)) gh9_61 ga9_61 gC_61 gN_61 gT_61 gO_61 (by omega) hfr9 (by omega) (Or.inr ⟨by omega, by rw [show n9 + 1 - 1 = n9 by omega]; exact hfe⟩) (by omega) hres9 (by omega)
    refine zz_loc (ls' := [(0, .ref vh), (1, .int (iI b8)), (2, .long (iL 9223372036854775807)), (4, .int (iI 0))]) [2, 3, 1, 0] rfl ?_
    exact Lp20 _ 0 9223372036854775807 vch vat uC uN uT uO (by omega) ⟨fun _ _ _ => rfl, fun _ _ _ => rfl, fun _ _ _ _ => rfl⟩ (by omega) (Or.inl ⟨rfl, rfl⟩) (by omega) (sRes_0.resolve_right (fun h => h ⟨by omega, by omega⟩)) (Nat.lt_succ_self _)
  · skip
    exfalso; omega
