/-- a fraction's upper (un = 0) or lower number in least terms -/
def ltm (a b un : Int) : Int := (if un = 0 then a else b) / ((Int.gcd a b : Nat) : Int)
theorem gcd_pos {a b : Int} (hb : 0 < b) : 0 < ((Int.gcd a b : Nat) : Int) := by
  have : 0 < Int.gcd a b := Nat.pos_of_ne_zero (fun h => by have := (Int.gcd_eq_zero_iff.mp h).2; omega)
  omega
theorem ltm_eq {a b c d : Int} (un : Int) (hb : 0 < b) (hd : 0 < d) (h : a * d = c * b) : ltm a b un = ltm c d un := by
  have g1 := gcd_pos (a := a) hb
  have g2 := gcd_pos (a := c) hd
  have hg : ((Int.gcd a b : Nat) : Int) * d = ((Int.gcd c d : Nat) : Int) * b := by
    have h1 : Int.gcd (a * d) (b * d) = Int.gcd a b * d.natAbs := Int.gcd_mul_right _ _ _
    have h2 : Int.gcd (c * b) (d * b) = Int.gcd c d * b.natAbs := Int.gcd_mul_right _ _ _
    rw [h, Int.mul_comm b d, h2] at h1
    have h3 : ((Int.gcd c d * b.natAbs : Nat) : Int) = ((Int.gcd a b * d.natAbs : Nat) : Int) := by rw [h1]
    rw [Int.natCast_mul, Int.natCast_mul, Int.natAbs_of_nonneg (by omega), Int.natAbs_of_nonneg (by omega)] at h3
    exact h3.symm
  have da : ((Int.gcd c d : Nat) : Int) ∣ c := Int.gcd_dvd_left ..
  have dd : ((Int.gcd c d : Nat) : Int) ∣ d := Int.gcd_dvd_right ..
  unfold ltm
  generalize ((Int.gcd a b : Nat) : Int) = g at *
  generalize ((Int.gcd c d : Nat) : Int) = k at *
  obtain ⟨y, rfl⟩ := da
  obtain ⟨x, rfl⟩ := dd
  have e1 : b = g * x := by
    have : k * b = k * (g * x) := by rw [← hg, ← Int.mul_assoc, ← Int.mul_assoc, Int.mul_comm g k]
    exact Int.eq_of_mul_eq_mul_left (by omega) this
  have e2 : a = g * y := by
    have : a * (k * x) = g * y * (k * x) := by
      rw [h, e1, Int.mul_assoc, Int.mul_assoc, Int.mul_left_comm k y, Int.mul_left_comm k g, Int.mul_left_comm y g]
    exact Int.eq_of_mul_eq_mul_right (by omega) this
  have q1 : ∀ w : Int, g * w / g = w := fun w => Int.mul_ediv_cancel_left w (by omega)
  have q2 : ∀ w : Int, k * w / k = w := fun w => Int.mul_ediv_cancel_left w (by omega)
  split
  · rw [e2, q1, q2]
  · rw [e1, q1, q2]
theorem gcd_step {a b : Int} : Int.gcd b (a.tmod b) = Int.gcd a b := by
  rw [Int.gcd_eq_natAbs_gcd_natAbs, Int.gcd_eq_natAbs_gcd_natAbs, Int.natAbs_tmod, Nat.gcd_comm a.natAbs, Nat.gcd_rec b.natAbs a.natAbs, Nat.gcd_comm]
theorem gcd_end {a : Int} (h : 0 ≤ a) : ((Int.gcd a 0 : Nat) : Int) = a := by
  rw [Int.gcd_zero_right]; omega
/-- Euclid's steps: what is left halves with each -/
def eucP (a b hi lo st : Int) : Prop := (st = 0 ∧ hi = a ∧ lo = b) ∨ (1 ≤ st ∧ lo < hi ∧ lo * hi * 2 ^ st.toNat ≤ 2 ^ 61)
theorem eucP_step {a b hi lo st : Int} (h : eucP a b hi lo st) (hb : 0 < b ∧ b ≤ 1073741824) (hl : 0 < lo) (hh : 0 ≤ hi) (hs : 0 ≤ st) : eucP a b lo (hi.tmod lo) (st + 1) := by
  have m0 := Int.tmod_nonneg lo hh
  have m1 := Int.tmod_lt_of_pos hi hl
  right
  refine ⟨by omega, m1, ?_⟩
  rw [show (st + 1).toNat = st.toNat + 1 by omega, Int.pow_succ]
  rcases h with ⟨rfl, rfl, rfl⟩ | ⟨h1, h2, h3⟩
  · have := mul_pos_rng (a := hi.tmod lo) (A := 1073741824) (b := lo) (B := 1073741824) (by omega) (by omega)
    show hi.tmod lo * lo * (1 * 2) ≤ 2 ^ 61
    omega
  · have e1 := Int.mul_tdiv_add_tmod hi lo
    have e2 : 1 ≤ hi.tdiv lo := by
      rw [Int.tdiv_eq_ediv_of_nonneg hh]
      exact (Int.le_ediv_iff_mul_le hl).mpr (by omega)
    have e3 : lo * 1 ≤ lo * hi.tdiv lo := Int.mul_le_mul_of_nonneg_left e2 (by omega)
    have e4 : hi.tmod lo * 2 ≤ hi := by omega
    have e5 : hi.tmod lo * 2 * (lo * 2 ^ st.toNat) ≤ hi * (lo * 2 ^ st.toNat) := Int.mul_le_mul_of_nonneg_right e4 (Int.mul_nonneg (by omega) (Int.pow_nonneg (by omega)))
    generalize (2 : Int) ^ st.toNat = P at *
    have e6 : hi.tmod lo * lo * (P * 2) = hi.tmod lo * 2 * (lo * P) := by
      rw [Int.mul_comm P 2, ← Int.mul_assoc, Int.mul_right_comm (hi.tmod lo) lo 2, Int.mul_assoc]
    have e7 : hi * (lo * P) = lo * hi * P := by rw [← Int.mul_assoc, Int.mul_comm hi lo]
    omega
theorem eucP_end {a b hi lo st : Int} (h : eucP a b hi lo st) (hs : 100 ≤ st) (hl : 0 ≤ lo) : lo = 0 := by
  rcases h with ⟨rfl, -⟩ | ⟨h1, h2, h3⟩
  · omega
  · refine Classical.byContradiction (fun q => ?_)
    have e1 : (1 : Int) ≤ lo * hi := by
      have := Int.mul_le_mul_of_nonneg_left (show (1 : Int) ≤ hi by omega) (show (0 : Int) ≤ lo by omega)
      omega
    have e2 : (2 : Int) ^ 62 ≤ 2 ^ st.toNat := by
      have : (2 : Nat) ^ 62 ≤ 2 ^ st.toNat := Nat.pow_le_pow_right (by omega) (by omega)
      exact_mod_cast this
    have e3 : (1 : Int) * 2 ^ st.toNat ≤ lo * hi * 2 ^ st.toNat := Int.mul_le_mul_of_nonneg_right e1 (Int.pow_nonneg (by omega))
    generalize (2 : Int) ^ st.toNat = P at *
    have : (2 : Int) ^ 62 = 4611686018427387904 := by decide
    have : (2 : Int) ^ 61 = 2305843009213693952 := by decide
    omega
theorem gcd_le_right {a b : Int} (hb : 0 < b) : ((Int.gcd a b : Nat) : Int) ≤ b := Int.le_of_dvd hb (Int.gcd_dvd_right ..)
/-- the comparison of two fractions by whole parts -/
def cmpS (a b c d t S : Int) : Prop := (t = 1 ∧ (a * d - c * b < 0 ↔ S < 0) ∧ (a * d - c * b = 0 ↔ S = 0)) ∨ (t = -1 ∧ (a * d - c * b < 0 ↔ 0 < S) ∧ (a * d - c * b = 0 ↔ S = 0))
theorem cmpS_flip {a b c d t S S2 : Int} (h : cmpS a b c d t S) (e : S2 = -S) : cmpS a b c d (-t) S2 := by
  subst e
  rcases h with ⟨h1, h2, h3⟩ | ⟨h1, h2, h3⟩
  · exact Or.inr ⟨by omega, by rw [h2]; omega, by rw [h3]; omega⟩
  · exact Or.inl ⟨by omega, by rw [h2]; omega, by rw [h3]; omega⟩
/-- the answer: -1, 0, 1 -/
def isCmp (a b c d r : Int) : Prop := (r = -1 ∧ a * d < c * b) ∨ (r = 0 ∧ a * d = c * b) ∨ (r = 1 ∧ c * b < a * d)
theorem isCmp_lt {a b c d t S : Int} (h : cmpS a b c d t S) (e : S < 0) : isCmp a b c d (-t) := by
  unfold isCmp
  rcases h with ⟨h1, h2, h3⟩ | ⟨h1, h2, h3⟩ <;> omega
theorem isCmp_gt {a b c d t S : Int} (h : cmpS a b c d t S) (e : 0 < S) : isCmp a b c d t := by
  unfold isCmp
  rcases h with ⟨h1, h2, h3⟩ | ⟨h1, h2, h3⟩ <;> omega
theorem isCmp_eq {a b c d t S : Int} (h : cmpS a b c d t S) (e : S = 0) : isCmp a b c d 0 := by
  unfold isCmp
  rcases h with ⟨h1, h2, h3⟩ | ⟨h1, h2, h3⟩ <;> omega
theorem tdiv_facts {a b : Int} (ha : 0 ≤ a) (hb : 0 < b) : 0 ≤ a.tdiv b ∧ a.tdiv b ≤ a ∧ b * a.tdiv b + a.tmod b = a ∧ 0 ≤ a.tmod b ∧ a.tmod b < b := by
  have e1 := Int.mul_tdiv_add_tmod a b
  have e2 := Int.tmod_nonneg b ha
  have e3 := Int.tmod_lt_of_pos a hb
  have e4 : 0 ≤ a.tdiv b := Int.tdiv_nonneg ha (by omega)
  have e5 : 1 * a.tdiv b ≤ b * a.tdiv b := Int.mul_le_mul_of_nonneg_right (by omega) e4
  omega
/-- S of the step: the whole parts -/
theorem cmp_whole {u w v x o t q r : Int} (hu : w * o + q = u) (hv : x * t + r = v) (hq : 0 ≤ q ∧ q < w) (hr : 0 ≤ r ∧ r < x) (h : o < t) : u * x - v * w < 0 := by
  have e1 : o + 1 ≤ t := h
  have e2 : w * (o + 1) * x ≤ w * t * x := Int.mul_le_mul_of_nonneg_right (Int.mul_le_mul_of_nonneg_left e1 (by omega)) (by omega)
  have e3 : u < w * (o + 1) := by rw [Int.mul_add]; omega
  have e4 : u * x < w * (o + 1) * x := Int.mul_lt_mul_of_pos_right e3 (by omega)
  have e5 : x * t * w ≤ v * w := Int.mul_le_mul_of_nonneg_right (by omega) (by omega)
  have e6 : x * t * w = w * t * x := by rw [Int.mul_comm (x * t) w, Int.mul_comm x t, ← Int.mul_assoc]
  omega
theorem cmp_rest {u w v x o q r : Int} (hu : w * o + q = u) (hv : x * o + r = v) : u * x - v * w = q * x - r * w := by
  rw [← hu, ← hv, Int.add_mul, Int.add_mul]
  have : w * o * x = x * o * w := by rw [Int.mul_comm (w * o) x, Int.mul_comm w o, ← Int.mul_assoc]
  omega
theorem cmpA {S q x r w : Int} (h : S = q * x - r * w) (hq : q = 0) (hr : r = 0) : S = 0 := by rw [h, hq, hr, Int.zero_mul, Int.zero_mul]; rfl
theorem cmpB {S q x r w : Int} (h : S = q * x - r * w) (hq : q = 0) (hr : 0 < r) (hw : 0 < w) : S < 0 := by
  have := Int.mul_pos hr hw
  rw [h, hq, Int.zero_mul]; omega
theorem cmpC {S q x r w : Int} (h : S = q * x - r * w) (hq : 0 < q) (hr : r = 0) (hx : 0 < x) : 0 < S := by
  have := Int.mul_pos hq hx
  rw [h, hr, Int.zero_mul]; omega

abbrev po_X9_commonDivisor (z : zC) (na : Int) (nb : Int) : Option Value → va_W → Prop := fun v w => v = some (Value.long (iL ((Int.gcd na nb : Nat) : Int))) ∧ w = ([] : va_W)
abbrev rm_X9_commonDivisor : Room := { frames := 1, cells := 0, slots := 0, locals := 40 }
set_option maxHeartbeats 4000000 in
set_option maxRecDepth 100000 in
theorem cc_X9_commonDivisor (l : Launch) (z : zC) (na : Int) (nb : Int) (hna : 0 ≤ na ∧ na ≤ 9000000000000000000) (hnb : 0 < nb ∧ nb ≤ 1073741824) : zzMet l yX9_commonDivisor cX9_commonDivisor 11 (Option.some .long) rm_X9_commonDivisor z [.long (iL na), .long (iL nb)] (([] : va_W)) (po_X9_commonDivisor z na nb) := by
  refine zzMet.of (own := RX9) (ls0 := [(0, .long (iL na)), (2, .long (iL nb))]) (by decide) rfl (Nat.le_of_ble_eq_true rfl) rfl ?_
  intro p e s m below meth c A C hr hnm
  refine zz_lload_n C 0 dX9_commonDivisor_0 rfl rfl ?_
  refine zz_lstore (ls' := [(4, .long (iL na)), (0, .long (iL na)), (2, .long (iL nb))]) C dX9_commonDivisor_1 (by decide) rfl ?_
  refine zz_lload_n C 2 dX9_commonDivisor_3 rfl rfl ?_
  refine zz_lstore (ls' := [(6, .long (iL nb)), (4, .long (iL na)), (0, .long (iL na)), (2, .long (iL nb))]) C dX9_commonDivisor_4 (by decide) rfl ?_
  refine zz_iconst C dX9_commonDivisor_6 ?_
  refine zz_istore (ls' := [(8, .int (iI 0)), (6, .long (iL nb)), (4, .long (iL na)), (0, .long (iL na)), (2, .long (iL nb))]) C dX9_commonDivisor_7 (by decide) rfl ?_
  have Lp9 : ∀ (fu9 : Nat) (hi : Int) (lo : Int) (st9 : Int), (0 ≤ hi ∧ hi ≤ 9000000000000000000) → (0 ≤ lo ∧ lo ≤ 1073741824) → (0 ≤ st9 ∧ st9 ≤ 100) → (Int.gcd hi lo = Int.gcd na nb) → (eucP na nb hi lo st9) → (100 - st9).toNat < fu9 → zzW p l e rm_X9_commonDivisor s m ([.long (iL na), .long (iL nb)] : List Value).toArray below meth c z A 11 (MQ below (zQ z A (po_X9_commonDivisor z na nb)) ([.long (iL na), .long (iL nb)] : List Value).toArray s 0 0 A) 0 0 (([] : va_W)) [(4, .long (iL hi)), (6, .long (iL lo)), (8, .int (iI st9))] [] 9 := by
    intro fu9
    induction fu9 with
    | zero => intro hi lo st9 hhi hlo hs hgc hp h9; exact absurd h9 (Nat.not_lt_zero _)
    | succ fu9 ih9 =>
      intro hi lo st9 hhi hlo hs hgc hp hm9
      refine zz_iload C 2 dX9_commonDivisor_9 rfl ?_
      refine zz_bipush C dX9_commonDivisor_11 (by decide +kernel) ?_
      refine zz_icmp_ge (tgt := 44) C dX9_commonDivisor_13 (by decide) (by unfold rI; omega) (by unfold rI; omega) (fun c13 => ?_) (fun c13 => ?_)
      · skip
        have hz : lo = 0 := eucP_end hp c13 hlo.1
        refine zz_lload C 0 dX9_commonDivisor_44 rfl ?_
        exact zz_lret C hr dX9_commonDivisor_46 ⟨zz_vL (by rw [← hgc, hz]; exact (gcd_end hhi.1).symm), rfl⟩
      · skip
        refine zz_lload C 1 dX9_commonDivisor_16 rfl ?_
        refine zz_lconst (a := 0) C dX9_commonDivisor_18 (by decide +kernel) ?_
        refine zz_lcmp_eq (tgt := 44) C dX9_commonDivisor_19 dX9_commonDivisor_20 (by decide) (by unfold rL; omega) (by unfold rL; omega) (fun c19 => ?_) (fun c19 => ?_)
        · skip
          have hz : lo = 0 := c19
          refine zz_lload C 0 dX9_commonDivisor_44 rfl ?_
          exact zz_lret C hr dX9_commonDivisor_46 ⟨zz_vL (by rw [← hgc, hz]; exact (gcd_end hhi.1).symm), rfl⟩
        · skip
          have hf23 := tdiv_facts (a := hi) (b := lo) hhi.1 (by omega)
          refine zz_lload C 0 dX9_commonDivisor_23 rfl ?_
          refine zz_lload C 1 dX9_commonDivisor_25 rfl ?_
          refine zz_lrem C dX9_commonDivisor_27 (by unfold rL; omega) (by unfold rL; omega) (by omega) (by omega) ?_
          refine zz_lstore (ls' := [(9, .long (iL (hi.tmod lo))), (4, .long (iL hi)), (6, .long (iL lo)), (8, .int (iI st9))]) C dX9_commonDivisor_28 (by decide) rfl ?_
          refine zz_lload C 2 dX9_commonDivisor_30 rfl ?_
          refine zz_lstore (ls' := [(4, .long (iL lo)), (9, .long (iL (hi.tmod lo))), (6, .long (iL lo)), (8, .int (iI st9))]) C dX9_commonDivisor_32 (by decide) rfl ?_
          refine zz_lload C 1 dX9_commonDivisor_34 rfl ?_
          refine zz_lstore (ls' := [(6, .long (iL (hi.tmod lo))), (4, .long (iL lo)), (9, .long (iL (hi.tmod lo))), (8, .int (iI st9))]) C dX9_commonDivisor_36 (by decide) rfl ?_
          refine zz_iinc (ls' := [(8, .int (iI (st9 + 1))), (6, .long (iL (hi.tmod lo))), (4, .long (iL lo)), (9, .long (iL (hi.tmod lo)))]) C 3 dX9_commonDivisor_38 rfl (by decide) rfl ?_
          refine zz_goto (tgt := 9) C dX9_commonDivisor_41 (by decide) ?_
          refine zz_loc (ls' := [(4, .long (iL lo)), (6, .long (iL (hi.tmod lo))), (8, .int (iI (st9 + 1)))]) [2, 1, 0] rfl ?_
          exact ih9 lo (hi.tmod lo) (st9 + 1) (by omega) (by omega) (by omega) (gcd_step.trans hgc) (eucP_step hp hnb (by omega) hhi.1 hs.1) (by omega)
  refine zz_loc (ls' := [(4, .long (iL na)), (6, .long (iL nb)), (8, .int (iI 0))]) [2, 1, 0] rfl ?_
  exact Lp9 _ na nb 0 (by omega) (by omega) (by omega) rfl (Or.inl ⟨rfl, rfl, rfl⟩) (Nat.lt_succ_self _)
abbrev po_X9_inLeastTerms (z : zC) (na : Int) (nb : Int) (un : Int) : Option Value → va_W → Prop := fun v w => v = some (Value.long (iL (ltm na nb un))) ∧ w = ([] : va_W)
abbrev rm_X9_inLeastTerms : Room := { frames := 2, cells := 0, slots := 0, locals := 70 }
set_option maxHeartbeats 4000000 in
set_option maxRecDepth 100000 in
theorem cc_X9_inLeastTerms (l : Launch) (z : zC) (na : Int) (nb : Int) (un : Int) (hna : 0 ≤ na ∧ na ≤ 9000000000000000000) (hnb : 0 < nb ∧ nb ≤ 1073741824) (hun : un = 0 ∨ un = 1) : zzMet l yX9_inLeastTerms cX9_inLeastTerms 7 (Option.some .long) rm_X9_inLeastTerms z [.long (iL na), .long (iL nb), .int (iI un)] (([] : va_W)) (po_X9_inLeastTerms z na nb un) := by
  refine zzMet.of (own := RX9) (ls0 := [(0, .long (iL na)), (2, .long (iL nb)), (4, .int (iI un))]) (by decide) rfl (Nat.le_of_ble_eq_true rfl) rfl ?_
  intro p e s m below meth c A C hr hnm
  have hgp := gcd_pos (a := na) hnb.1
  have hgl := gcd_le_right (a := na) hnb.1
  refine zz_lload_n C 0 dX9_inLeastTerms_0 rfl rfl ?_
  refine zz_lload_n C 1 dX9_inLeastTerms_1 rfl rfl ?_
  refine zz_callS (wr := ([] : va_W)) (st := []) C (cc_X9_commonDivisor l z na nb (by omega) (by omega)) yk_X9_commonDivisor qw_718 ⟨by decide, by decide⟩ [] [] rfl rfl rfl rfl (by decide) rfl rfl (Nat.le_of_ble_eq_true rfl) dX9_inLeastTerms_2 ⟨by decide, by decide⟩ ?_
  rintro _ _ ⟨rfl, rfl⟩
  refine zz_st (st' := [.long (iL ((Int.gcd na nb : Nat) : Int))]) rfl (zz_ws (ws' := ([] : va_W)) rfl ?_)
  refine zz_lstore (ls' := [(5, .long (iL ((Int.gcd na nb : Nat) : Int))), (0, .long (iL na)), (2, .long (iL nb)), (4, .int (iI un))]) C dX9_inLeastTerms_5 (by decide) rfl ?_
  refine zz_lload C 0 dX9_inLeastTerms_7 rfl ?_
  refine zz_lconst (a := 0) C dX9_inLeastTerms_9 (by decide +kernel) ?_
  refine zz_lcmp_ne (tgt := 16) C dX9_inLeastTerms_10 dX9_inLeastTerms_11 (by decide) (by unfold rL; omega) (by unfold rL; omega) (fun c10 => ?_) (fun c10 => ?_)
  · skip
    refine zz_iload C 3 dX9_inLeastTerms_16 rfl ?_
    refine zz_if_eq (tgt := 25) C dX9_inLeastTerms_18 (by decide) (by unfold rI; omega) (fun c18 => ?_) (fun c18 => ?_)
    · skip
      refine zz_lload_n C 1 dX9_inLeastTerms_25 rfl rfl ?_
      refine zz_lload C 0 dX9_inLeastTerms_26 rfl ?_
      refine zz_ldiv C dX9_inLeastTerms_28 (by unfold rL; omega) (by unfold rL; omega) (by omega) (by omega) ?_
      exact zz_lret C hr dX9_inLeastTerms_29 ⟨zz_vL (by unfold ltm; first | rw [if_pos (by omega), Int.tdiv_eq_ediv_of_nonneg (by omega)] | rw [if_neg (by omega), Int.tdiv_eq_ediv_of_nonneg (by omega)]), rfl⟩
    · skip
      refine zz_lload_n C 2 dX9_inLeastTerms_21 rfl rfl ?_
      refine zz_goto (tgt := 26) C dX9_inLeastTerms_22 (by decide) ?_
      refine zz_lload C 0 dX9_inLeastTerms_26 rfl ?_
      refine zz_ldiv C dX9_inLeastTerms_28 (by unfold rL; omega) (by unfold rL; omega) (by omega) (by omega) ?_
      exact zz_lret C hr dX9_inLeastTerms_29 ⟨zz_vL (by unfold ltm; first | rw [if_pos (by omega), Int.tdiv_eq_ediv_of_nonneg (by omega)] | rw [if_neg (by omega), Int.tdiv_eq_ediv_of_nonneg (by omega)]), rfl⟩
  · skip
    exfalso; omega
abbrev po_X10_in (z : zC) (v9 : Int) (lo9 : Int) (hi9 : Int) : Option Value → va_W → Prop := fun v w => ∃ (q : Int), ((q = 1 ∧ lo9 ≤ v9 ∧ v9 ≤ hi9) ∨ (q = 0 ∧ ¬ (lo9 ≤ v9 ∧ v9 ≤ hi9))) ∧ v = some (Value.int (iI q)) ∧ w = ([] : va_W)
abbrev rm_X10_in : Room := { frames := 1, cells := 0, slots := 0, locals := 40 }
set_option maxHeartbeats 4000000 in
set_option maxRecDepth 100000 in
theorem cc_X10_in (l : Launch) (z : zC) (v9 : Int) (lo9 : Int) (hi9 : Int) (hv : -2147483648 ≤ v9 ∧ v9 < 2147483648) (hlo : -2147483648 ≤ lo9 ∧ lo9 < 2147483648) (hhi : -2147483648 ≤ hi9 ∧ hi9 < 2147483648) : zzMet l yX10_in cX10_in 3 (Option.some .boolean) rm_X10_in z [.int (iI v9), .int (iI lo9), .int (iI hi9)] (([] : va_W)) (po_X10_in z v9 lo9 hi9) := by
  refine zzMet.of (own := RX10) (ls0 := [(0, .int (iI v9)), (1, .int (iI lo9)), (2, .int (iI hi9))]) (by decide) rfl (Nat.le_of_ble_eq_true rfl) rfl ?_
  intro p e s m below meth c A C hr hnm
  refine zz_iload_n C 0 dX10_in_0 rfl rfl ?_
  refine zz_iload_n C 1 dX10_in_1 rfl rfl ?_
  refine zz_icmp_lt (tgt := 14) C dX10_in_2 (by decide) (by unfold rI; omega) (by unfold rI; omega) (fun c2 => ?_) (fun c2 => ?_)
  · skip
    refine zz_iconst C dX10_in_14 ?_
    exact zz_zret C hr (by decide +kernel) dX10_in_15 ⟨0, Or.inr ⟨rfl, by omega⟩, rfl, rfl⟩
  · skip
    refine zz_iload_n C 0 dX10_in_5 rfl rfl ?_
    refine zz_iload_n C 2 dX10_in_6 rfl rfl ?_
    refine zz_icmp_gt (tgt := 14) C dX10_in_7 (by decide) (by unfold rI; omega) (by unfold rI; omega) (fun c7 => ?_) (fun c7 => ?_)
    · skip
      refine zz_iconst C dX10_in_14 ?_
      exact zz_zret C hr (by decide +kernel) dX10_in_15 ⟨0, Or.inr ⟨rfl, by omega⟩, rfl, rfl⟩
    · skip
      refine zz_iconst C dX10_in_10 ?_
      refine zz_goto (tgt := 15) C dX10_in_11 (by decide) ?_
      exact zz_zret C hr (by decide +kernel) dX10_in_15 ⟨1, Or.inl ⟨rfl, by omega⟩, rfl, rfl⟩
abbrev po_X10_divisor (z : zC) (na : Int) (nb : Int) : Option Value → va_W → Prop := fun v w => v = some (Value.long (iL ((Int.gcd na nb : Nat) : Int))) ∧ w = ([] : va_W)
abbrev rm_X10_divisor : Room := { frames := 1, cells := 0, slots := 0, locals := 40 }
set_option maxHeartbeats 4000000 in
set_option maxRecDepth 100000 in
theorem cc_X10_divisor (l : Launch) (z : zC) (na : Int) (nb : Int) (hna : 0 ≤ na ∧ na ≤ 9000000000000000000) (hnb : 0 < nb ∧ nb ≤ 9000000000000000000) : zzMet l yX10_divisor cX10_divisor 10 (Option.some .long) rm_X10_divisor z [.long (iL na), .long (iL nb)] (([] : va_W)) (po_X10_divisor z na nb) := by
  refine zzMet.of (own := RX10) (ls0 := [(0, .long (iL na)), (2, .long (iL nb))]) (by decide) rfl (Nat.le_of_ble_eq_true rfl) rfl ?_
  intro p e s m below meth c A C hr hnm
  refine zz_lload_n C 0 dX10_divisor_0 rfl rfl ?_
  refine zz_lconst (a := 0) C dX10_divisor_1 (by decide +kernel) ?_
  refine zz_lcmp_ge (tgt := 11) C dX10_divisor_2 dX10_divisor_3 (by decide) (by unfold rL; omega) (by unfold rL; omega) (fun c2 => ?_) (fun c2 => ?_)
  · skip
    refine zz_lload_n C 0 dX10_divisor_11 rfl rfl ?_
    refine zz_lstore (ls' := [(4, .long (iL na)), (0, .long (iL na)), (2, .long (iL nb))]) C dX10_divisor_12 (by decide) rfl ?_
    refine zz_lload_n C 2 dX10_divisor_14 rfl rfl ?_
    refine zz_lstore (ls' := [(6, .long (iL nb)), (4, .long (iL na)), (0, .long (iL na)), (2, .long (iL nb))]) C dX10_divisor_15 (by decide) rfl ?_
    have Lp17 : ∀ (fu9 : Nat) (hi : Int) (lo : Int), (0 ≤ hi ∧ hi ≤ 9000000000000000000) → (0 ≤ lo ∧ lo ≤ 9000000000000000000) → (Int.gcd hi lo = Int.gcd na nb) → (lo).toNat < fu9 → zzW p l e rm_X10_divisor s m ([.long (iL na), .long (iL nb)] : List Value).toArray below meth c z A 10 (MQ below (zQ z A (po_X10_divisor z na nb)) ([.long (iL na), .long (iL nb)] : List Value).toArray s 0 0 A) 0 0 (([] : va_W)) [(4, .long (iL hi)), (6, .long (iL lo))] [] 17 := by
      intro fu9
      induction fu9 with
      | zero => intro hi lo hhi hlo hgc h9; exact absurd h9 (Nat.not_lt_zero _)
      | succ fu9 ih17 =>
        intro hi lo hhi hlo hgc hm17
        refine zz_lload C 1 dX10_divisor_17 rfl ?_
        refine zz_lconst (a := 0) C dX10_divisor_19 (by decide +kernel) ?_
        refine zz_lcmp_eq (tgt := 42) C dX10_divisor_20 dX10_divisor_21 (by decide) (by unfold rL; omega) (by unfold rL; omega) (fun c20 => ?_) (fun c20 => ?_)
        · skip
          refine zz_lload C 0 dX10_divisor_42 rfl ?_
          exact zz_lret C hr dX10_divisor_44 ⟨zz_vL (by rw [← hgc, c20]; exact (gcd_end hhi.1).symm), rfl⟩
        · skip
          have hf24 := tdiv_facts (a := hi) (b := lo) hhi.1 (by omega)
          refine zz_lload C 0 dX10_divisor_24 rfl ?_
          refine zz_lload C 1 dX10_divisor_26 rfl ?_
          refine zz_lrem C dX10_divisor_28 (by unfold rL; omega) (by unfold rL; omega) (by omega) (by omega) ?_
          refine zz_lstore (ls' := [(8, .long (iL (hi.tmod lo))), (4, .long (iL hi)), (6, .long (iL lo))]) C dX10_divisor_29 (by decide) rfl ?_
          refine zz_lload C 2 dX10_divisor_31 rfl ?_
          refine zz_lstore (ls' := [(4, .long (iL lo)), (8, .long (iL (hi.tmod lo))), (6, .long (iL lo))]) C dX10_divisor_33 (by decide) rfl ?_
          refine zz_lload C 1 dX10_divisor_35 rfl ?_
          refine zz_lstore (ls' := [(6, .long (iL (hi.tmod lo))), (4, .long (iL lo)), (8, .long (iL (hi.tmod lo)))]) C dX10_divisor_37 (by decide) rfl ?_
          refine zz_goto (tgt := 17) C dX10_divisor_39 (by decide) ?_
          refine zz_loc (ls' := [(4, .long (iL lo)), (6, .long (iL (hi.tmod lo)))]) [1, 0] rfl ?_
          exact ih17 lo (hi.tmod lo) (by omega) (by omega) (gcd_step.trans hgc) (by omega)
    refine zz_loc (ls' := [(4, .long (iL na)), (6, .long (iL nb))]) [1, 0] rfl ?_
    exact Lp17 _ na nb (by omega) (by omega) rfl (Nat.lt_succ_self _)
  · skip
    exfalso; omega
abbrev po_X10_tells (z : zC) (na : Int) (nb : Int) (un : Int) : Option Value → va_W → Prop := fun v w => v = some (Value.long (iL (ltm na nb un))) ∧ w = ([] : va_W)
abbrev rm_X10_tells : Room := { frames := 2, cells := 0, slots := 0, locals := 69 }
set_option maxHeartbeats 4000000 in
set_option maxRecDepth 100000 in
theorem cc_X10_tells (l : Launch) (z : zC) (na : Int) (nb : Int) (un : Int) (hna : 0 ≤ na ∧ na ≤ 9000000000000000000) (hnb : 0 < nb ∧ nb ≤ 9000000000000000000) (hun : un = 0 ∨ un = 1) : zzMet l yX10_tells cX10_tells 7 (Option.some .long) rm_X10_tells z [.long (iL na), .long (iL nb), .int (iI un)] (([] : va_W)) (po_X10_tells z na nb un) := by
  refine zzMet.of (own := RX10) (ls0 := [(0, .long (iL na)), (2, .long (iL nb)), (4, .int (iI un))]) (by decide) rfl (Nat.le_of_ble_eq_true rfl) rfl ?_
  intro p e s m below meth c A C hr hnm
  have hgp := gcd_pos (a := na) hnb.1
  have hgl := gcd_le_right (a := na) hnb.1
  refine zz_lload_n C 0 dX10_tells_0 rfl rfl ?_
  refine zz_lload_n C 1 dX10_tells_1 rfl rfl ?_
  refine zz_callS (wr := ([] : va_W)) (st := []) C (cc_X10_divisor l z na nb (by omega) (by omega)) yk_X10_divisor qw_1236 ⟨by decide, by decide⟩ [] [] rfl rfl rfl rfl (by decide) rfl rfl (Nat.le_of_ble_eq_true rfl) dX10_tells_2 ⟨by decide, by decide⟩ ?_
  rintro _ _ ⟨rfl, rfl⟩
  refine zz_st (st' := [.long (iL ((Int.gcd na nb : Nat) : Int))]) rfl (zz_ws (ws' := ([] : va_W)) rfl ?_)
  refine zz_lstore (ls' := [(5, .long (iL ((Int.gcd na nb : Nat) : Int))), (0, .long (iL na)), (2, .long (iL nb)), (4, .int (iI un))]) C dX10_tells_5 (by decide) rfl ?_
  refine zz_iload C 3 dX10_tells_7 rfl ?_
  refine zz_if_eq (tgt := 19) C dX10_tells_9 (by decide) (by unfold rI; omega) (fun c9 => ?_) (fun c9 => ?_)
  · skip
    refine zz_lload_n C 1 dX10_tells_19 rfl rfl ?_
    refine zz_lload C 0 dX10_tells_20 rfl ?_
    refine zz_ldiv C dX10_tells_22 (by unfold rL; omega) (by unfold rL; omega) (by omega) (by omega) ?_
    exact zz_lret C hr dX10_tells_23 ⟨zz_vL (by unfold ltm; first | rw [if_pos (by omega), Int.tdiv_eq_ediv_of_nonneg (by omega)] | rw [if_neg (by omega), Int.tdiv_eq_ediv_of_nonneg (by omega)]), rfl⟩
  · skip
    refine zz_lload_n C 2 dX10_tells_12 rfl rfl ?_
    refine zz_lload C 0 dX10_tells_13 rfl ?_
    refine zz_ldiv C dX10_tells_15 (by unfold rL; omega) (by unfold rL; omega) (by omega) (by omega) ?_
    refine zz_goto (tgt := 23) C dX10_tells_16 (by decide) ?_
    exact zz_lret C hr dX10_tells_23 ⟨zz_vL (by unfold ltm; first | rw [if_pos (by omega), Int.tdiv_eq_ediv_of_nonneg (by omega)] | rw [if_neg (by omega), Int.tdiv_eq_ediv_of_nonneg (by omega)]), rfl⟩
abbrev po_X10_compares (z : zC) (na : Int) (nb : Int) (nc : Int) (nd : Int) : Option Value → va_W → Prop := fun v w => ∃ (q : Int), (isCmp na nb nc nd q) ∧ v = some (Value.int (iI q)) ∧ w = ([] : va_W)
abbrev rm_X10_compares : Room := { frames := 1, cells := 0, slots := 0, locals := 40 }
set_option maxHeartbeats 4000000 in
set_option maxRecDepth 100000 in
theorem cc_X10_compares (l : Launch) (z : zC) (na : Int) (nb : Int) (nc : Int) (nd : Int) (hna : 0 ≤ na ∧ na ≤ 9000000000000000000) (hnb : 0 < nb ∧ nb ≤ 9000000000000000000) (hnc : 0 ≤ nc ∧ nc ≤ 9000000000000000000) (hnd : 0 < nd ∧ nd ≤ 9000000000000000000) : zzMet l yX10_compares cX10_compares 25 (Option.some .int) rm_X10_compares z [.long (iL na), .long (iL nb), .long (iL nc), .long (iL nd)] (([] : va_W)) (po_X10_compares z na nb nc nd) := by
  refine zzMet.of (own := RX10) (ls0 := [(0, .long (iL na)), (2, .long (iL nb)), (4, .long (iL nc)), (6, .long (iL nd))]) (by decide) rfl (Nat.le_of_ble_eq_true rfl) rfl ?_
  intro p e s m below meth c A C hr hnm
  refine zz_lload_n C 0 dX10_compares_0 rfl rfl ?_
  refine zz_lstore (ls' := [(8, .long (iL na)), (0, .long (iL na)), (2, .long (iL nb)), (4, .long (iL nc)), (6, .long (iL nd))]) C dX10_compares_1 (by decide) rfl ?_
  refine zz_lload_n C 2 dX10_compares_3 rfl rfl ?_
  refine zz_lstore (ls' := [(10, .long (iL nb)), (8, .long (iL na)), (0, .long (iL na)), (2, .long (iL nb)), (4, .long (iL nc)), (6, .long (iL nd))]) C dX10_compares_4 (by decide) rfl ?_
  refine zz_lload C 4 dX10_compares_6 rfl ?_
  refine zz_lstore (ls' := [(12, .long (iL nc)), (10, .long (iL nb)), (8, .long (iL na)), (0, .long (iL na)), (2, .long (iL nb)), (4, .long (iL nc)), (6, .long (iL nd))]) C dX10_compares_8 (by decide) rfl ?_
  refine zz_lload C 6 dX10_compares_10 rfl ?_
  refine zz_lstore (ls' := [(14, .long (iL nd)), (12, .long (iL nc)), (10, .long (iL nb)), (8, .long (iL na)), (0, .long (iL na)), (2, .long (iL nb)), (4, .long (iL nc)), (6, .long (iL nd))]) C dX10_compares_12 (by decide) rfl ?_
  refine zz_iconst C dX10_compares_14 ?_
  refine zz_istore (ls' := [(16, .int (iI 1)), (14, .long (iL nd)), (12, .long (iL nc)), (10, .long (iL nb)), (8, .long (iL na)), (0, .long (iL na)), (2, .long (iL nb)), (4, .long (iL nc)), (6, .long (iL nd))]) C dX10_compares_15 (by decide) rfl ?_
  have Lp17 : ∀ (fu9 : Nat) (u : Int) (w : Int) (v : Int) (x : Int) (tn : Int), (0 ≤ u ∧ u ≤ 9000000000000000000) → (0 < w ∧ w ≤ 9000000000000000000) → (0 ≤ v ∧ v ≤ 9000000000000000000) → (0 < x ∧ x ≤ 9000000000000000000) → (tn = 1 ∨ tn = -1) → (cmpS na nb nc nd tn (u * x - v * w)) → (w).toNat < fu9 → zzW p l e rm_X10_compares s m ([.long (iL na), .long (iL nb), .long (iL nc), .long (iL nd)] : List Value).toArray below meth c z A 25 (MQ below (zQ z A (po_X10_compares z na nb nc nd)) ([.long (iL na), .long (iL nb), .long (iL nc), .long (iL nd)] : List Value).toArray s 0 0 A) 0 0 (([] : va_W)) [(8, .long (iL u)), (10, .long (iL w)), (12, .long (iL v)), (14, .long (iL x)), (16, .int (iI tn))] [] 17 := by
    intro fu9
    induction fu9 with
    | zero => intro u w v x tn hu hw hv hx htn hS h9; exact absurd h9 (Nat.not_lt_zero _)
    | succ fu9 ih17 =>
      intro u w v x tn hu hw hv hx htn hS hm17
      have fu := tdiv_facts (a := u) (b := w) hu.1 hw.1
      have fv := tdiv_facts (a := v) (b := x) hv.1 hx.1
      refine zz_lload C 0 dX10_compares_17 rfl ?_
      refine zz_lload C 1 dX10_compares_19 rfl ?_
      refine zz_ldiv C dX10_compares_21 (by unfold rL; omega) (by unfold rL; omega) (by omega) (by omega) ?_
      refine zz_lstore (ls' := [(17, .long (iL (u.tdiv w))), (8, .long (iL u)), (10, .long (iL w)), (12, .long (iL v)), (14, .long (iL x)), (16, .int (iI tn))]) C dX10_compares_22 (by decide) rfl ?_
      refine zz_lload C 3 dX10_compares_24 rfl ?_
      refine zz_lload C 4 dX10_compares_26 rfl ?_
      refine zz_ldiv C dX10_compares_28 (by unfold rL; omega) (by unfold rL; omega) (by omega) (by omega) ?_
      refine zz_lstore (ls' := [(19, .long (iL (v.tdiv x))), (17, .long (iL (u.tdiv w))), (8, .long (iL u)), (10, .long (iL w)), (12, .long (iL v)), (14, .long (iL x)), (16, .int (iI tn))]) C dX10_compares_29 (by decide) rfl ?_
      refine zz_lload C 1 dX10_compares_31 rfl ?_
      refine zz_lload C 0 dX10_compares_33 rfl ?_
      refine zz_lcmp_eq (tgt := 56) C dX10_compares_35 dX10_compares_36 (by decide) (by unfold rL; omega) (by unfold rL; omega) (fun c35 => ?_) (fun c35 => ?_)
      · skip
        have hcr := cmp_rest (o := u.tdiv w) (r := v.tmod x) (v := v) (x := x) fu.2.2.1 (by rw [c35]; exact fv.2.2.1)
        refine zz_lload C 2 dX10_compares_56 rfl ?_
        refine zz_lload C 3 dX10_compares_58 rfl ?_
        refine zz_lrem C dX10_compares_60 (by unfold rL; omega) (by unfold rL; omega) (by omega) (by omega) ?_
        refine zz_lstore (ls' := [(21, .long (iL (u.tmod w))), (19, .long (iL (v.tdiv x))), (17, .long (iL (u.tdiv w))), (8, .long (iL u)), (10, .long (iL w)), (12, .long (iL v)), (14, .long (iL x)), (16, .int (iI tn))]) C dX10_compares_61 (by decide) rfl ?_
        refine zz_lload C 5 dX10_compares_63 rfl ?_
        refine zz_lload C 6 dX10_compares_65 rfl ?_
        refine zz_lrem C dX10_compares_67 (by unfold rL; omega) (by unfold rL; omega) (by omega) (by omega) ?_
        refine zz_lstore (ls' := [(23, .long (iL (v.tmod x))), (21, .long (iL (u.tmod w))), (19, .long (iL (v.tdiv x))), (17, .long (iL (u.tdiv w))), (8, .long (iL u)), (10, .long (iL w)), (12, .long (iL v)), (14, .long (iL x)), (16, .int (iI tn))]) C dX10_compares_68 (by decide) rfl ?_
        refine zz_lload C 1 dX10_compares_70 rfl ?_
        refine zz_lconst (a := 0) C dX10_compares_72 (by decide +kernel) ?_
        refine zz_lcmp_eq (tgt := 84) C dX10_compares_73 dX10_compares_74 (by decide) (by unfold rL; omega) (by unfold rL; omega) (fun c73 => ?_) (fun c73 => ?_)
        · skip
          refine zz_lload C 1 dX10_compares_84 rfl ?_
          refine zz_lload C 0 dX10_compares_86 rfl ?_
          refine zz_lcmp_ne (tgt := 96) C dX10_compares_88 dX10_compares_89 (by decide) (by unfold rL; omega) (by unfold rL; omega) (fun c88 => ?_) (fun c88 => ?_)
          · skip
            refine zz_lload C 1 dX10_compares_96 rfl ?_
            refine zz_lconst (a := 0) C dX10_compares_98 (by decide +kernel) ?_
            refine zz_lcmp_ne (tgt := 109) C dX10_compares_99 dX10_compares_100 (by decide) (by unfold rL; omega) (by unfold rL; omega) (fun c99 => ?_) (fun c99 => ?_)
            · skip
              refine zz_iload C 8 dX10_compares_109 rfl ?_
              exact zz_iret C hr dX10_compares_111 ⟨_, by first | exact isCmp_eq hS (cmpA hcr (by omega) (by omega)) | exact isCmp_lt hS (cmpB hcr (by omega) (by omega) hw.1) | exact isCmp_gt hS (cmpC hcr (by omega) (by omega) hx.1) | (exfalso; omega), rfl, rfl⟩
            · skip
              refine zz_iload C 8 dX10_compares_103 rfl ?_
              refine zz_ineg C dX10_compares_105 ?_
              refine zz_goto (tgt := 111) C dX10_compares_106 (by decide) ?_
              exact zz_iret C hr dX10_compares_111 ⟨_, by first | exact isCmp_eq hS (cmpA hcr (by omega) (by omega)) | exact isCmp_lt hS (cmpB hcr (by omega) (by omega) hw.1) | exact isCmp_gt hS (cmpC hcr (by omega) (by omega) hx.1) | (exfalso; omega), rfl, rfl⟩
          · skip
            refine zz_iconst C dX10_compares_92 ?_
            refine zz_goto (tgt := 111) C dX10_compares_93 (by decide) ?_
            exact zz_iret C hr dX10_compares_111 ⟨_, by first | exact isCmp_eq hS (cmpA hcr (by omega) (by omega)) | exact isCmp_lt hS (cmpB hcr (by omega) (by omega) hw.1) | exact isCmp_gt hS (cmpC hcr (by omega) (by omega) hx.1) | (exfalso; omega), rfl, rfl⟩
        · skip
          refine zz_lload C 0 dX10_compares_77 rfl ?_
          refine zz_lconst (a := 0) C dX10_compares_79 (by decide +kernel) ?_
          refine zz_lcmp_ne (tgt := 112) C dX10_compares_80 dX10_compares_81 (by decide) (by unfold rL; omega) (by unfold rL; omega) (fun c80 => ?_) (fun c80 => ?_)
          · skip
            refine zz_lload C 5 dX10_compares_112 rfl ?_
            refine zz_lstore (ls' := [(8, .long (iL w)), (23, .long (iL (v.tmod x))), (21, .long (iL (u.tmod w))), (19, .long (iL (v.tdiv x))), (17, .long (iL (u.tdiv w))), (10, .long (iL w)), (12, .long (iL v)), (14, .long (iL x)), (16, .int (iI tn))]) C dX10_compares_114 (by decide) rfl ?_
            refine zz_lload C 2 dX10_compares_116 rfl ?_
            refine zz_lstore (ls' := [(10, .long (iL (u.tmod w))), (8, .long (iL w)), (23, .long (iL (v.tmod x))), (21, .long (iL (u.tmod w))), (19, .long (iL (v.tdiv x))), (17, .long (iL (u.tdiv w))), (12, .long (iL v)), (14, .long (iL x)), (16, .int (iI tn))]) C dX10_compares_118 (by decide) rfl ?_
            refine zz_lload C 7 dX10_compares_120 rfl ?_
            refine zz_lstore (ls' := [(12, .long (iL x)), (10, .long (iL (u.tmod w))), (8, .long (iL w)), (23, .long (iL (v.tmod x))), (21, .long (iL (u.tmod w))), (19, .long (iL (v.tdiv x))), (17, .long (iL (u.tdiv w))), (14, .long (iL x)), (16, .int (iI tn))]) C dX10_compares_122 (by decide) rfl ?_
            refine zz_lload C 3 dX10_compares_124 rfl ?_
            refine zz_lstore (ls' := [(14, .long (iL (v.tmod x))), (12, .long (iL x)), (10, .long (iL (u.tmod w))), (8, .long (iL w)), (23, .long (iL (v.tmod x))), (21, .long (iL (u.tmod w))), (19, .long (iL (v.tdiv x))), (17, .long (iL (u.tdiv w))), (16, .int (iI tn))]) C dX10_compares_126 (by decide) rfl ?_
            refine zz_iload C 8 dX10_compares_128 rfl ?_
            refine zz_ineg C dX10_compares_130 ?_
            refine zz_istore (ls' := [(16, .int (iI (-tn))), (14, .long (iL (v.tmod x))), (12, .long (iL x)), (10, .long (iL (u.tmod w))), (8, .long (iL w)), (23, .long (iL (v.tmod x))), (21, .long (iL (u.tmod w))), (19, .long (iL (v.tdiv x))), (17, .long (iL (u.tdiv w)))]) C dX10_compares_131 (by decide) rfl ?_
            refine zz_goto (tgt := 17) C dX10_compares_133 (by decide) ?_
            refine zz_loc (ls' := [(8, .long (iL w)), (10, .long (iL (u.tmod w))), (12, .long (iL x)), (14, .long (iL (v.tmod x))), (16, .int (iI (-tn)))]) [4, 3, 2, 1, 0] rfl ?_
            exact ih17 w (u.tmod w) x (v.tmod x) (-tn) (by omega) (by omega) (by omega) (by omega) (by omega) (cmpS_flip hS (by rw [hcr]; rw [Int.mul_comm w, Int.mul_comm x]; omega)) (by omega)
          · skip
            refine zz_lload C 1 dX10_compares_84 rfl ?_
            refine zz_lload C 0 dX10_compares_86 rfl ?_
            refine zz_lcmp_ne (tgt := 96) C dX10_compares_88 dX10_compares_89 (by decide) (by unfold rL; omega) (by unfold rL; omega) (fun c88 => ?_) (fun c88 => ?_)
            · skip
              refine zz_lload C 1 dX10_compares_96 rfl ?_
              refine zz_lconst (a := 0) C dX10_compares_98 (by decide +kernel) ?_
              refine zz_lcmp_ne (tgt := 109) C dX10_compares_99 dX10_compares_100 (by decide) (by unfold rL; omega) (by unfold rL; omega) (fun c99 => ?_) (fun c99 => ?_)
              · skip
                refine zz_iload C 8 dX10_compares_109 rfl ?_
                exact zz_iret C hr dX10_compares_111 ⟨_, by first | exact isCmp_eq hS (cmpA hcr (by omega) (by omega)) | exact isCmp_lt hS (cmpB hcr (by omega) (by omega) hw.1) | exact isCmp_gt hS (cmpC hcr (by omega) (by omega) hx.1) | (exfalso; omega), rfl, rfl⟩
              · skip
                refine zz_iload C 8 dX10_compares_103 rfl ?_
                refine zz_ineg C dX10_compares_105 ?_
                refine zz_goto (tgt := 111) C dX10_compares_106 (by decide) ?_
                exact zz_iret C hr dX10_compares_111 ⟨_, by first | exact isCmp_eq hS (cmpA hcr (by omega) (by omega)) | exact isCmp_lt hS (cmpB hcr (by omega) (by omega) hw.1) | exact isCmp_gt hS (cmpC hcr (by omega) (by omega) hx.1) | (exfalso; omega), rfl, rfl⟩
            · skip
              refine zz_iconst C dX10_compares_92 ?_
              refine zz_goto (tgt := 111) C dX10_compares_93 (by decide) ?_
              exact zz_iret C hr dX10_compares_111 ⟨_, by first | exact isCmp_eq hS (cmpA hcr (by omega) (by omega)) | exact isCmp_lt hS (cmpB hcr (by omega) (by omega) hw.1) | exact isCmp_gt hS (cmpC hcr (by omega) (by omega) hx.1) | (exfalso; omega), rfl, rfl⟩
      · skip
        refine zz_lload C 1 dX10_compares_39 rfl ?_
        refine zz_lload C 0 dX10_compares_41 rfl ?_
        refine zz_lcmp_ge (tgt := 53) C dX10_compares_43 dX10_compares_44 (by decide) (by unfold rL; omega) (by unfold rL; omega) (fun c43 => ?_) (fun c43 => ?_)
        · skip
          have hS9 : 0 < u * x - v * w := by have := cmp_whole fv.2.2.1 fu.2.2.1 ⟨fv.2.2.2.1, fv.2.2.2.2⟩ ⟨fu.2.2.2.1, fu.2.2.2.2⟩ (by omega); omega
          refine zz_iload C 6 dX10_compares_53 rfl ?_
          exact zz_iret C hr dX10_compares_55 ⟨_, by first | exact isCmp_lt hS hS9 | exact isCmp_gt hS hS9, rfl, rfl⟩
        · skip
          have hS9 : u * x - v * w < 0 := cmp_whole fu.2.2.1 fv.2.2.1 ⟨fu.2.2.2.1, fu.2.2.2.2⟩ ⟨fv.2.2.2.1, fv.2.2.2.2⟩ (by omega)
          refine zz_iload C 6 dX10_compares_47 rfl ?_
          refine zz_ineg C dX10_compares_49 ?_
          refine zz_goto (tgt := 55) C dX10_compares_50 (by decide) ?_
          exact zz_iret C hr dX10_compares_55 ⟨_, by first | exact isCmp_lt hS hS9 | exact isCmp_gt hS hS9, rfl, rfl⟩
  refine zz_loc (ls' := [(8, .long (iL na)), (10, .long (iL nb)), (12, .long (iL nc)), (14, .long (iL nd)), (16, .int (iI 1))]) [4, 3, 2, 1, 0] rfl ?_
  exact Lp17 _ na nb nc nd 1 (by omega) (by omega) (by omega) (by omega) (by omega) (Or.inl ⟨rfl, Iff.rfl, Iff.rfl⟩) (Nat.lt_succ_self _)
