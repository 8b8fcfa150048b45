section RL
variable {pd pb : Int} {fP fR fT k : Int → Int}
theorem r_0 (h : rel (pd, pb, fP, fR, fT) k) : k 0 = pd ∧ k 1 = pb ∧ (1 ≤ pd ∧ pd ≤ 4) ∧ (0 ≤ pb ∧ pb ≤ 5) := ⟨h.2.2.1, h.2.2.2.1, h.1.1, h.1.2.1⟩
theorem term_rel (h : rel (pd, pb, fP, fR, fT) k) {b w : Int} (hb : 0 ≤ b ∧ b < pb) (hw : 0 ≤ w ∧ w < 7) : plTerm pb fT b w = k (12 + 5 * w + b) := by
  unfold plTerm
  rw [if_pos ⟨hb.1, hb.2, hw.1, hw.2⟩]
  exact (h.2.2.2.2.2 b w hb.1 hb.2 hw.1 hw.2).symm
theorem yield_rel (h : rel (pd, pb, fP, fR, fT) k) {b d : Int} (hb : 0 ≤ b ∧ b < pb) (hd : 1 ≤ d) : plYield pb fT b d = mYield k b d := by
  have t0 := term_rel h hb (w := 0) (by omega)
  have t1 := term_rel h hb (w := 1) (by omega)
  have t2 := term_rel h hb (w := 2) (by omega)
  have t5 := term_rel h hb (w := 5) (by omega)
  rw [show 12 + 5 * 0 + b = 12 + b by omega] at t0
  rw [show 12 + 5 * 1 + b = 17 + b by omega] at t1
  rw [show 12 + 5 * 2 + b = 22 + b by omega] at t2
  rw [show 12 + 5 * 5 + b = 37 + b by omega] at t5
  unfold plYield plLast mYield
  rw [t0, t1, t2, t5]
  generalize (if 0 < k (37 + b) then k (37 + b) else k (22 + b)) = e
  by_cases q : e < d
  · rw [if_pos (Or.inr q), if_pos q]
  · rw [if_neg (by omega), if_neg q]
theorem pay_rel (h : rel (pd, pb, fP, fR, fT) k) {d : Int} (hd : 1 ≤ d ∧ d ≤ pd) : plAt pd fP d = k (2 + d) := by
  have r := r_0 h
  unfold plAt
  rw [if_pos hd]
  exact (h.2.2.2.2.1 d hd.1 (by omega)).1.symm
theorem rate_rel (h : rel (pd, pb, fP, fR, fT) k) {d : Int} (hd : 1 ≤ d ∧ d ≤ pd) : plAt pd fR d = k (7 + d) := by
  have r := r_0 h
  unfold plAt
  rw [if_pos hd]
  exact (h.2.2.2.2.1 d hd.1 (by omega)).2.symm
theorem grow_rel (h : rel (pd, pb, fP, fR, fT) k) {d : Int} (hd : 1 ≤ d ∧ d ≤ pd) : plG pd fR d = mG k d := by
  unfold plG mG
  rw [rate_rel h hd]
theorem net_rel (h : rel (pd, pb, fP, fR, fT) k) {d : Int} (hd : 1 ≤ d ∧ d ≤ pd) : plNet pd pb fP fT d = mNet k (mHeld k) d := by
  have r := r_0 h
  unfold plNet mNet
  rw [pay_rel h hd, r.2.1]
  congr 1
  refine zsum_congr (fun b b0 b1 => ?_)
  show plTerm pb fT b 6 * plYield pb fT b d = mHeld k b * mYield k b d
  rw [term_rel h ⟨b0, b1⟩ (by omega), yield_rel h ⟨b0, b1⟩ hd.1]
  rfl
theorem bal_rel (h : rel (pd, pb, fP, fR, fT) k) (st : Int) {j : Int} (j0 : 0 ≤ j) (j1 : j ≤ pd) : plBal pd pb fP fR fT st j = mBal k (mHeld k) st j :=
  bal_congr (n := pd) (fun i a b => grow_rel h ⟨a, b⟩) (fun i a b => net_rel h ⟨a, b⟩) j0 j1
theorem car_rel (h : rel (pd, pb, fP, fR, fT) k) {a j : Int} (a0 : 0 ≤ a) (a1 : a ≤ j) (j1 : j ≤ pd) : plCar pd fR a j = mCar k a j := by
  unfold plCar mCar
  rw [grw_congr (n := pd) (fun i x y => grow_rel h ⟨by omega, y⟩) a1 j1]
theorem fails_same (h : rel (pd, pb, fP, fR, fT) k) {st f f' : Int} (h1 : fstNeg (plBal pd pb fP fR fT st) pd f) (h2 : fstNeg (mBal k (mHeld k) st) (k 0) f') : f = f' := by
  rw [(r_0 h).1] at h2
  exact fstNeg_one (fstNeg_congr h1 (fun j a b => bal_rel h st a b)) h2
theorem balance_same (h : rel (pd, pb, fP, fR, fT) k) {st t un q q' : Int} (h1 : isBal (plBal pd pb fP fR fT st) pd t un q) (h2 : isBal (mBal k (mHeld k) st) (k 0) t un q') : q = q' := by
  obtain ⟨f, a1, a2⟩ := h1
  obtain ⟨f', b1, b2⟩ := h2
  have e := fails_same h a1 b1
  rw [(r_0 h).1] at b2
  subst e
  rcases a2 with ⟨c1, c2, c3⟩ | ⟨c1, c2⟩ <;> rcases b2 with ⟨d1, d2, d3⟩ | ⟨d1, d2⟩
  · rw [c3, d3, bal_rel h st c1.1 c1.2]
  · exact absurd ⟨c1, c2⟩ d1
  · exact absurd ⟨d1, d2⟩ c1
  · rw [c2, d2]
theorem need_same (h : rel (pd, pb, fP, fR, fT) k) {st a un q q' : Int} (a0 : 0 ≤ a) (h1 : isNeed (plBal pd pb fP fR fT st) (plCar pd fR a) a pd un q) (h2 : isNeed (mBal k (mHeld k) st) (mCar k a) a (k 0) un q') : q = q' := by
  obtain ⟨n1, d1, a1, a2⟩ := h1
  obtain ⟨n2, d2, b1, b2⟩ := h2
  rw [(r_0 h).1] at b1
  have r := r_0 h
  have c := isLack_congr (cr' := mCar k a) (B' := mBal k (mHeld k) st) a1 (fun j x y => bal_rel h st (by omega) y) (fun j x y => car_rel h a0 x y)
  have e := isLack_one (fun j x y => by have := mCar_rng h.2.1.1 h.2.1.2.1 (a := a) (j := j) a0 x (by omega); omega) c b1
  rw [a2, b2]
  exact ltm_eq un a1.2.1 b1.2.1 e
theorem lack_same (h : rel (pd, pb, fP, fR, fT) k) {st d un q q' : Int} (h1 : isLak (plBal pd pb fP fR fT st) (plCar pd fR d) pd d un q) (h2 : isLak (mBal k (mHeld k) st) (mCar k d) (k 0) d un q') : q = q' := by
  obtain ⟨f, a1, a2⟩ := h1
  obtain ⟨f', b1, b2⟩ := h2
  have e := fails_same h a1 b1
  subst e
  have r := r_0 h
  rcases a2 with ⟨c1, c2, c3⟩ | ⟨c1, c2⟩ <;> rcases b2 with ⟨d1, d2, d3⟩ | ⟨d1, d2⟩
  · exact need_same h c1.1 c3 d3
  · rw [r.1] at d1; exact absurd ⟨c1, c2⟩ d1
  · rw [r.1] at d1; exact absurd ⟨d1, d2⟩ c1
  · rw [c2, d2]
theorem price_rel (h : rel (pd, pb, fP, fR, fT) k) {b : Int} (hb : 0 ≤ b ∧ b < pb) : plTerm pb fT b 3 = k (27 + b) := by
  have := term_rel h hb (w := 3) (by omega)
  rwa [show 12 + 5 * 3 + b = 27 + b by omega] at this
theorem most_rel (h : rel (pd, pb, fP, fR, fT) k) {b : Int} (hb : 0 ≤ b ∧ b < pb) : plTerm pb fT b 4 = k (32 + b) := by
  have := term_rel h hb (w := 4) (by omega)
  rwa [show 12 + 5 * 4 + b = 32 + b by omega] at this
theorem xEq_rel (h : rel (pd, pb, fP, fR, fT) k) : xEq pd (pb + pd + 1) pb (plE pd pb fR fT) (mW pd pb k) (plAt pd fP) (fun d => 20 * k (2 + d)) (plQ pb fT) (mP k) := by
  have r := r_0 h
  refine ⟨fun c d c0 c1 d0 d1 => ?_, fun d d0 d1 => by show 20 * k (2 + d) = _; rw [pay_rel h ⟨d0, d1⟩], fun c c0 c1 => ?_⟩
  · unfold mW plE
    rw [if_pos ⟨d1, by omega⟩]
    by_cases q : c < pb
    · rw [if_pos q, if_pos q, if_pos q, yield_rel h ⟨c0, q⟩ d0]
    · rw [if_neg q, if_neg q, if_neg q, Int.one_mul, rate_rel h ⟨d0, d1⟩]
  · unfold mP plQ
    rw [r.2.1]
    rcases Int.lt_trichotomy c pb with q | q | q
    · left; rw [if_pos q, if_pos q, price_rel h ⟨c0, q⟩]; exact ⟨q, rfl⟩
    · right; left; rw [if_neg (by omega), if_pos q, if_neg (by omega), if_pos q]; exact ⟨q, rfl, rfl⟩
    · right; right; rw [if_neg (by omega), if_neg (by omega), if_neg (by omega), if_neg (by omega)]; exact ⟨q, rfl, rfl⟩
theorem cost_same (h : rel (pd, pb, fP, fR, fT) k) {un q q' : Int} (h1 : ∃ D p V yD w Y PW BW, bestOk pd pb fP fR fT D p V yD w Y PW BW ∧ q = ltm p D un) (h2 : ∃ D p V, mBest (k 0) (k 1 + k 0 + 1) (k 1) (mW (k 0) (k 1) k) (fun d => 20 * k (2 + d)) (mP k) (-1) D p V ∧ q' = ltm p D un) : q = q' := by
  obtain ⟨D, p, V, yD, w, Y, PW, BW, hb, rfl⟩ := h1
  obtain ⟨D', p', V', hm, rfl⟩ := h2
  have r := r_0 h
  rw [r.1, r.2.1] at hm
  exact ltm_eq un (by have := hb.1.2.1.1; omega) hm.2.1.1 (cost_x r.2.2.2.1 (xEq_rel h) hb.1 hm)
theorem part_same (h : rel (pd, pb, fP, fR, fT) k) {un q q' b : Int} (h1 : ((0 ≤ b ∧ b < pb) ∧ ∃ D p V yD w Y PW BW, bestOk pd pb fP fR fT D p V yD w Y PW BW ∧ q = ltm (V b) D un) ∨ (¬ (0 ≤ b ∧ b < pb) ∧ q = -1)) (h2 : ((0 ≤ b ∧ b < k 1) ∧ ∃ D p V, mBest (k 0) (k 1 + k 0 + 1) (k 1) (mW (k 0) (k 1) k) (fun d => 20 * k (2 + d)) (mP k) (-1) D p V ∧ q' = ltm (V b) D un) ∨ (¬ (0 ≤ b ∧ b < k 1) ∧ q' = -1)) : q = q' := by
  have r := r_0 h
  rw [r.1, r.2.1] at h2
  rcases h1 with ⟨g, h1⟩ | ⟨g, h1⟩ <;> rcases h2 with ⟨g', h2⟩ | ⟨g', h2⟩
  · obtain ⟨D, p, V, yD, w, Y, PW, BW, hb, rfl⟩ := h1
    obtain ⟨D', p', V', hm, rfl⟩ := h2
    exact ltm_eq un (by have := hb.1.2.1.1; omega) hm.2.1.1 (part_x g (xEq_rel h) hb.1 hm)
  · exact absurd g g'
  · exact absurd g' g
  · rw [h1, h2]
theorem surplus_same (h : rel (pd, pb, fP, fR, fT) k) {un q q' t : Int} (h1 : ((0 ≤ t ∧ t ≤ pd) ∧ ∃ D p V yD w Y PW BW, bestOk pd pb fP fR fT D p V yD w Y PW BW ∧ q = ltm (20 * V (pb + t)) D un) ∨ (¬ (0 ≤ t ∧ t ≤ pd) ∧ q = -1)) (h2 : ((0 ≤ t ∧ t ≤ k 0) ∧ ∃ D p V, mBest (k 0) (k 1 + k 0 + 1) (k 1) (mW (k 0) (k 1) k) (fun d => 20 * k (2 + d)) (mP k) (-1) D p V ∧ q' = ltm (V (k 1 + t)) D un) ∨ (¬ (0 ≤ t ∧ t ≤ k 0) ∧ q' = -1)) : q = q' := by
  have r := r_0 h
  rw [r.1, r.2.1] at h2
  rcases h1 with ⟨g, h1⟩ | ⟨g, h1⟩ <;> rcases h2 with ⟨g', h2⟩ | ⟨g', h2⟩
  · obtain ⟨D, p, V, yD, w, Y, PW, BW, hb, rfl⟩ := h1
    obtain ⟨D', p', V', hm, rfl⟩ := h2
    exact ltm_eq un (by have := hb.1.2.1.1; omega) hm.2.1.1 (surplus_x r.2.2.1.1 r.2.2.2.1 rfl (plE_std pd pb fR fT) (xEq_rel h) hb.1 hm g.1 g.2)
  · exact absurd g g'
  · exact absurd g' g
  · rw [h1, h2]
theorem without_same (h : rel (pd, pb, fP, fR, fT) k) {un q q' b : Int} (h1 : ((0 ≤ b ∧ b < pb) ∧ ∃ D p V yD w Y PW BW, bestOk pd pb fP fR fT D p V yD w Y PW BW ∧ q = ltm (PW b) (BW b) un) ∨ (¬ (0 ≤ b ∧ b < pb) ∧ q = -1)) (h2 : ((0 ≤ b ∧ b < k 1) ∧ ∃ D p V, mBest (k 0) (k 1 + k 0 + 1) (k 1) (mW (k 0) (k 1) k) (fun d => 20 * k (2 + d)) (mP k) b D p V ∧ q' = ltm p D un) ∨ (¬ (0 ≤ b ∧ b < k 1) ∧ q' = -1)) : q = q' := by
  have r := r_0 h
  rw [r.1, r.2.1] at h2
  rcases h1 with ⟨g, h1⟩ | ⟨g, h1⟩ <;> rcases h2 with ⟨g', h2⟩ | ⟨g', h2⟩
  · obtain ⟨D, p, V, yD, w, Y, PW, BW, hb, rfl⟩ := h1
    obtain ⟨D', p', V', hm, rfl⟩ := h2
    exact ltm_eq un (by have := (hb.2.2 b g.1 g.2).1.1; omega) hm.2.1.1 (without_x r.2.2.1.1 r.2.2.1.2 rfl g (plE_std pd pb fR fT) (xEq_rel h) hb.2.2 hm)
  · exact absurd g g'
  · exact absurd g' g
  · rw [h1, h2]
theorem stdE_rel (h : rel (pd, pb, fP, fR, fT) k) : stdE pd pb (plE pd pb fR fT) (fun d => 20 + k (7 + d)) := fun s r s0 s1 r0 r1 => by
  rw [plE_std pd pb fR fT s r s0 s1 r0 r1]
  have := grow_rel h ⟨r0, r1⟩
  rw [this]
  rfl
theorem yEq_rel (h : rel (pd, pb, fP, fR, fT) k) : yEq pd (pb + pd + 1) pb (plE pd pb fR fT) (mBF pd pb k) (plQ pb fT) (mBG pd pb k) := by
  have r := r_0 h
  refine fun c c0 c1 => ⟨fun d d0 d1 => mBF_sg (stdE_rel h) (fun b e b0 b1 e0 e1 => ?_) r.2.2.1.1 ⟨c0, c1⟩ ⟨d0, d1⟩, ?_⟩
  · unfold plE; rw [if_pos b1]; exact yield_rel h ⟨b0, b1⟩ e0
  · by_cases q : c < pb
    · have hl : lmb pd pb c = 1 := if_neg (by omega)
      have hg : mBG pd pb k c = k (27 + c) := if_pos q
      have hs : sgm pd pb c = c := if_pos q
      have hq : plQ pb fT c = plTerm pb fT c 3 := if_pos q
      rw [hl, hg, hs, hq, Int.one_mul, price_rel h ⟨c0, q⟩]
    · by_cases q2 : c = pb + pd
      · have hl : lmb pd pb c = 1 := if_neg (by omega)
        have hg : mBG pd pb k c = 20 := by unfold mBG; rw [if_neg q, if_pos q2]
        have hs : sgm pd pb c = pb := by unfold sgm; rw [if_neg q, if_neg (by omega)]
        have hq : plQ pb fT pb = 20 := by unfold plQ; rw [if_neg (by omega), if_pos rfl]
        rw [hl, hg, hs, hq, Int.one_mul]
      · have hg : mBG pd pb k c = 0 := by unfold mBG; rw [if_neg q, if_neg q2]
        have hs : sgm pd pb c = c + 1 := by unfold sgm; rw [if_neg q, if_pos (by omega)]
        have hq : plQ pb fT (c + 1) = 0 := by unfold plQ; rw [if_neg (by omega), if_neg (by omega)]
        rw [hg, hs, hq, Int.mul_zero]
theorem mult_rel (h : rel (pd, pb, fP, fR, fT) k) {D w L q : Int} {Y Z : Int → Int} (h1 : prfBest pd (pb + pd + 1) (plE pd pb fR fT) (plAt pd fP) (plQ pb fT) D w Y) (h2 : nBest pd (pb + pd + 1) (mBF pd pb k) (fun d => k (2 + d)) (mBG pd pb k) L q Z) : ∀ d : Int, 1 ≤ d → d ≤ pd → Y d * L = Z d * D :=
  mult_eq (r_0 h).2.2.1.1 (r_0 h).2.2.2.1 rfl (yEq_rel h) (fun d d0 d1 => pay_rel h ⟨d0, d1⟩) h1 h2
theorem multiplier_same (h : rel (pd, pb, fP, fR, fT) k) {un q q' t : Int} (h1 : ((1 ≤ t ∧ t ≤ pd) ∧ ∃ D p V yD w Y PW BW, bestOk pd pb fP fR fT D p V yD w Y PW BW ∧ q = ltm (Y t) yD un) ∨ (¬ (1 ≤ t ∧ t ≤ pd) ∧ q = -1)) (h2 : ((1 ≤ t ∧ t ≤ k 0) ∧ ∃ D p Y, nBest (k 0) (k 1 + k 0 + 1) (mBF (k 0) (k 1) k) (fun d => k (2 + d)) (mBG (k 0) (k 1) k) D p Y ∧ q' = ltm (Y t) D un) ∨ (¬ (1 ≤ t ∧ t ≤ k 0) ∧ q' = -1)) : q = q' := by
  have r := r_0 h
  rw [r.1, r.2.1] at h2
  rcases h1 with ⟨g, h1⟩ | ⟨g, h1⟩ <;> rcases h2 with ⟨g', h2⟩ | ⟨g', h2⟩
  · obtain ⟨D, p, V, yD, w, Y, PW, BW, hb, rfl⟩ := h1
    obtain ⟨D', p', V', hm, rfl⟩ := h2
    exact ltm_eq un (by have := hb.2.1.2.1.1; omega) hm.2.1.1 (mult_rel h hb.2.1 hm t g.1 g.2)
  · exact absurd g g'
  · exact absurd g' g
  · rw [h1, h2]
theorem dear_same (h : rel (pd, pb, fP, fR, fT) k) {un q q' b : Int} (h1 : ((0 ≤ b ∧ b < pb) ∧ ∃ D p V yD w Y PW BW, bestOk pd pb fP fR fT D p V yD w Y PW BW ∧ q = ltm (plQ pb fT b * yD - dsum pd (plE pd pb fR fT) Y b) yD un) ∨ (¬ (0 ≤ b ∧ b < pb) ∧ q = -1)) (h2 : ((0 ≤ b ∧ b < k 1) ∧ ∃ D p Y, nBest (k 0) (k 1 + k 0 + 1) (mBF (k 0) (k 1) k) (fun d => k (2 + d)) (mBG (k 0) (k 1) k) D p Y ∧ q' = ltm (k (27 + b) * D - zsum (fun j => Y (j + 1) * mYield k b (j + 1)) (k 0)) D un) ∨ (¬ (0 ≤ b ∧ b < k 1) ∧ q' = -1)) : q = q' := by
  have r := r_0 h
  rw [r.1, r.2.1] at h2
  rcases h1 with ⟨g, h1⟩ | ⟨g, h1⟩ <;> rcases h2 with ⟨g', h2⟩ | ⟨g', h2⟩
  · obtain ⟨D, p, V, yD, w, Y, PW, BW, hb, rfl⟩ := h1
    obtain ⟨D', p', Z, hm, rfl⟩ := h2
    have e : plQ pb fT b = k (27 + b) := by unfold plQ; rw [if_pos g.2]; exact price_rel h g
    rw [e]
    exact ltm_eq un (by have := hb.2.1.2.1.1; omega) hm.2.1.1 (dear_x (f := fun d => mYield k b d) (mult_rel h hb.2.1 hm) (fun d d0 d1 => by show plE pd pb fR fT b d = mYield k b d; unfold plE; rw [if_pos g.2]; exact yield_rel h g d0))
  · exact absurd g g'
  · exact absurd g' g
  · rw [h1, h2]
theorem lots_rel (h : rel (pd, pb, fP, fR, fT) k) {sc ch at' lu ll ln : Int} {C C' : Int → Int} (h1 : lotOk pd pb fP fR fT sc ch at' C) (h2 : lotM k lu ll ln C') : agr pb C C' ∧ sc = mlS k ∧ ch = mlC k C' ∧ at' = mlN k C' ∧ (∀ b : Int, 0 ≤ b → b < pb → 0 ≤ C b ∧ C b ≤ 12) := by
  have r := r_0 h
  obtain ⟨⟨s1, s2, s3⟩, o1, ⟨c1, c2⟩, -, -⟩ := h1
  have o2 := h2.1
  rw [r.1, r.2.1] at o2
  have gw : ∀ d : Int, 0 ≤ d → d ≤ pd → grw (plG pd fR) d pd = grw (mG k) d pd := fun d d0 d1 => grw_congr (n := pd) (fun i a b => grow_rel h ⟨by omega, b⟩) d1 (by omega)
  have lw : ∀ d : Int, 0 ≤ d → d ≤ pd → lotW (plG pd fR) pd d = lotW (mG k) pd d := fun d d0 d1 => by unfold lotW; rw [gw d d0 d1]
  have hp : ∀ c : Int, 0 ≤ c → c < pb → lPf (plG pd fR) (fun b => plTerm pb fT b 3) pd c = mlP k c := fun c c0 c1 => by
    unfold mlP lPf
    rw [r.1, gw 0 (by omega) (by omega)]
    show _ * plTerm pb fT c 3 = _ * k (27 + c)
    rw [price_rel h ⟨c0, c1⟩]
  have ho : ∀ d : Int, 1 ≤ d → d ≤ pd → lOf (plG pd fR) (plAt pd fP) pd d = mlO k d := fun d d0 d1 => by
    unfold mlO lOf
    rw [r.1]
    refine zsum_congr (fun j j0 j1 => ?_)
    show lotW (plG pd fR) pd (j + 1) * plAt pd fP (j + 1) = lotW (mG k) pd (j + 1) * k (2 + (j + 1))
    rw [lw (j + 1) (by omega) (by omega), pay_rel h ⟨by omega, by omega⟩]
  have hy : ∀ c d : Int, 0 ≤ c → c < pb → 1 ≤ d → d ≤ pd → lYf (plG pd fR) (plYield pb fT) pd c d = mlY k c d := fun c d c0 c1 d0 d1 => by
    unfold mlY lYf
    rw [r.1]
    refine zsum_congr (fun j j0 j1 => ?_)
    show lotW (plG pd fR) pd (j + 1) * plYield pb fT c (j + 1) = lotW (mG k) pd (j + 1) * mYield k c (j + 1)
    rw [lw (j + 1) (by omega) (by omega), yield_rel h ⟨c0, c1⟩ (by omega)]
  have hl : ∀ c : Int, 0 ≤ c → c < pb → (fun b => plTerm pb fT b 4) c = (fun b => k (32 + b)) c := fun c c0 c1 => most_rel h ⟨c0, c1⟩
  have o3 := lotO_congr hp hl ho hy (fun c _ _ => rfl : agr pb C C) o1
  have ag := lotO_one o3 o2
  have e1 := cstF_congr (m := C) hp ho hy
  have e2 : cstF pd pb (mlP k) (mlO k) (mlY k) C = mlC k C' := by
    unfold mlC; rw [r.1, r.2.1]; exact (cstF_m ag).1
  have e3 : mlC k C' = spF (mlP k) C' (k 1) + mlN k C' := rfl
  have e4 : spF (mlP k) C pb = spF (mlP k) C' pb := spF_agr ag
  refine ⟨ag, ?_, by rw [c1, e1.1, e2], ?_, fun b b0 b1 => ?_⟩
  · rw [s1]; unfold mlS; rw [r.1]; exact gw 0 (by omega) (by omega)
  · rw [c2, c1, e1.1, e2, e1.2, e4, e3, r.2.1]; omega
  · have x := o1.1 b b0 b1
    have y : plTerm pb fT b 4 ≤ 12 := by rw [most_rel h ⟨b0, b1⟩]; exact h.2.1.2.2.2 b b0 (by omega)
    have x2 : C b ≤ plTerm pb fT b 4 := x.2
    exact ⟨x.1, by omega⟩
theorem lots_same (h : rel (pd, pb, fP, fR, fT) k) {q q' b : Int} (h1 : ((0 ≤ b ∧ b < pb) ∧ ∃ sc ch at9 C, lotOk pd pb fP fR fT sc ch at9 C ∧ q = C b) ∨ (¬ (0 ≤ b ∧ b < pb) ∧ q = -1)) (h2 : ((0 ≤ b ∧ b < k 1) ∧ ∃ lu ll ln C, lotM k lu ll ln C ∧ q' = C b) ∨ (¬ (0 ≤ b ∧ b < k 1) ∧ q' = -1)) : q = q' := by
  have r := r_0 h
  rw [r.2.1] at h2
  rcases h1 with ⟨g, h1⟩ | ⟨g, h1⟩ <;> rcases h2 with ⟨g', h2⟩ | ⟨g', h2⟩
  · obtain ⟨sc, ch, at9, C, hl, rfl⟩ := h1
    obtain ⟨lu, ll, ln, C', hm, rfl⟩ := h2
    exact (lots_rel h hl hm).1 b g.1 g.2
  · exact absurd g g'
  · exact absurd g' g
  · rw [h1, h2]
theorem lots_rng2 {q b : Int} (h : rel (pd, pb, fP, fR, fT) k) (h2 : ((0 ≤ b ∧ b < k 1) ∧ ∃ lu ll ln C, lotM k lu ll ln C ∧ q = C b) ∨ (¬ (0 ≤ b ∧ b < k 1) ∧ q = -1)) : -1 ≤ q ∧ q ≤ 12 := by
  rcases h2 with ⟨g, lu, ll, ln, C, hm, rfl⟩ | ⟨-, rfl⟩
  · have x := hm.1.1 b g.1 g.2
    have y := h.2.1.2.2.2 b g.1 g.2
    have x2 : C b ≤ k (32 + b) := x.2
    exact ⟨by omega, by omega⟩
  · omega
theorem lotsCost_same (h : rel (pd, pb, fP, fR, fT) k) {q q' w un : Int} (h1 : ((w = 0 ∨ w = 1) ∧ ∃ sc ch at9 C, lotOk pd pb fP fR fT sc ch at9 C ∧ q = ltm (if w = 0 then ch else at9) sc un) ∨ (¬ (w = 0 ∨ w = 1) ∧ q = -1)) (h2 : ((w = 0 ∨ w = 1) ∧ ∃ lu ll ln C, lotM k lu ll ln C ∧ q' = ltm (if w = 0 then lu else ln) ll un) ∨ (¬ (w = 0 ∨ w = 1) ∧ q' = -1)) : q = q' := by
  rcases h1 with ⟨g, h1⟩ | ⟨g, h1⟩ <;> rcases h2 with ⟨g', h2⟩ | ⟨g', h2⟩
  · obtain ⟨sc, ch, at9, C, hl, rfl⟩ := h1
    obtain ⟨lu, ll, ln, C', hm, rfl⟩ := h2
    obtain ⟨-, e1, e2, e3, -⟩ := lots_rel h hl hm
    refine ltm_eq un (by have := hl.1.2.1; omega) (by have := hm.2.2.2.1.1; omega) ?_
    rw [e1, e2, e3]
    by_cases q : w = 0
    · rw [if_pos q, if_pos q]; exact hm.2.1.symm
    · rw [if_neg q, if_neg q]; exact hm.2.2.1.symm
  · exact absurd g g'
  · exact absurd g' g
  · rw [h1, h2]
theorem take_same (h : rel (pd, pb, fP, fR, fT) k) {sc ch at' lu ll ln : Int} {C C' : Int → Int} (h1 : lotOk pd pb fP fR fT sc ch at' C) (h2 : lotM k lu ll ln C') : (at' + sc - 1) / sc = (ln + ll - 1) / ll ∧ (0 ≤ (at' + sc - 1) / sc ∧ (at' + sc - 1) / sc ≤ 800) := by
  obtain ⟨-, e1, e2, e3, -⟩ := lots_rel h h1 h2
  have s := h1.1
  have m := h2.2.2.2.1
  refine ⟨ceil_eq (by omega) (by omega) ?_, up_ceil (by omega) h1.2.2.2.2⟩
  rw [e1, e3]
  exact h2.2.2.1.symm
theorem count_same (h : rel (pd, pb, fP, fR, fT) k) (tz lm w : Int) : lCount pd pb tz lm w = mCount k tz lm w := by
  have r := r_0 h
  unfold lCount mCount
  rw [r.1, r.2.1]
theorem date_same (h : rel (pd, pb, fP, fR, fT) k) (d w : Int) : lDate pd fP fR d w = mDate k d w := by
  have r := r_0 h
  unfold lDate mDate
  rw [r.1]
  by_cases q : 1 ≤ d ∧ d ≤ pd
  · rw [if_pos q]
    by_cases q0 : w = 0
    · rw [if_pos q0, if_pos (by omega), if_pos q0]; exact pay_rel h q
    · rw [if_neg q0]
      by_cases q1 : w = 1
      · rw [if_pos q1, if_pos (by omega), if_neg q0]; exact rate_rel h q
      · rw [if_neg q1, if_neg (by omega)]
  · rw [if_neg q, if_neg (fun x => q x.1)]
end RL
