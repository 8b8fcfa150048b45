/-- the reference's wall -/
def mW (T B : Int) (kT : Int → Int) (c d : Int) : Int := if d ≤ T ∧ c ≤ B + T then (if c < B then 20 * mYield kT c d else if c - B = d then -20 else if c - B = d - 1 then 20 + kT (7 + d) else 0) else 0
def w1 (T B : Int) (kT : Int → Int) (k j : Int) (c d : Int) : Int := if d ≤ T ∧ c < B ∧ (c < k ∨ (c = k ∧ d < j)) then 20 * mYield kT c d else 0
theorem w1_step {T B k j : Int} {kT gW : Int → Int} (h : ∀ c r : Int, 0 ≤ c → c < 10 → 0 ≤ r → r < 4 → gW (4 * c + r) = w1 T B kT k j c (r + 1)) (hk : 0 ≤ k ∧ k < B) (hj : 1 ≤ j ∧ j ≤ T) (_ : B ≤ 5) (_ : T ≤ 4) : ∀ c r : Int, 0 ≤ c → c < 10 → 0 ≤ r → r < 4 → zup gW (4 * k + j - 1) (20 * mYield kT k j) (4 * c + r) = w1 T B kT k (j + 1) c (r + 1) := by
  intro c r c0 c1 r0 r1
  by_cases e : c = k ∧ r = j - 1
  · obtain ⟨rfl, rfl⟩ := e
    rw [show 4 * c + (j - 1) = 4 * c + j - 1 by omega, zup_eq]
    unfold w1
    rw [if_pos (by omega), show j - 1 + 1 = j by omega]
  · rw [zup_ne (by omega), h c r c0 c1 r0 r1]
    unfold w1
    by_cases q : r + 1 ≤ T ∧ c < B ∧ (c < k ∨ (c = k ∧ r + 1 < j))
    · rw [if_pos q, if_pos (by omega)]
    · rw [if_neg q, if_neg (by omega)]
theorem w1_next {T B k j : Int} {kT : Int → Int} (hj : T < j) (c d : Int) : w1 T B kT k j c d = w1 T B kT (k + 1) 1 c d ∨ d < 1 := by
  by_cases z : d < 1
  · exact Or.inr z
  · refine Or.inl ?_
    unfold w1
    by_cases q : d ≤ T ∧ c < B ∧ (c < k ∨ (c = k ∧ d < j))
    · rw [if_pos q, if_pos (by omega)]
    · rw [if_neg q, if_neg (by omega)]
/-- sums laid up to s -/
def w2 (T B : Int) (kT : Int → Int) (s : Int) (c d : Int) : Int := if d ≤ T ∧ c < B + s then (if c < B then 20 * mYield kT c d else if c - B = d then -20 else if c - B = d - 1 then 20 + kT (7 + d) else 0) else 0
theorem w2_0 {T B : Int} {kT : Int → Int} {k j : Int} (hk : B ≤ k) (c d : Int) : w1 T B kT k j c d = w2 T B kT 0 c d := by
  unfold w1 w2
  by_cases q : d ≤ T ∧ c < B ∧ (c < k ∨ (c = k ∧ d < j))
  · rw [if_pos q, if_pos (by omega), if_pos q.2.1]
  · rw [if_neg q, if_neg (by omega)]
theorem w2_end {T B : Int} {kT : Int → Int} {s : Int} (hs : s = T + 1) (c d : Int) : w2 T B kT s c d = mW T B kT c d := by
  unfold w2 mW
  by_cases q : d ≤ T ∧ c < B + s
  · rw [if_pos q, if_pos (show d ≤ T ∧ c ≤ B + T by omega)]
  · rw [if_neg q, if_neg (by omega)]
def w3 (T B : Int) (kT gW : Int → Int) (s : Int) : Int → Int := zup gW (4 * (B + s) + s - 1) (-20)
theorem w2_step {T B s : Int} {kT gW gW' : Int → Int} (h : ∀ c r : Int, 0 ≤ c → c < 10 → 0 ≤ r → r < 4 → gW (4 * c + r) = w2 T B kT s c (r + 1)) (hs : 0 ≤ s ∧ s ≤ T) (hB : 0 ≤ B ∧ B ≤ 5) (hT : 1 ≤ T ∧ T ≤ 4)
    (hg : ∀ c r : Int, 0 ≤ c → c < 10 → 0 ≤ r → r < 4 → gW' (4 * c + r) = if c = B + s ∧ r = s ∧ s < T then 20 + kT (7 + s + 1) else if c = B + s ∧ r = s - 1 then -20 else gW (4 * c + r)) : ∀ c r : Int, 0 ≤ c → c < 10 → 0 ≤ r → r < 4 → gW' (4 * c + r) = w2 T B kT (s + 1) c (r + 1) := by
  intro c r c0 c1 r0 r1
  rw [hg c r c0 c1 r0 r1]
  by_cases e : c = B + s ∧ r = s ∧ s < T
  · rw [if_pos e]
    obtain ⟨rfl, rfl, q⟩ := e
    unfold w2
    rw [if_pos (by omega), if_neg (by omega), if_neg (by omega), if_pos (by omega), show 7 + (r + 1) = 7 + r + 1 by omega]
  · rw [if_neg e]
    by_cases e2 : c = B + s ∧ r = s - 1
    · rw [if_pos e2]
      unfold w2
      rw [if_pos (by omega), if_neg (by omega), if_pos (by omega)]
    · rw [if_neg e2, h c r c0 c1 r0 r1]
      unfold w2
      by_cases q : r + 1 ≤ T ∧ c < B + s
      · rw [if_pos q, if_pos (show r + 1 ≤ T ∧ c < B + (s + 1) by omega)]
      · rw [if_neg q]
        by_cases q2 : r + 1 ≤ T ∧ c < B + (s + 1)
        · rw [if_pos q2, if_neg (by omega), if_neg (by omega), if_neg (by omega)]
        · rw [if_neg q2]
theorem mW_rng {kT : Int → Int} (h : mOk kT) (h2 : mOk2 kT) (h3 : ∀ b : Int, 0 ≤ b → b < kT 1 → kT (12 + b) ≤ 20 ∧ kT (17 + b) ≤ 40) {c d : Int} (c0 : 0 ≤ c) (d0 : 1 ≤ d) : -4000 ≤ mW (kT 0) (kT 1) kT c d ∧ mW (kT 0) (kT 1) kT c d ≤ 4000 := by
  have k1 := h.1
  have k2 := h.2.1
  unfold mW
  split
  · split
    · rename_i q
      have a := h3 c c0 q
      have b := h.2.2 (12 + c) (by omega) (by omega)
      have b' := h.2.2 (17 + c) (by omega) (by omega)
      have : 0 ≤ mYield kT c d ∧ mYield kT c d ≤ 60 := by unfold mYield; (repeat' split) <;> omega
      omega
    · split
      · omega
      · split
        · rename_i q _ _ _
          have := h2 d d0 (by omega)
          omega
        · omega
  · omega
def qLx (T n : Int) (h : Int → Int) : (Int → Int) → Prop := fun g => srt4 T n g ∧ lx T g h
def candW (T n : Int) (E : Int → Int → Int) (O : Int → Int) (w : Int) (g : Int → Int) (D : Int) (V : Int → Int) : Prop := cand T n E O g D V ∧ ∀ i : Int, 0 ≤ i → i < T → ¬ g i = w
def mSt (T n nb : Int) (E : Int → Int → Int) (O P : Int → Int) (w : Int) (Q : (Int → Int) → Prop) (fo D p : Int) (V : Int → Int) : Prop := opt Q (candW T n E O w) (nb + 1) (cKey n P) (if fo = 1 then D else 0) V ∧ mFnd n P fo D p V
theorem mFnd_pos {n fo D p : Int} {P V : Int → Int} (h : mFnd n P fo D p V) (hf : fo = 1) : 0 < D := (h.2 hf).1.1
theorem mSt_0 {T n nb : Int} {E : Int → Int → Int} {O P : Int → Int} {w D p : Int} {h V : Int → Int} (hx : ∀ g, srt4 T n g → ¬ lx T g h) : mSt T n nb E O P w (qLx T n h) 0 D p V := ⟨Or.inl ⟨by rw [if_neg (by omega)], fun g _ _ q => absurd q.2 (hx g q.1)⟩, Or.inl rfl, fun q => by omega⟩
/-- the row h itself, when it was left out -/
theorem mSt_left {T n nb : Int} {E : Int → Int → Int} {O P : Int → Int} {w fo D p : Int} {h V : Int → Int} {Q' : (Int → Int) → Prop} (hs : mSt T n nb E O P w (qLx T n h) fo D p V) (hw : ∃ i : Int, 0 ≤ i ∧ i < T ∧ h i = w) (hq : ∀ g, Q' g → srt4 T n g ∧ (lx T g h ∨ eqT T g h)) : mSt T n nb E O P w Q' fo D p V := by
  refine ⟨opt_skip hs.1 (fun g D' V' a b => ?_), hs.2⟩
  obtain ⟨q1, q2⟩ := hq g a
  rcases q2 with q | q
  · exact ⟨q1, q⟩
  · obtain ⟨i, i0, i1, e⟩ := hw
    exact absurd ((q i i0 i1).trans e) (b.2 i i0 i1)
theorem mSt_try {T n nb : Int} {E : Int → Int → Int} {O P : Int → Int} {w fo D p ko kb kp : Int} {h V kV : Int → Int} {Q' : (Int → Int) → Prop} (h1 : 1 ≤ T) (h4 : T ≤ 4) (hn : nb ≤ n ∧ n ≤ 10) (hs : mSt T n nb E O P w (qLx T n h) fo D p V) (hw : ∀ i : Int, 0 ≤ i → i < T → ¬ h i = w) (hq : ∀ g, Q' g → srt4 T n g ∧ (lx T g h ∨ eqT T g h)) (ht : tmP T n nb E O P h fo D p V ko kb kp kV) : mSt T n nb E O P w Q' ko kb kp kV := by
  have hC : ∀ g D' V', candW T n E O w g D' V' → 0 < D' := fun g D' V' q => q.1.2.2.1.1
  rcases ht with ⟨a, rfl, rfl, rfl, rfl⟩ | ⟨p0, D0, V0, a, b, d, c⟩
  · refine ⟨opt_skip hs.1 (fun g D' V' x y => ?_), hs.2⟩
    obtain ⟨q1, q2⟩ := hq g x
    rcases q2 with q | q
    · exact ⟨q1, q⟩
    · exact absurd (cand_congr q y.1) (a D' V')
  · have hq2 : ∀ g D' V', Q' g → candW T n E O w g D' V' → qLx T n h g ∨ ∀ i : Int, 0 ≤ i → i < nb + 1 → cKey n P V' i * D0 = cKey n P V0 i * D' := fun g D' V' x y => by
      obtain ⟨q1, q2⟩ := hq g x
      rcases q2 with q | q
      · exact Or.inl ⟨q1, q⟩
      · exact Or.inr (cKey_x h1 h4 a (cand_congr q y.1) (by omega))
    rcases c with ⟨c, rfl, rfl, rfl, ce⟩ | ⟨⟨c, e⟩, rfl, rfl, rfl, rfl⟩
    · have ca : cand T n E O h kb kV := by
        refine ⟨a.1, a.2.1, ⟨a.2.2.1.1, fun x x0 x1 => by rw [ce x x0 (by omega)]; exact a.2.2.1.2.1 x x0 x1, fun r r0 r1 => ?_⟩, fun x x0 x1 q => a.2.2.2 x x0 x1 (by rw [← ce x x0 (by omega)]; exact q)⟩
        rw [← a.2.2.1.2.2 r r0 r1]
        exact zsum_congr (fun x x0 x1 => by show E x r * kV x = E x r * V0 x; rw [ce x x0 (by omega)])
      have pe : zsum (fun c => P c * kV c) n = zsum (fun c => P c * V0 c) n := zsum_congr (fun x x0 x1 => by show P x * kV x = P x * V0 x; rw [ce x x0 (by omega)])
      have ke : ∀ i : Int, 0 ≤ i → i < nb + 1 → cKey n P kV i = cKey n P V0 i := fun i i0 i1 => by
        unfold cKey
        split
        · exact pe
        · exact ce (i - 1) (by omega) (by omega)
      refine ⟨?_, Or.inr rfl, fun _ => ⟨by omega, by rw [pe]; exact b.1, b.2.1, fun x x0 x1 => by rw [ce x x0 (by omega)]; exact b.2.2 x x0 x1⟩⟩
      rw [if_pos rfl]
      refine opt_new (g0 := h) hC hs.1 ⟨ca, hw⟩ ?_ (fun g D' V' x y => ?_)
      · rcases c with e | e
        · left; rw [if_neg (by omega)]
        · rcases hs.2.1 with z | z
          · left; rw [if_neg (by omega)]
          · right
            rw [if_pos z, cKey_kk (hs.2.2 z).2.1]
            obtain ⟨j, j0, j1, j2, j3⟩ := e
            have kj : ∀ i : Int, 0 ≤ i → i < nb + 1 → cKey n P kV i = kk kp V0 i := fun i i0 i1 => by rw [ke i i0 i1, cKey_kk b.1]
            exact ⟨j, j0, j1, fun i i0 i1 => by rw [kj i i0 (by omega)]; exact j2 i i0 i1, by rw [kj j j0 j1]; exact j3⟩
      · rcases hq2 g D' V' x y with q | q
        · exact Or.inl q
        · exact Or.inr (fun i i0 i1 => by rw [ke i i0 i1]; exact q i i0 i1)
    · refine ⟨?_, hs.2⟩
      have hp := mFnd_pos hs.2 c
      rw [if_pos c]
      have h1' := hs.1
      rw [if_pos c] at h1'
      refine opt_keep (V0 := V0) hC h1' (by omega) d.1 ?_ hq2
      rw [cKey_kk b.1, cKey_kk (hs.2.2 c).2.1]
      exact e
def mBest (T n nb : Int) (E : Int → Int → Int) (O P : Int → Int) (w D p : Int) (V : Int → Int) : Prop := opt (fun _ => True) (candW T n E O w) (nb + 1) (cKey n P) D V ∧ (0 < D ∧ D ≤ 6144000000000000) ∧ mBd n P p V
theorem mSt_end {T n nb : Int} {E : Int → Int → Int} {O P : Int → Int} {w fo D p : Int} {V : Int → Int} (h1 : 1 ≤ T) (h4 : T ≤ 4) (he : ∃ g D V, candW T n E O w g D V) (h : mSt T n nb E O P w (srt4 T n) fo D p V) : mBest T n nb E O P w D p V := by
  have k : ∀ g D' V', candW T n E O w g D' V' → ∃ g', srt4 T n g' ∧ candW T n E O w g' D' V' := fun g D' V' c => by
    obtain ⟨g', a, b, s⟩ := dB_srt h1 h4 c.1.2.1
    have c' := cand_same c.1 b a
    exact ⟨g', srt4_of h1 c'.1 s, c', fun i i0 i1 e => by obtain ⟨j, j0, j1, ej⟩ := b.2 i i0 i1; exact c.2 j j0 j1 (ej.trans e)⟩
  obtain ⟨g, D', V', c⟩ := he
  rcases h.2.1 with z | z
  · have h' := h.1
    rw [if_neg (by omega)] at h'
    rcases h' with ⟨-, b⟩ | ⟨a, -⟩
    · obtain ⟨g', x, y⟩ := k g D' V' c
      exact absurd y (b g' D' V' x)
    · omega
  · have h' := h.1
    rw [if_pos z] at h'
    have hp := mFnd_pos h.2 z
    rcases h' with ⟨a, -⟩ | ⟨a, b, e⟩
    · omega
    · exact ⟨Or.inr ⟨a, b, fun g D' V' _ q => by obtain ⟨g', x, y⟩ := k g D' V' q; exact e g' D' V' x y⟩, (h.2.2 z).1, (h.2.2 z).2⟩
theorem mW_std {kT : Int → Int} : stdE (kT 0) (kT 1) (mW (kT 0) (kT 1) kT) (fun d => 20 + kT (7 + d)) := fun s r s0 s1 r0 r1 => by
  unfold mW
  rw [if_pos (by omega), if_neg (by omega), show kT 1 + s - kT 1 = s by omega]
theorem candW_E {T n w : Int} {E E' : Int → Int → Int} {O O' : Int → Int} (hE : ∀ c d : Int, 0 ≤ c → c < n → 1 ≤ d → d ≤ T → E c d = E' c d) (hO : ∀ d : Int, 1 ≤ d → d ≤ T → O d = O' d) {g : Int → Int} {D : Int} {V : Int → Int} (h : candW T n E O w g D V) : candW T n E' O' w g D V := ⟨cand_E hE hO h.1, h.2⟩
theorem mBest_E {T n nb w D p : Int} {E E' : Int → Int → Int} {O O' P V : Int → Int} (hE : ∀ c d : Int, 0 ≤ c → c < n → 1 ≤ d → d ≤ T → E c d = E' c d) (hO : ∀ d : Int, 1 ≤ d → d ≤ T → O d = O' d) (h : mBest T n nb E O P w D p V) : mBest T n nb E' O' P w D p V :=
  ⟨opt_C h.1 (fun g D V q => candW_E hE hO q) (fun g D V q => candW_E (fun c d a b a' b' => (hE c d a b a' b').symm) (fun d a b => (hO d a b).symm) q) (fun _ => rfl), h.2⟩
theorem mSt_eq {T n nb : Int} {E : Int → Int → Int} {O P : Int → Int} {w fo D p : Int} {V : Int → Int} {Q Q' : (Int → Int) → Prop} (h : mSt T n nb E O P w Q fo D p V) (hq : ∀ g, Q' g → Q g) : mSt T n nb E O P w Q' fo D p V := ⟨opt_skip h.1 (fun g _ _ a _ => hq g a), h.2⟩
theorem wt_0 {T : Int} {h : Int → Int} (h1 : 1 ≤ T) (h4 : T ≤ 4) (hx : ∀ i : Int, 0 ≤ i → i < T → h i = i) : 0 ≤ wt T h ∧ wt T h ≤ 14640 := by
  have r0 := hx 0
  have r1 := hx 1
  have r2 := hx 2
  have r3 := hx 3
  unfold wt
  (repeat' split) <;> omega
theorem wt_me {fu mo q : Int} {n : Nat} {a b : Int} (h : (if mo = 0 then 0 else 14642 - a).toNat < n + 1) (hm : ¬ mo = 0) (ha : 0 ≤ a ∧ a ≤ 14640) (hb : ¬ q = 0 → a < b ∧ b ≤ 14640) (_ : fu = 0) : (if q = 0 then 0 else 14642 - b).toNat < n := by
  rw [if_neg hm] at h
  by_cases e : q = 0
  · rw [if_pos e]; omega
  · rw [if_neg e]; have := hb e; omega

abbrev po_X10_laysWall (z : zC) (mh : Nat) (xT : Nat) (xD : Nat) (xP : Nat) (xR : Nat) (xC : Nat) (xW : Nat) (xA : Nat) (xH : Nat) (xU : Nat) (xB : Nat) (xI : Nat) (xN : Nat) (xM : Nat) (xY : Nat) (xK : Nat) (xL : Nat) (xE : Nat) (xS : Nat) (m_ra : Int) (m_ca : Int) (m_tp : Int) (m_fa : Int) (m_at : Int) (m_wr : Int) (m_va : Int) (m_pl : Int) (m_st : Int) (m_lo : Int) (m_bl : Int) (m_bc : Int) (m_fo : Int) (m_yl : Int) (m_yw : Int) (m_nu : Int) (m_nl : Int) (m_lu : Int) (m_ll : Int) (m_ln : Int) (kT : Int → Int) (kD : Int → Int) (kP : Int → Int) (kR : Int → Int) (kC : Int → Int) (kW : Int → Int) (kA : Int → Int) (kH : Int → Int) (kU : Int → Int) (kB : Int → Int) (kI : Int → Int) (kN : Int → Int) (kM : Int → Int) (kY : Int → Int) (kK : Int → Int) (kL : Int → Int) (kE : Int → Int) (kS : Int → Int) : Option Value → va_W → Prop := fun v w => ∃ (gW : Int → Int), ∃ (gA : Int → Int), (∀ c d : Int, 0 ≤ c → c < 10 → 1 ≤ d → d ≤ 4 → wE gW c d = mW (kT 0) (kT 1) kT c d) ∧ (∀ r : Int, 0 ≤ r → r < kT 0 → gA r = 20 * kT (2 + (r + 1))) ∧ v = none ∧ w = wMod z mh xT xD xP xR xC xW xA xH xU xB xI xN xM xY xK xL xE xS m_ra m_ca m_tp m_fa m_at m_wr m_va m_pl m_st m_lo m_bl m_bc m_fo m_yl m_yw m_nu m_nl m_lu m_ll m_ln kT kD kP kR kC gW gA kH kU kB kI kN kM kY kK kL kE kS
abbrev rm_X10_laysWall : Room := { frames := 2, cells := 0, slots := 0, locals := 63 }
set_option maxHeartbeats 4000000 in
set_option maxRecDepth 100000 in
theorem cc_X10_laysWall (l : Launch) (z : zC) (mh : Nat) (xT : Nat) (xD : Nat) (xP : Nat) (xR : Nat) (xC : Nat) (xW : Nat) (xA : Nat) (xH : Nat) (xU : Nat) (xB : Nat) (xI : Nat) (xN : Nat) (xM : Nat) (xY : Nat) (xK : Nat) (xL : Nat) (xE : Nat) (xS : Nat) (m_ra : Int) (m_ca : Int) (m_tp : Int) (m_fa : Int) (m_at : Int) (m_wr : Int) (m_va : Int) (m_pl : Int) (m_st : Int) (m_lo : Int) (m_bl : Int) (m_bc : Int) (m_fo : Int) (m_yl : Int) (m_yw : Int) (m_nu : Int) (m_nl : Int) (m_lu : Int) (m_ll : Int) (m_ln : Int) (kT : Int → Int) (kD : Int → Int) (kP : Int → Int) (kR : Int → Int) (kC : Int → Int) (kW : Int → Int) (kA : Int → Int) (kH : Int → Int) (kU : Int → Int) (kB : Int → Int) (kI : Int → Int) (kN : Int → Int) (kM : Int → Int) (kY : Int → Int) (kK : Int → Int) (kL : Int → Int) (kE : Int → Int) (kS : Int → Int) (hkT : mOk kT) (hk2 : mOk2 kT) : zzMet l yX10_laysWall cX10_laysWall 5 none rm_X10_laysWall z [.ref mh] (wMod z mh xT xD xP xR xC xW xA xH xU xB xI xN xM xY xK xL xE xS m_ra m_ca m_tp m_fa m_at m_wr m_va m_pl m_st m_lo m_bl m_bc m_fo m_yl m_yw m_nu m_nl m_lu m_ll m_ln kT kD kP kR kC kW kA kH kU kB kI kN kM kY kK kL kE kS) (po_X10_laysWall z mh xT xD xP xR xC xW xA xH xU xB xI xN xM xY xK xL xE xS m_ra m_ca m_tp m_fa m_at m_wr m_va m_pl m_st m_lo m_bl m_bc m_fo m_yl m_yw m_nu m_nl m_lu m_ll m_ln kT kD kP kR kC kW kA kH kU kB kI kN kM kY kK kL kE kS) := by
  refine zzMet.of (own := RX10) (ls0 := [(0, .ref mh)]) (by decide) rfl (Nat.le_of_ble_eq_true rfl) rfl ?_
  intro p e s m below meth c A C hr hnm
  have hk0 := hkT.1
  have hk1 := hkT.2.1
  refine zz_aload_n C 0 dX10_laysWall_0 rfl rfl ?_
  refine zz_get C 0 (ci := 10) (k := 1) rfl rfl in_X10 (by decide) qw_927 rfl rfl dX10_laysWall_1 ?_
  refine zz_iconst C dX10_laysWall_4 ?_
  refine zz_iald C 1 rfl (by omega) (by omega) (by decide) dX10_laysWall_5 ?_
  refine zz_istore_n (ls' := [(1, .int (iI (kT 0))), (0, .ref mh)]) C dX10_laysWall_6 rfl (by decide) rfl ?_
  refine zz_aload_n C 1 dX10_laysWall_7 rfl rfl ?_
  refine zz_get C 0 (ci := 10) (k := 1) rfl rfl in_X10 (by decide) qw_927 rfl rfl dX10_laysWall_8 ?_
  refine zz_iconst C dX10_laysWall_11 ?_
  refine zz_iald C 1 rfl (by omega) (by omega) (by decide) dX10_laysWall_12 ?_
  refine zz_istore_n (ls' := [(2, .int (iI (kT 1))), (1, .int (iI (kT 0))), (0, .ref mh)]) C dX10_laysWall_13 rfl (by decide) rfl ?_
  refine zz_iconst C dX10_laysWall_14 ?_
  refine zz_istore_n (ls' := [(3, .int (iI 0)), (2, .int (iI (kT 1))), (1, .int (iI (kT 0))), (0, .ref mh)]) C dX10_laysWall_15 rfl (by decide) rfl ?_
  have Lp16 : ∀ (fu9 : Nat) (z9 : Int) (gZ : Int → Int), (0 ≤ z9 ∧ z9 ≤ 40) → (∀ i : Int, 0 ≤ i → i < z9 → gZ i = 0) → (40 - z9).toNat < fu9 → zzW p l e rm_X10_laysWall s m ([.ref mh] : List Value).toArray below meth c z A 5 (MQ below (zQ z A (po_X10_laysWall z mh xT xD xP xR xC xW xA xH xU xB xI xN xM xY xK xL xE xS m_ra m_ca m_tp m_fa m_at m_wr m_va m_pl m_st m_lo m_bl m_bc m_fo m_yl m_yw m_nu m_nl m_lu m_ll m_ln kT kD kP kR kC kW kA kH kU kB kI kN kM kY kK kL kE kS)) ([.ref mh] : List Value).toArray s 0 0 A) 0 0 (wMod z mh xT xD xP xR xC xW xA xH xU xB xI xN xM xY xK xL xE xS m_ra m_ca m_tp m_fa m_at m_wr m_va m_pl m_st m_lo m_bl m_bc m_fo m_yl m_yw m_nu m_nl m_lu m_ll m_ln kT kD kP kR kC gZ kA kH kU kB kI kN kM kY kK kL kE kS) [(0, .ref mh), (1, .int (iI (kT 0))), (2, .int (iI (kT 1))), (3, .int (iI z9))] [] 16 := by
    intro fu9
    induction fu9 with
    | zero => intro z9 gZ hz9 hZ h9; exact absurd h9 (Nat.not_lt_zero _)
    | succ fu9 ih16 =>
      intro z9 gZ hz9 hZ hm16
      refine zz_iload_n C 3 dX10_laysWall_16 rfl rfl ?_
      refine zz_bipush C dX10_laysWall_17 (by decide +kernel) ?_
      refine zz_icmp_ge (tgt := 35) C dX10_laysWall_19 (by decide) (by unfold rI; omega) (by unfold rI; omega) (fun c19 => ?_) (fun c19 => ?_)
      · skip
        refine zz_iconst C dX10_laysWall_35 ?_
        refine zz_istore_n (ls' := [(3, .int (iI 0)), (0, .ref mh), (1, .int (iI (kT 0))), (2, .int (iI (kT 1)))]) C dX10_laysWall_36 rfl (by decide) rfl ?_
        have Lp37 : ∀ (fu9 : Nat) (k : Int) (gW : Int → Int), (0 ≤ k ∧ k ≤ kT 1) → (∀ c r : Int, 0 ≤ c → c < 10 → 0 ≤ r → r < 4 → gW (4 * c + r) = w1 (kT 0) (kT 1) kT k 1 c (r + 1)) → (kT 1 - k).toNat < fu9 → zzW p l e rm_X10_laysWall s m ([.ref mh] : List Value).toArray below meth c z A 5 (MQ below (zQ z A (po_X10_laysWall z mh xT xD xP xR xC xW xA xH xU xB xI xN xM xY xK xL xE xS m_ra m_ca m_tp m_fa m_at m_wr m_va m_pl m_st m_lo m_bl m_bc m_fo m_yl m_yw m_nu m_nl m_lu m_ll m_ln kT kD kP kR kC kW kA kH kU kB kI kN kM kY kK kL kE kS)) ([.ref mh] : List Value).toArray s 0 0 A) 0 0 (wMod z mh xT xD xP xR xC xW xA xH xU xB xI xN xM xY xK xL xE xS m_ra m_ca m_tp m_fa m_at m_wr m_va m_pl m_st m_lo m_bl m_bc m_fo m_yl m_yw m_nu m_nl m_lu m_ll m_ln kT kD kP kR kC gW kA kH kU kB kI kN kM kY kK kL kE kS) [(0, .ref mh), (1, .int (iI (kT 0))), (2, .int (iI (kT 1))), (3, .int (iI k))] [] 37 := by
          intro fu9
          induction fu9 with
          | zero => intro k gW hk hW h9; exact absurd h9 (Nat.not_lt_zero _)
          | succ fu9 ih37 =>
            intro k gW hk hW hm37
            refine zz_iload_n C 3 dX10_laysWall_37 rfl rfl ?_
            refine zz_iload_n C 2 dX10_laysWall_38 rfl rfl ?_
            refine zz_icmp_ge (tgt := 88) C dX10_laysWall_39 (by decide) (by unfold rI; omega) (by unfold rI; omega) (fun c39 => ?_) (fun c39 => ?_)
            · skip
              refine zz_iconst C dX10_laysWall_88 ?_
              refine zz_istore_n (ls' := [(3, .int (iI 0)), (0, .ref mh), (1, .int (iI (kT 0))), (2, .int (iI (kT 1)))]) C dX10_laysWall_89 rfl (by decide) rfl ?_
              have Lp90 : ∀ (fu9 : Nat) (s9 : Int) (gS9 : Int → Int), (0 ≤ s9 ∧ s9 ≤ kT 0 + 1) → (∀ c r : Int, 0 ≤ c → c < 10 → 0 ≤ r → r < 4 → gS9 (4 * c + r) = w2 (kT 0) (kT 1) kT s9 c (r + 1)) → (kT 0 + 1 - s9).toNat < fu9 → zzW p l e rm_X10_laysWall s m ([.ref mh] : List Value).toArray below meth c z A 5 (MQ below (zQ z A (po_X10_laysWall z mh xT xD xP xR xC xW xA xH xU xB xI xN xM xY xK xL xE xS m_ra m_ca m_tp m_fa m_at m_wr m_va m_pl m_st m_lo m_bl m_bc m_fo m_yl m_yw m_nu m_nl m_lu m_ll m_ln kT kD kP kR kC kW kA kH kU kB kI kN kM kY kK kL kE kS)) ([.ref mh] : List Value).toArray s 0 0 A) 0 0 (wMod z mh xT xD xP xR xC xW xA xH xU xB xI xN xM xY xK xL xE xS m_ra m_ca m_tp m_fa m_at m_wr m_va m_pl m_st m_lo m_bl m_bc m_fo m_yl m_yw m_nu m_nl m_lu m_ll m_ln kT kD kP kR kC gS9 kA kH kU kB kI kN kM kY kK kL kE kS) [(0, .ref mh), (1, .int (iI (kT 0))), (2, .int (iI (kT 1))), (3, .int (iI s9))] [] 90 := by
                intro fu9
                induction fu9 with
                | zero => intro s9 gS9 hs9 hS9 h9; exact absurd h9 (Nat.not_lt_zero _)
                | succ fu9 ih90 =>
                  intro s9 gS9 hs9 hS9 hm90
                  refine zz_iload_n C 3 dX10_laysWall_90 rfl rfl ?_
                  refine zz_iload_n C 1 dX10_laysWall_91 rfl rfl ?_
                  refine zz_icmp_gt (tgt := 155) C dX10_laysWall_92 (by decide) (by unfold rI; omega) (by unfold rI; omega) (fun c92 => ?_) (fun c92 => ?_)
                  · skip
                    refine zz_iconst C dX10_laysWall_155 ?_
                    refine zz_istore_n (ls' := [(3, .int (iI 1)), (0, .ref mh), (1, .int (iI (kT 0))), (2, .int (iI (kT 1)))]) C dX10_laysWall_156 rfl (by decide) rfl ?_
                    have Lp157 : ∀ (fu9 : Nat) (d9 : Int) (gA : Int → Int), (1 ≤ d9 ∧ d9 ≤ kT 0 + 1) → (∀ r : Int, 0 ≤ r → r < d9 - 1 → gA r = 20 * kT (2 + (r + 1))) → (kT 0 + 1 - d9).toNat < fu9 → zzW p l e rm_X10_laysWall s m ([.ref mh] : List Value).toArray below meth c z A 5 (MQ below (zQ z A (po_X10_laysWall z mh xT xD xP xR xC xW xA xH xU xB xI xN xM xY xK xL xE xS m_ra m_ca m_tp m_fa m_at m_wr m_va m_pl m_st m_lo m_bl m_bc m_fo m_yl m_yw m_nu m_nl m_lu m_ll m_ln kT kD kP kR kC kW kA kH kU kB kI kN kM kY kK kL kE kS)) ([.ref mh] : List Value).toArray s 0 0 A) 0 0 (wMod z mh xT xD xP xR xC xW xA xH xU xB xI xN xM xY xK xL xE xS m_ra m_ca m_tp m_fa m_at m_wr m_va m_pl m_st m_lo m_bl m_bc m_fo m_yl m_yw m_nu m_nl m_lu m_ll m_ln kT kD kP kR kC gS9 gA kH kU kB kI kN kM kY kK kL kE kS) [(0, .ref mh), (1, .int (iI (kT 0))), (2, .int (iI (kT 1))), (3, .int (iI d9))] [] 157 := by
                      intro fu9
                      induction fu9 with
                      | zero => intro d9 gA hd9 hA h9; exact absurd h9 (Nat.not_lt_zero _)
                      | succ fu9 ih157 =>
                        intro d9 gA hd9 hA hm157
                        refine zz_iload_n C 3 dX10_laysWall_157 rfl rfl ?_
                        refine zz_iload_n C 1 dX10_laysWall_158 rfl rfl ?_
                        refine zz_icmp_gt (tgt := 189) C dX10_laysWall_159 (by decide) (by unfold rI; omega) (by unfold rI; omega) (fun c159 => ?_) (fun c159 => ?_)
                        · skip
                          exact zz_vret C hr dX10_laysWall_189 ⟨_, _, fun c d h0 h1 h2 h3 => by have := hS9 c (d - 1) h0 h1 (by omega) (by omega); rw [show 4 * c + (d - 1) = 4 * c + d - 1 by omega, show d - 1 + 1 = d by omega] at this; unfold wE; rw [this]; exact w2_end (by omega) c d, fun r h0 h1 => hA r h0 (by omega), rfl, rfl⟩
                        · skip
                          refine zz_aload_n C 0 dX10_laysWall_162 rfl rfl ?_
                          refine zz_get C 0 (ci := 10) (k := 15) rfl rfl in_X10 (by decide) qw_941 rfl rfl dX10_laysWall_163 ?_
                          refine zz_iload_n C 3 dX10_laysWall_166 rfl rfl ?_
                          refine zz_iconst C dX10_laysWall_167 ?_
                          refine zz_isub C dX10_laysWall_168 ?_
                          refine zz_ldc2 (a := 20) C qw_1196 (by decide +kernel) dX10_laysWall_169 ?_
                          have hr72 := hkT.2.2 (2 + d9) (by omega) (by omega)
                          refine zz_aload_n C 0 dX10_laysWall_172 rfl rfl ?_
                          refine zz_get C 0 (ci := 10) (k := 1) rfl rfl in_X10 (by decide) qw_927 rfl rfl dX10_laysWall_173 ?_
                          refine zz_iconst C dX10_laysWall_176 ?_
                          refine zz_iload_n C 3 dX10_laysWall_177 rfl rfl ?_
                          refine zz_iadd C dX10_laysWall_178 ?_
                          refine zz_iald C 1 rfl (by omega) (by omega) (by decide) dX10_laysWall_179 ?_
                          refine zz_i2l C dX10_laysWall_180 (by unfold rI; omega) ?_
                          refine zz_lmul C dX10_laysWall_181 ?_
                          refine zz_last (ws' := wMod z mh xT xD xP xR xC xW xA xH xU xB xI xN xM xY xK xL xE xS m_ra m_ca m_tp m_fa m_at m_wr m_va m_pl m_st m_lo m_bl m_bc m_fo m_yl m_yw m_nu m_nl m_lu m_ll m_ln kT kD kP kR kC gS9 (zup gA (d9 - 1) (20 * (kT (2 + d9)))) kH kU kB kI kN kM kY kK kL kE kS) C 7 rfl (by omega) (by omega) (by decide) rfl dX10_laysWall_182 ?_
                          refine zz_iinc (ls' := [(3, .int (iI (d9 + 1))), (0, .ref mh), (1, .int (iI (kT 0))), (2, .int (iI (kT 1)))]) C 3 dX10_laysWall_183 rfl (by decide) rfl ?_
                          refine zz_goto (tgt := 157) C dX10_laysWall_186 (by decide) ?_
                          refine zz_loc (ls' := [(0, .ref mh), (1, .int (iI (kT 0))), (2, .int (iI (kT 1))), (3, .int (iI (d9 + 1)))]) [1, 2, 3, 0] rfl ?_
                          exact ih157 (d9 + 1) (zup gA (d9 - 1) (20 * (kT (2 + d9)))) (by omega) (fun r h0 h1 => by rcases (show r = d9 - 1 ∨ r < d9 - 1 by omega) with e9 | e9; (rw [e9, zup_eq, show 2 + (d9 - 1 + 1) = 2 + d9 by omega]); (rw [zup_ne (by omega)]; exact hA r h0 (by omega))) (by omega)
                    refine zz_loc (ls' := [(0, .ref mh), (1, .int (iI (kT 0))), (2, .int (iI (kT 1))), (3, .int (iI 1))]) [1, 2, 3, 0] rfl ?_
                    exact Lp157 _ 1 kA (by omega) (fun r h0 h1 => by omega) (Nat.lt_succ_self _)
                  · skip
                    refine zz_iload_n C 3 dX10_laysWall_95 rfl rfl ?_
                    refine zz_if_le (tgt := 116) C dX10_laysWall_96 (by decide) (by unfold rI; omega) (fun c96 => ?_) (fun c96 => ?_)
                    · skip
                      refine zz_iload_n C 3 dX10_laysWall_116 rfl rfl ?_
                      refine zz_iload_n C 1 dX10_laysWall_117 rfl rfl ?_
                      refine zz_icmp_ge (tgt := 149) C dX10_laysWall_118 (by decide) (by unfold rI; omega) (by unfold rI; omega) (fun c118 => ?_) (fun c118 => ?_)
                      · skip
                        have hg9 : ∀ c r : Int, 0 ≤ c → c < 10 → 0 ≤ r → r < 4 → gS9 (4 * c + r) = if c = kT 1 + s9 ∧ r = s9 ∧ s9 < kT 0 then 20 + kT (7 + s9 + 1) else if c = kT 1 + s9 ∧ r = s9 - 1 then -20 else gS9 (4 * c + r) := by intro c r h0 h1 h2 h3; (try unfold zup); (repeat' split) <;> first | rfl | (exfalso; omega) | (rename_i q1 q2; congr 1; omega)
                        refine zz_iinc (ls' := [(3, .int (iI (s9 + 1))), (0, .ref mh), (1, .int (iI (kT 0))), (2, .int (iI (kT 1)))]) C 3 dX10_laysWall_149 rfl (by decide) rfl ?_
                        refine zz_goto (tgt := 90) C dX10_laysWall_152 (by decide) ?_
                        refine zz_loc (ls' := [(0, .ref mh), (1, .int (iI (kT 0))), (2, .int (iI (kT 1))), (3, .int (iI (s9 + 1)))]) [1, 2, 3, 0] rfl ?_
                        exact ih90 (s9 + 1) gS9 (by omega) (w2_step (gW' := _) hS9 (by omega) (by omega) (by omega) hg9) (by omega)
                      · skip
                        refine zz_aload_n C 0 dX10_laysWall_121 rfl rfl ?_
                        refine zz_get C 0 (ci := 10) (k := 14) rfl rfl in_X10 (by decide) qw_940 rfl rfl dX10_laysWall_122 ?_
                        refine zz_iconst C dX10_laysWall_125 ?_
                        refine zz_iload_n C 2 dX10_laysWall_126 rfl rfl ?_
                        refine zz_iload_n C 3 dX10_laysWall_127 rfl rfl ?_
                        refine zz_iadd C dX10_laysWall_128 ?_
                        refine zz_imul C dX10_laysWall_129 ?_
                        refine zz_iload_n C 3 dX10_laysWall_130 rfl rfl ?_
                        refine zz_iadd C dX10_laysWall_131 ?_
                        refine zz_ldc2 (a := 20) C qw_1196 (by decide +kernel) dX10_laysWall_132 ?_
                        have hr35 := hkT.2.2 (7 + s9 + 1) (by omega) (by omega)
                        refine zz_aload_n C 0 dX10_laysWall_135 rfl rfl ?_
                        refine zz_get C 0 (ci := 10) (k := 1) rfl rfl in_X10 (by decide) qw_927 rfl rfl dX10_laysWall_136 ?_
                        refine zz_bipush C dX10_laysWall_139 (by decide +kernel) ?_
                        refine zz_iload_n C 3 dX10_laysWall_141 rfl rfl ?_
                        refine zz_iadd C dX10_laysWall_142 ?_
                        refine zz_iconst C dX10_laysWall_143 ?_
                        refine zz_iadd C dX10_laysWall_144 ?_
                        refine zz_iald C 1 rfl (by omega) (by omega) (by decide) dX10_laysWall_145 ?_
                        refine zz_i2l C dX10_laysWall_146 (by unfold rI; omega) ?_
                        refine zz_ladd C dX10_laysWall_147 ?_
                        refine zz_last (ws' := wMod z mh xT xD xP xR xC xW xA xH xU xB xI xN xM xY xK xL xE xS m_ra m_ca m_tp m_fa m_at m_wr m_va m_pl m_st m_lo m_bl m_bc m_fo m_yl m_yw m_nu m_nl m_lu m_ll m_ln kT kD kP kR kC (zup gS9 ((4 * ((kT 1) + s9)) + s9) (20 + (kT ((7 + s9) + 1)))) kA kH kU kB kI kN kM kY kK kL kE kS) C 6 rfl (by omega) (by omega) (by decide) rfl dX10_laysWall_148 ?_
                        have hg9 : ∀ c r : Int, 0 ≤ c → c < 10 → 0 ≤ r → r < 4 → (zup gS9 ((4 * ((kT 1) + s9)) + s9) (20 + (kT ((7 + s9) + 1)))) (4 * c + r) = if c = kT 1 + s9 ∧ r = s9 ∧ s9 < kT 0 then 20 + kT (7 + s9 + 1) else if c = kT 1 + s9 ∧ r = s9 - 1 then -20 else gS9 (4 * c + r) := by intro c r h0 h1 h2 h3; (try unfold zup); (repeat' split) <;> first | rfl | (exfalso; omega) | (rename_i q1 q2; congr 1; omega)
                        refine zz_iinc (ls' := [(3, .int (iI (s9 + 1))), (0, .ref mh), (1, .int (iI (kT 0))), (2, .int (iI (kT 1)))]) C 3 dX10_laysWall_149 rfl (by decide) rfl ?_
                        refine zz_goto (tgt := 90) C dX10_laysWall_152 (by decide) ?_
                        refine zz_loc (ls' := [(0, .ref mh), (1, .int (iI (kT 0))), (2, .int (iI (kT 1))), (3, .int (iI (s9 + 1)))]) [1, 2, 3, 0] rfl ?_
                        exact ih90 (s9 + 1) (zup gS9 ((4 * ((kT 1) + s9)) + s9) (20 + (kT ((7 + s9) + 1)))) (by omega) (w2_step (gW' := _) hS9 (by omega) (by omega) (by omega) hg9) (by omega)
                    · skip
                      refine zz_aload_n C 0 dX10_laysWall_99 rfl rfl ?_
                      refine zz_get C 0 (ci := 10) (k := 14) rfl rfl in_X10 (by decide) qw_940 rfl rfl dX10_laysWall_100 ?_
                      refine zz_iconst C dX10_laysWall_103 ?_
                      refine zz_iload_n C 2 dX10_laysWall_104 rfl rfl ?_
                      refine zz_iload_n C 3 dX10_laysWall_105 rfl rfl ?_
                      refine zz_iadd C dX10_laysWall_106 ?_
                      refine zz_imul C dX10_laysWall_107 ?_
                      refine zz_iload_n C 3 dX10_laysWall_108 rfl rfl ?_
                      refine zz_iadd C dX10_laysWall_109 ?_
                      refine zz_iconst C dX10_laysWall_110 ?_
                      refine zz_isub C dX10_laysWall_111 ?_
                      refine zz_ldc2 (a := (-20)) C qw_1197 (by decide +kernel) dX10_laysWall_112 ?_
                      refine zz_last (ws' := wMod z mh xT xD xP xR xC xW xA xH xU xB xI xN xM xY xK xL xE xS m_ra m_ca m_tp m_fa m_at m_wr m_va m_pl m_st m_lo m_bl m_bc m_fo m_yl m_yw m_nu m_nl m_lu m_ll m_ln kT kD kP kR kC (zup gS9 (((4 * ((kT 1) + s9)) + s9) - 1) (-20)) kA kH kU kB kI kN kM kY kK kL kE kS) C 6 rfl (by omega) (by omega) (by decide) rfl dX10_laysWall_115 ?_
                      refine zz_iload_n C 3 dX10_laysWall_116 rfl rfl ?_
                      refine zz_iload_n C 1 dX10_laysWall_117 rfl rfl ?_
                      refine zz_icmp_ge (tgt := 149) C dX10_laysWall_118 (by decide) (by unfold rI; omega) (by unfold rI; omega) (fun c118 => ?_) (fun c118 => ?_)
                      · skip
                        have hg9 : ∀ c r : Int, 0 ≤ c → c < 10 → 0 ≤ r → r < 4 → (zup gS9 (((4 * ((kT 1) + s9)) + s9) - 1) (-20)) (4 * c + r) = if c = kT 1 + s9 ∧ r = s9 ∧ s9 < kT 0 then 20 + kT (7 + s9 + 1) else if c = kT 1 + s9 ∧ r = s9 - 1 then -20 else gS9 (4 * c + r) := by intro c r h0 h1 h2 h3; (try unfold zup); (repeat' split) <;> first | rfl | (exfalso; omega) | (rename_i q1 q2; congr 1; omega)
                        refine zz_iinc (ls' := [(3, .int (iI (s9 + 1))), (0, .ref mh), (1, .int (iI (kT 0))), (2, .int (iI (kT 1)))]) C 3 dX10_laysWall_149 rfl (by decide) rfl ?_
                        refine zz_goto (tgt := 90) C dX10_laysWall_152 (by decide) ?_
                        refine zz_loc (ls' := [(0, .ref mh), (1, .int (iI (kT 0))), (2, .int (iI (kT 1))), (3, .int (iI (s9 + 1)))]) [1, 2, 3, 0] rfl ?_
                        exact ih90 (s9 + 1) (zup gS9 (((4 * ((kT 1) + s9)) + s9) - 1) (-20)) (by omega) (w2_step (gW' := _) hS9 (by omega) (by omega) (by omega) hg9) (by omega)
                      · skip
                        refine zz_aload_n C 0 dX10_laysWall_121 rfl rfl ?_
                        refine zz_get C 0 (ci := 10) (k := 14) rfl rfl in_X10 (by decide) qw_940 rfl rfl dX10_laysWall_122 ?_
                        refine zz_iconst C dX10_laysWall_125 ?_
                        refine zz_iload_n C 2 dX10_laysWall_126 rfl rfl ?_
                        refine zz_iload_n C 3 dX10_laysWall_127 rfl rfl ?_
                        refine zz_iadd C dX10_laysWall_128 ?_
                        refine zz_imul C dX10_laysWall_129 ?_
                        refine zz_iload_n C 3 dX10_laysWall_130 rfl rfl ?_
                        refine zz_iadd C dX10_laysWall_131 ?_
                        refine zz_ldc2 (a := 20) C qw_1196 (by decide +kernel) dX10_laysWall_132 ?_
                        have hr35 := hkT.2.2 (7 + s9 + 1) (by omega) (by omega)
                        refine zz_aload_n C 0 dX10_laysWall_135 rfl rfl ?_
                        refine zz_get C 0 (ci := 10) (k := 1) rfl rfl in_X10 (by decide) qw_927 rfl rfl dX10_laysWall_136 ?_
                        refine zz_bipush C dX10_laysWall_139 (by decide +kernel) ?_
                        refine zz_iload_n C 3 dX10_laysWall_141 rfl rfl ?_
                        refine zz_iadd C dX10_laysWall_142 ?_
                        refine zz_iconst C dX10_laysWall_143 ?_
                        refine zz_iadd C dX10_laysWall_144 ?_
                        refine zz_iald C 1 rfl (by omega) (by omega) (by decide) dX10_laysWall_145 ?_
                        refine zz_i2l C dX10_laysWall_146 (by unfold rI; omega) ?_
                        refine zz_ladd C dX10_laysWall_147 ?_
                        refine zz_last (ws' := wMod z mh xT xD xP xR xC xW xA xH xU xB xI xN xM xY xK xL xE xS m_ra m_ca m_tp m_fa m_at m_wr m_va m_pl m_st m_lo m_bl m_bc m_fo m_yl m_yw m_nu m_nl m_lu m_ll m_ln kT kD kP kR kC (zup (zup gS9 (((4 * ((kT 1) + s9)) + s9) - 1) (-20)) ((4 * ((kT 1) + s9)) + s9) (20 + (kT ((7 + s9) + 1)))) kA kH kU kB kI kN kM kY kK kL kE kS) C 6 rfl (by omega) (by omega) (by decide) rfl dX10_laysWall_148 ?_
                        have hg9 : ∀ c r : Int, 0 ≤ c → c < 10 → 0 ≤ r → r < 4 → (zup (zup gS9 (((4 * ((kT 1) + s9)) + s9) - 1) (-20)) ((4 * ((kT 1) + s9)) + s9) (20 + (kT ((7 + s9) + 1)))) (4 * c + r) = if c = kT 1 + s9 ∧ r = s9 ∧ s9 < kT 0 then 20 + kT (7 + s9 + 1) else if c = kT 1 + s9 ∧ r = s9 - 1 then -20 else gS9 (4 * c + r) := by intro c r h0 h1 h2 h3; (try unfold zup); (repeat' split) <;> first | rfl | (exfalso; omega) | (rename_i q1 q2; congr 1; omega)
                        refine zz_iinc (ls' := [(3, .int (iI (s9 + 1))), (0, .ref mh), (1, .int (iI (kT 0))), (2, .int (iI (kT 1)))]) C 3 dX10_laysWall_149 rfl (by decide) rfl ?_
                        refine zz_goto (tgt := 90) C dX10_laysWall_152 (by decide) ?_
                        refine zz_loc (ls' := [(0, .ref mh), (1, .int (iI (kT 0))), (2, .int (iI (kT 1))), (3, .int (iI (s9 + 1)))]) [1, 2, 3, 0] rfl ?_
                        exact ih90 (s9 + 1) (zup (zup gS9 (((4 * ((kT 1) + s9)) + s9) - 1) (-20)) ((4 * ((kT 1) + s9)) + s9) (20 + (kT ((7 + s9) + 1)))) (by omega) (w2_step (gW' := _) hS9 (by omega) (by omega) (by omega) hg9) (by omega)
              refine zz_loc (ls' := [(0, .ref mh), (1, .int (iI (kT 0))), (2, .int (iI (kT 1))), (3, .int (iI 0))]) [1, 2, 3, 0] rfl ?_
              exact Lp90 _ 0 gW (by omega) (fun c r h0 h1 h2 h3 => by rw [hW c r h0 h1 h2 h3]; exact w2_0 (by omega) c (r + 1)) (Nat.lt_succ_self _)
            · skip
              refine zz_iconst C dX10_laysWall_42 ?_
              refine zz_istore (ls' := [(4, .int (iI 1)), (0, .ref mh), (1, .int (iI (kT 0))), (2, .int (iI (kT 1))), (3, .int (iI k))]) C dX10_laysWall_43 (by decide) rfl ?_
              have Lp45 : ∀ (fu9 : Nat) (j : Int) (gX : Int → Int), (1 ≤ j ∧ j ≤ kT 0 + 1) → (∀ c r : Int, 0 ≤ c → c < 10 → 0 ≤ r → r < 4 → gX (4 * c + r) = w1 (kT 0) (kT 1) kT k j c (r + 1)) → (kT 0 + 1 - j).toNat < fu9 → zzW p l e rm_X10_laysWall s m ([.ref mh] : List Value).toArray below meth c z A 5 (MQ below (zQ z A (po_X10_laysWall z mh xT xD xP xR xC xW xA xH xU xB xI xN xM xY xK xL xE xS m_ra m_ca m_tp m_fa m_at m_wr m_va m_pl m_st m_lo m_bl m_bc m_fo m_yl m_yw m_nu m_nl m_lu m_ll m_ln kT kD kP kR kC kW kA kH kU kB kI kN kM kY kK kL kE kS)) ([.ref mh] : List Value).toArray s 0 0 A) 0 0 (wMod z mh xT xD xP xR xC xW xA xH xU xB xI xN xM xY xK xL xE xS m_ra m_ca m_tp m_fa m_at m_wr m_va m_pl m_st m_lo m_bl m_bc m_fo m_yl m_yw m_nu m_nl m_lu m_ll m_ln kT kD kP kR kC gX kA kH kU kB kI kN kM kY kK kL kE kS) [(0, .ref mh), (1, .int (iI (kT 0))), (2, .int (iI (kT 1))), (3, .int (iI k)), (4, .int (iI j))] [] 45 := by
                intro fu9
                induction fu9 with
                | zero => intro j gX hj hX h9; exact absurd h9 (Nat.not_lt_zero _)
                | succ fu9 ih45 =>
                  intro j gX hj hX hm45
                  refine zz_iload C 4 dX10_laysWall_45 rfl ?_
                  refine zz_iload_n C 1 dX10_laysWall_47 rfl rfl ?_
                  refine zz_icmp_gt (tgt := 82) C dX10_laysWall_48 (by decide) (by unfold rI; omega) (by unfold rI; omega) (fun c48 => ?_) (fun c48 => ?_)
                  · skip
                    refine zz_iinc (ls' := [(3, .int (iI (k + 1))), (0, .ref mh), (1, .int (iI (kT 0))), (2, .int (iI (kT 1))), (4, .int (iI j))]) C 3 dX10_laysWall_82 rfl (by decide) rfl ?_
                    refine zz_goto (tgt := 37) C dX10_laysWall_85 (by decide) ?_
                    refine zz_loc (ls' := [(0, .ref mh), (1, .int (iI (kT 0))), (2, .int (iI (kT 1))), (3, .int (iI (k + 1)))]) [1, 2, 3, 0] rfl ?_
                    exact ih37 (k + 1) gX (by omega) (fun c r h0 h1 h2 h3 => by rw [hX c r h0 h1 h2 h3]; exact (w1_next (by omega) c (r + 1)).resolve_right (by omega)) (by omega)
                  · skip
                    refine zz_aload_n C 0 dX10_laysWall_51 rfl rfl ?_
                    refine zz_get C 0 (ci := 10) (k := 14) rfl rfl in_X10 (by decide) qw_940 rfl rfl dX10_laysWall_52 ?_
                    refine zz_iconst C dX10_laysWall_55 ?_
                    refine zz_iload_n C 3 dX10_laysWall_56 rfl rfl ?_
                    refine zz_imul C dX10_laysWall_57 ?_
                    refine zz_iload C 4 dX10_laysWall_58 rfl ?_
                    refine zz_iadd C dX10_laysWall_60 ?_
                    refine zz_iconst C dX10_laysWall_61 ?_
                    refine zz_isub C dX10_laysWall_62 ?_
                    refine zz_ldc2 (a := 20) C qw_1196 (by decide +kernel) dX10_laysWall_63 ?_
                    refine zz_aload_n C 0 dX10_laysWall_66 rfl rfl ?_
                    refine zz_iload_n C 3 dX10_laysWall_67 rfl rfl ?_
                    refine zz_iload C 4 dX10_laysWall_68 rfl ?_
                    refine zz_callV (wr := ([] : va_W)) (st := [.long (iL 20), .int (iI (((4 * k) + j) - 1)), .ref xW]) C (cc_X10_yields l z mh xT xD xP xR xC xW xA xH xU xB xI xN xM xY xK xL xE xS m_ra m_ca m_tp m_fa m_at m_wr m_va m_pl m_st m_lo m_bl m_bc m_fo m_yl m_yw m_nu m_nl m_lu m_ll m_ln kT kD kP kR kC gX kA kH kU kB kI kN kM kY kK kL kE kS k j (by omega) (by omega) (by omega)) yk_X10_yields qw_1180 ⟨by decide, by decide⟩ [0, 1, 2, 3, 4, 5, 6, 7, 8, 9, 10, 11, 12, 13, 14, 15, 16, 17, 18] [] rfl rfl rfl rfl (by decide) 0 10 rfl rfl rfl rfl (Nat.le_of_ble_eq_true rfl) dX10_laysWall_70 ⟨by decide, by decide⟩ ?_
                    rintro _ _ ⟨rfl, rfl⟩
                    refine zz_st (st' := [.int (iI (mYield kT k j)), .long (iL 20), .int (iI (((4 * k) + j) - 1)), .ref xW]) rfl (zz_ws (ws' := wMod z mh xT xD xP xR xC xW xA xH xU xB xI xN xM xY xK xL xE xS m_ra m_ca m_tp m_fa m_at m_wr m_va m_pl m_st m_lo m_bl m_bc m_fo m_yl m_yw m_nu m_nl m_lu m_ll m_ln kT kD kP kR kC gX kA kH kU kB kI kN kM kY kK kL kE kS) rfl ?_)
                    have hy70 := mYield_rng hkT (b := k) (by omega) j
                    refine zz_i2l C dX10_laysWall_73 (by unfold rI; omega) ?_
                    refine zz_lmul C dX10_laysWall_74 ?_
                    refine zz_last (ws' := wMod z mh xT xD xP xR xC xW xA xH xU xB xI xN xM xY xK xL xE xS m_ra m_ca m_tp m_fa m_at m_wr m_va m_pl m_st m_lo m_bl m_bc m_fo m_yl m_yw m_nu m_nl m_lu m_ll m_ln kT kD kP kR kC (zup gX (((4 * k) + j) - 1) (20 * (mYield kT k j))) kA kH kU kB kI kN kM kY kK kL kE kS) C 6 rfl (by omega) (by omega) (by decide) rfl dX10_laysWall_75 ?_
                    refine zz_iinc (ls' := [(4, .int (iI (j + 1))), (0, .ref mh), (1, .int (iI (kT 0))), (2, .int (iI (kT 1))), (3, .int (iI k))]) C 4 dX10_laysWall_76 rfl (by decide) rfl ?_
                    refine zz_goto (tgt := 45) C dX10_laysWall_79 (by decide) ?_
                    refine zz_loc (ls' := [(0, .ref mh), (1, .int (iI (kT 0))), (2, .int (iI (kT 1))), (3, .int (iI k)), (4, .int (iI (j + 1)))]) [1, 2, 3, 4, 0] rfl ?_
                    exact ih45 (j + 1) (zup gX (((4 * k) + j) - 1) (20 * (mYield kT k j))) (by omega) (w1_step hX (by omega) (by omega) (by omega) (by omega)) (by omega)
              refine zz_loc (ls' := [(0, .ref mh), (1, .int (iI (kT 0))), (2, .int (iI (kT 1))), (3, .int (iI k)), (4, .int (iI 1))]) [1, 2, 3, 4, 0] rfl ?_
              exact Lp45 _ 1 gW (by omega) hW (Nat.lt_succ_self _)
        refine zz_loc (ls' := [(0, .ref mh), (1, .int (iI (kT 0))), (2, .int (iI (kT 1))), (3, .int (iI 0))]) [1, 2, 3, 0] rfl ?_
        exact Lp37 _ 0 gZ (by omega) (fun c r h0 h1 h2 h3 => by rw [hZ (4 * c + r) (by omega) (by omega)]; unfold w1; rw [if_neg (by omega)]) (Nat.lt_succ_self _)
      · skip
        refine zz_aload_n C 0 dX10_laysWall_22 rfl rfl ?_
        refine zz_get C 0 (ci := 10) (k := 14) rfl rfl in_X10 (by decide) qw_940 rfl rfl dX10_laysWall_23 ?_
        refine zz_iload_n C 3 dX10_laysWall_26 rfl rfl ?_
        refine zz_lconst (a := 0) C dX10_laysWall_27 (by decide +kernel) ?_
        refine zz_last (ws' := wMod z mh xT xD xP xR xC xW xA xH xU xB xI xN xM xY xK xL xE xS m_ra m_ca m_tp m_fa m_at m_wr m_va m_pl m_st m_lo m_bl m_bc m_fo m_yl m_yw m_nu m_nl m_lu m_ll m_ln kT kD kP kR kC (zup gZ z9 0) kA kH kU kB kI kN kM kY kK kL kE kS) C 6 rfl (by omega) (by omega) (by decide) rfl dX10_laysWall_28 ?_
        refine zz_iinc (ls' := [(3, .int (iI (z9 + 1))), (0, .ref mh), (1, .int (iI (kT 0))), (2, .int (iI (kT 1)))]) C 3 dX10_laysWall_29 rfl (by decide) rfl ?_
        refine zz_goto (tgt := 16) C dX10_laysWall_32 (by decide) ?_
        refine zz_loc (ls' := [(0, .ref mh), (1, .int (iI (kT 0))), (2, .int (iI (kT 1))), (3, .int (iI (z9 + 1)))]) [1, 2, 3, 0] rfl ?_
        exact ih16 (z9 + 1) (zup gZ z9 0) (by omega) (zup_all (f := fun _ => 0) hZ rfl) (by omega)
  refine zz_loc (ls' := [(0, .ref mh), (1, .int (iI (kT 0))), (2, .int (iI (kT 1))), (3, .int (iI 0))]) [3, 2, 1, 0] rfl ?_
  exact Lp16 _ 0 kW (by omega) (fun i h0 h1 => by omega) (Nat.lt_succ_self _)
abbrev po_X10_finds (z : zC) (mh : Nat) (xT : Nat) (xD : Nat) (xP : Nat) (xR : Nat) (xC : Nat) (xW : Nat) (xA : Nat) (xH : Nat) (xU : Nat) (xB : Nat) (xI : Nat) (xN : Nat) (xM : Nat) (xY : Nat) (xK : Nat) (xL : Nat) (xE : Nat) (xS : Nat) (m_ra : Int) (m_ca : Int) (m_tp : Int) (m_fa : Int) (m_at : Int) (m_wr : Int) (m_va : Int) (m_pl : Int) (m_st : Int) (m_lo : Int) (m_bl : Int) (m_bc : Int) (m_fo : Int) (m_yl : Int) (m_yw : Int) (m_nu : Int) (m_nl : Int) (m_lu : Int) (m_ll : Int) (m_ln : Int) (kT : Int → Int) (kD : Int → Int) (kP : Int → Int) (kR : Int → Int) (kC : Int → Int) (kW : Int → Int) (kA : Int → Int) (kH : Int → Int) (kU : Int → Int) (kB : Int → Int) (kI : Int → Int) (kN : Int → Int) (kM : Int → Int) (kY : Int → Int) (kK : Int → Int) (kL : Int → Int) (kE : Int → Int) (kS : Int → Int) (w9 : Int) : Option Value → va_W → Prop := fun v w => ∃ (gW : Int → Int), ∃ (gA : Int → Int), ∃ (gC : Int → Int), ∃ (gU : Int → Int), ∃ (gl : Int), ∃ (gI : Int → Int), ∃ (go : Int), ∃ (gb : Int), ∃ (gc : Int), ∃ (gB : Int → Int), ∃ (gH : Int → Int), (mBest (kT 0) (kT 1 + kT 0 + 1) (kT 1) (mW (kT 0) (kT 1) kT) (fun d => 20 * kT (2 + d)) (mP kT) w9 gb gc gB) ∧ v = none ∧ w = wMod z mh xT xD xP xR xC xW xA xH xU xB xI xN xM xY xK xL xE xS m_ra m_ca m_tp m_fa m_at m_wr m_va m_pl m_st gl gb gc go m_yl m_yw m_nu m_nl m_lu m_ll m_ln kT kD kP kR gC gW gA gH gU gB gI kN kM kY kK kL kE kS
abbrev rm_X10_finds : Room := { frames := 5, cells := 0, slots := 0, locals := 130 }
set_option maxHeartbeats 4000000 in
set_option maxRecDepth 100000 in
theorem cc_X10_finds (l : Launch) (z : zC) (mh : Nat) (xT : Nat) (xD : Nat) (xP : Nat) (xR : Nat) (xC : Nat) (xW : Nat) (xA : Nat) (xH : Nat) (xU : Nat) (xB : Nat) (xI : Nat) (xN : Nat) (xM : Nat) (xY : Nat) (xK : Nat) (xL : Nat) (xE : Nat) (xS : Nat) (m_ra : Int) (m_ca : Int) (m_tp : Int) (m_fa : Int) (m_at : Int) (m_wr : Int) (m_va : Int) (m_pl : Int) (m_st : Int) (m_lo : Int) (m_bl : Int) (m_bc : Int) (m_fo : Int) (m_yl : Int) (m_yw : Int) (m_nu : Int) (m_nl : Int) (m_lu : Int) (m_ll : Int) (m_ln : Int) (kT : Int → Int) (kD : Int → Int) (kP : Int → Int) (kR : Int → Int) (kC : Int → Int) (kW : Int → Int) (kA : Int → Int) (kH : Int → Int) (kU : Int → Int) (kB : Int → Int) (kI : Int → Int) (kN : Int → Int) (kM : Int → Int) (kY : Int → Int) (kK : Int → Int) (kL : Int → Int) (kE : Int → Int) (kS : Int → Int) (w9 : Int) (hkT : mOk kT) (hk2 : mOk2 kT) (hk3 : ∀ b : Int, 0 ≤ b → b < kT 1 → kT (12 + b) ≤ 20 ∧ kT (17 + b) ≤ 40) (hw9 : -1 ≤ w9 ∧ w9 < kT 1) : zzMet l yX10_finds cX10_finds 3 none rm_X10_finds z [.ref mh, .int (iI w9)] (wMod z mh xT xD xP xR xC xW xA xH xU xB xI xN xM xY xK xL xE xS m_ra m_ca m_tp m_fa m_at m_wr m_va m_pl m_st m_lo m_bl m_bc m_fo m_yl m_yw m_nu m_nl m_lu m_ll m_ln kT kD kP kR kC kW kA kH kU kB kI kN kM kY kK kL kE kS) (po_X10_finds z mh xT xD xP xR xC xW xA xH xU xB xI xN xM xY xK xL xE xS m_ra m_ca m_tp m_fa m_at m_wr m_va m_pl m_st m_lo m_bl m_bc m_fo m_yl m_yw m_nu m_nl m_lu m_ll m_ln kT kD kP kR kC kW kA kH kU kB kI kN kM kY kK kL kE kS w9) := by
  refine zzMet.of (own := RX10) (ls0 := [(0, .ref mh), (1, .int (iI w9))]) (by decide) rfl (Nat.le_of_ble_eq_true rfl) rfl ?_
  intro p e s m below meth c A C hr hnm
  have hk0 := hkT.1
  have hk1 := hkT.2.1
  refine zz_aload_n C 0 dX10_finds_0 rfl rfl ?_
  refine zz_callV (wr := ([] : va_W)) (st := []) C (cc_X10_laysWall l z mh xT xD xP xR xC xW xA xH xU xB xI xN xM xY xK xL xE xS m_ra m_ca m_tp m_fa m_at m_wr m_va m_pl m_st m_lo m_bl m_bc m_fo m_yl m_yw m_nu m_nl m_lu m_ll m_ln kT kD kP kR kC kW kA kH kU kB kI kN kM kY kK kL kE kS (by omega) (by omega)) yk_X10_laysWall qw_1192 ⟨by decide, by decide⟩ [0, 1, 2, 3, 4, 5, 6, 7, 8, 9, 10, 11, 12, 13, 14, 15, 16, 17, 18] [] rfl rfl rfl rfl (by decide) 0 10 rfl rfl rfl rfl (Nat.le_of_ble_eq_true rfl) dX10_finds_1 ⟨by decide, by decide⟩ ?_
  rintro _ _ ⟨gW_1, gA_1, hgW_1, hgA_1, rfl, rfl⟩
  refine zz_st (st' := []) rfl (zz_ws (ws' := wMod z mh xT xD xP xR xC xW xA xH xU xB xI xN xM xY xK xL xE xS m_ra m_ca m_tp m_fa m_at m_wr m_va m_pl m_st m_lo m_bl m_bc m_fo m_yl m_yw m_nu m_nl m_lu m_ll m_ln kT kD kP kR kC gW_1 gA_1 kH kU kB kI kN kM kY kK kL kE kS) rfl ?_)
  have hwr : ∀ c d : Int, 0 ≤ c → c < 10 → 1 ≤ d → d ≤ 4 → -4000 ≤ wE gW_1 c d ∧ wE gW_1 c d ≤ 4000 := fun c d h0 h1 h2 h3 => by rw [hgW_1 c d h0 h1 h2 h3]; exact mW_rng hkT hk2 hk3 h0 h2
  refine zz_aload_n C 0 dX10_finds_4 rfl rfl ?_
  refine zz_iconst C dX10_finds_5 ?_
  refine zz_put (ty := .boolean) (ws' := wMod z mh xT xD xP xR xC xW xA xH xU xB xI xN xM xY xK xL xE xS m_ra m_ca m_tp m_fa m_at m_wr m_va m_pl m_st m_lo m_bl m_bc 0 m_yl m_yw m_nu m_nl m_lu m_ll m_ln kT kD kP kR kC gW_1 gA_1 kH kU kB kI kN kM kY kK kL kE kS) C 0 (ci := 10) (k := 22) rfl rfl in_X10 tyX10 tyX10_ok nmX10 (by decide) qw_948 rfl rfl (by decide +kernel) (by decide +kernel) (by decide +kernel) (Nat.le_of_ble_eq_true rfl) rfl dX10_finds_6 ?_
  refine zz_iconst C dX10_finds_9 ?_
  refine zz_istore_n (ls' := [(2, .int (iI 0)), (0, .ref mh), (1, .int (iI w9))]) C dX10_finds_10 rfl (by decide) rfl ?_
  have Lp11 : ∀ (fu9 : Nat) (k : Int) (gH : Int → Int), (0 ≤ k ∧ k ≤ kT 0) → (∀ i : Int, 0 ≤ i → i < k → gH i = i) → (kT 0 - k).toNat < fu9 → zzW p l e rm_X10_finds s m ([.ref mh, .int (iI w9)] : List Value).toArray below meth c z A 3 (MQ below (zQ z A (po_X10_finds z mh xT xD xP xR xC xW xA xH xU xB xI xN xM xY xK xL xE xS m_ra m_ca m_tp m_fa m_at m_wr m_va m_pl m_st m_lo m_bl m_bc m_fo m_yl m_yw m_nu m_nl m_lu m_ll m_ln kT kD kP kR kC kW kA kH kU kB kI kN kM kY kK kL kE kS w9)) ([.ref mh, .int (iI w9)] : List Value).toArray s 0 0 A) 0 0 (wMod z mh xT xD xP xR xC xW xA xH xU xB xI xN xM xY xK xL xE xS m_ra m_ca m_tp m_fa m_at m_wr m_va m_pl m_st m_lo m_bl m_bc 0 m_yl m_yw m_nu m_nl m_lu m_ll m_ln kT kD kP kR kC gW_1 gA_1 gH kU kB kI kN kM kY kK kL kE kS) [(0, .ref mh), (1, .int (iI w9)), (2, .int (iI k))] [] 11 := by
    intro fu9
    induction fu9 with
    | zero => intro k gH hk hH h9; exact absurd h9 (Nat.not_lt_zero _)
    | succ fu9 ih11 =>
      intro k gH hk hH hm11
      refine zz_iload_n C 2 dX10_finds_11 rfl rfl ?_
      refine zz_aload_n C 0 dX10_finds_12 rfl rfl ?_
      refine zz_get C 0 (ci := 10) (k := 1) rfl rfl in_X10 (by decide) qw_927 rfl rfl dX10_finds_13 ?_
      refine zz_iconst C dX10_finds_16 ?_
      refine zz_iald C 1 rfl (by omega) (by omega) (by decide) dX10_finds_17 ?_
      refine zz_icmp_ge (tgt := 34) C dX10_finds_18 (by decide) (by unfold rI; omega) (by unfold rI; omega) (fun c18 => ?_) (fun c18 => ?_)
      · skip
        refine zz_iconst C dX10_finds_34 ?_
        refine zz_istore_n (ls' := [(2, .int (iI 1)), (0, .ref mh), (1, .int (iI w9))]) C dX10_finds_35 rfl (by decide) rfl ?_
        have Lp36 : ∀ (fu9 : Nat) (mo : Int) (gH : Int → Int) (gC : Int → Int) (gU : Int → Int) (gl : Int) (gI : Int → Int) (go : Int) (gb : Int) (gc : Int) (gB : Int → Int), (mo = 0 ∨ mo = 1) → (mo = 1 → srt4 (kT 0) (kT 1 + kT 0 + 1) gH ∧ (0 ≤ wt (kT 0) gH ∧ wt (kT 0) gH ≤ 14640) ∧ mSt (kT 0) (kT 1 + kT 0 + 1) (kT 1) (wE gW_1) (fun r => gA_1 (r - 1)) (mP kT) w9 (qLx (kT 0) (kT 1 + kT 0 + 1) gH) go gb gc gB) → (mo = 0 → mSt (kT 0) (kT 1 + kT 0 + 1) (kT 1) (wE gW_1) (fun r => gA_1 (r - 1)) (mP kT) w9 (srt4 (kT 0) (kT 1 + kT 0 + 1)) go gb gc gB) → (if mo = 0 then 0 else 14642 - wt (kT 0) gH).toNat < fu9 → zzW p l e rm_X10_finds s m ([.ref mh, .int (iI w9)] : List Value).toArray below meth c z A 3 (MQ below (zQ z A (po_X10_finds z mh xT xD xP xR xC xW xA xH xU xB xI xN xM xY xK xL xE xS m_ra m_ca m_tp m_fa m_at m_wr m_va m_pl m_st m_lo m_bl m_bc m_fo m_yl m_yw m_nu m_nl m_lu m_ll m_ln kT kD kP kR kC kW kA kH kU kB kI kN kM kY kK kL kE kS w9)) ([.ref mh, .int (iI w9)] : List Value).toArray s 0 0 A) 0 0 (wMod z mh xT xD xP xR xC xW xA xH xU xB xI xN xM xY xK xL xE xS m_ra m_ca m_tp m_fa m_at m_wr m_va m_pl m_st gl gb gc go m_yl m_yw m_nu m_nl m_lu m_ll m_ln kT kD kP kR gC gW_1 gA_1 gH gU gB gI kN kM kY kK kL kE kS) [(0, .ref mh), (1, .int (iI w9)), (2, .int (iI mo))] [] 36 := by
          intro fu9
          induction fu9 with
          | zero => intro mo gH gC gU gl gI go gb gc gB hmo hs1 hs0 h9; exact absurd h9 (Nat.not_lt_zero _)
          | succ fu9 ih36 =>
            intro mo gH gC gU gl gI go gb gc gB hmo hs1 hs0 hm36
            refine zz_iload_n C 2 dX10_finds_36 rfl rfl ?_
            refine zz_if_eq (tgt := 80) C dX10_finds_37 (by decide) (by unfold rI; omega) (fun c37 => ?_) (fun c37 => ?_)
            · skip
              have hfin := hs0 (by omega)
              obtain ⟨g8, D8, V8, hx1, hx2, hx3⟩ := cand_ex (T := kT 0) (B := kT 1) (n := kT 1 + kT 0 + 1) (E := wE gW_1) (O := fun r => gA_1 (r - 1)) (G := fun d => 20 + kT (7 + d)) hk0.1 hk0.2 hk1.1 rfl (fun s r a b a2 b2 => by rw [hgW_1 (kT 1 + s) r (by omega) (by omega) a2 (by omega)]; exact mW_std s r a b a2 b2) (fun r a b => by have := hk2 r a (by omega); show 1 ≤ 20 + kT (7 + r); omega) (fun r a b => by show 0 ≤ gA_1 (r - 1); rw [hgA_1 (r - 1) (by omega) (by omega)]; have := hkT.2.2 (2 + (r - 1 + 1)) (by omega) (by omega); omega)
              have hex9 : ∃ g D V, candW (kT 0) (kT 1 + kT 0 + 1) (wE gW_1) (fun r => gA_1 (r - 1)) w9 g D V := ⟨g8, D8, V8, hx1, fun i h0 h1 => by have := hx2 i h0 h1; omega⟩
              exact zz_vret C hr dX10_finds_80 ⟨_, _, _, _, _, _, _, _, _, _, _, mBest_E (fun c d h0 h1 h2 h3 => hgW_1 c d h0 (by omega) h2 (by omega)) (fun d h0 h1 => by show gA_1 (d - 1) = _; rw [hgA_1 (d - 1) (by omega) (by omega), show d - 1 + 1 = d by omega]) (mSt_end hk0.1 hk0.2 hex9 hfin), rfl, rfl⟩
            · skip
              obtain ⟨hsr, hwt, hst⟩ := hs1 (by omega)
              have hin9 := (srt_of4 hk0.2 hsr).1
              have hnn : kT 1 + 1 + kT 0 = kT 1 + kT 0 + 1 := by omega
              have hWb9 : ∀ i r : Int, 0 ≤ i → i < kT 0 → 0 ≤ r → r < kT 0 → -4000 ≤ gW_1 (4 * gH i + r) ∧ gW_1 (4 * gH i + r) ≤ 4000 := fun i r h0 h1 h2 h3 => by have a := hin9 i h0 h1; have b := hwr (gH i) (r + 1) (by omega) (by omega) (by omega) (by omega); unfold wE at b; rw [show 4 * gH i + (r + 1) - 1 = 4 * gH i + r by omega] at b; exact b
              have hWz9 : ∀ i r : Int, 0 ≤ i → i < kT 0 → kT 0 ≤ r → r < 4 → gW_1 (4 * gH i + r) = 0 := fun i r h0 h1 h2 h3 => by have a := hin9 i h0 h1; have b := hgW_1 (gH i) (r + 1) (by omega) (by omega) (by omega) (by omega); unfold wE at b; rw [show 4 * gH i + (r + 1) - 1 = 4 * gH i + r by omega] at b; rw [b]; unfold mW; rw [if_neg (by omega)]
              have hAb9 : ∀ r : Int, 0 ≤ r → r < kT 0 → -4000 ≤ gA_1 r ∧ gA_1 r ≤ 4000 := fun r h0 h1 => by rw [hgA_1 r h0 h1]; have := hkT.2.2 (2 + (r + 1)) (by omega) (by omega); omega
              refine zz_iload_n C 1 dX10_finds_40 rfl rfl ?_
              refine zz_iconst C dX10_finds_41 ?_
              refine zz_icmp_eq (tgt := 53) C dX10_finds_42 (by decide) (by unfold rI; omega) (by unfold rI; omega) (fun c42 => ?_) (fun c42 => ?_)
              · skip
                have hnw : ∀ i : Int, 0 ≤ i → i < kT 0 → ¬ gH i = w9 := fun i h0 h1 => by have := hin9 i h0 h1; omega
                refine zz_aload_n C 0 dX10_finds_53 rfl rfl ?_
                refine zz_callV (wr := ([] : va_W)) (st := []) C (cc_X10_tries l z mh xT xD xP xR xC xW xA xH xU xB xI xN xM xY xK xL xE xS m_ra m_ca m_tp m_fa m_at m_wr m_va m_pl m_st gl gb gc go m_yl m_yw m_nu m_nl m_lu m_ll m_ln kT kD kP kR gC gW_1 gA_1 gH gU gB gI kN kM kY kK kL kE kS (by omega) hWb9 hWz9 hAb9 hin9 hst.2) yk_X10_tries qw_1202 ⟨by decide, by decide⟩ [0, 1, 2, 3, 4, 5, 6, 7, 8, 9, 10, 11, 12, 13, 14, 15, 16, 17, 18] [] rfl rfl rfl rfl (by decide) 0 10 rfl rfl rfl rfl (Nat.le_of_ble_eq_true rfl) dX10_finds_54 ⟨by decide, by decide⟩ ?_
                rintro _ _ ⟨gC_54, gU_54, gl_54, gI_54, go_54, gb_54, gc_54, gB_54, ht_54, rfl, rfl⟩
                refine zz_st (st' := []) rfl (zz_ws (ws' := wMod z mh xT xD xP xR xC xW xA xH xU xB xI xN xM xY xK xL xE xS m_ra m_ca m_tp m_fa m_at m_wr m_va m_pl m_st gl_54 gb_54 gc_54 go_54 m_yl m_yw m_nu m_nl m_lu m_ll m_ln kT kD kP kR gC_54 gW_1 gA_1 gH gU_54 gB_54 gI_54 kN kM kY kK kL kE kS) rfl ?_)
                have hnx : ∀ Q9 : (Int → Int) → Prop, (∀ g, Q9 g → srt4 (kT 0) (kT 1 + kT 0 + 1) g ∧ (lx (kT 0) g gH ∨ eqT (kT 0) g gH)) → mSt (kT 0) (kT 1 + kT 0 + 1) (kT 1) (wE gW_1) (fun r => gA_1 (r - 1)) (mP kT) w9 Q9 go_54 gb_54 gc_54 gB_54 := fun Q9 hq => mSt_try hk0.1 hk0.2 (by omega) hst hnw hq ht_54
                refine zz_aload_n C 0 dX10_finds_57 rfl rfl ?_
                refine zz_aload_n C 0 dX10_finds_58 rfl rfl ?_
                refine zz_get C 0 (ci := 10) (k := 1) rfl rfl in_X10 (by decide) qw_927 rfl rfl dX10_finds_59 ?_
                refine zz_iconst C dX10_finds_62 ?_
                refine zz_iald C 1 rfl (by omega) (by omega) (by decide) dX10_finds_63 ?_
                refine zz_iconst C dX10_finds_64 ?_
                refine zz_iadd C dX10_finds_65 ?_
                refine zz_aload_n C 0 dX10_finds_66 rfl rfl ?_
                refine zz_get C 0 (ci := 10) (k := 1) rfl rfl in_X10 (by decide) qw_927 rfl rfl dX10_finds_67 ?_
                refine zz_iconst C dX10_finds_70 ?_
                refine zz_iald C 1 rfl (by omega) (by omega) (by decide) dX10_finds_71 ?_
                refine zz_iadd C dX10_finds_72 ?_
                refine zz_callV (wr := ([] : va_W)) (st := []) C (cc_X10_choosesOn l z mh xT xD xP xR xC xW xA xH xU xB xI xN xM xY xK xL xE xS m_ra m_ca m_tp m_fa m_at m_wr m_va m_pl m_st gl_54 gb_54 gc_54 go_54 m_yl m_yw m_nu m_nl m_lu m_ll m_ln kT kD kP kR gC_54 gW_1 gA_1 gH gU_54 gB_54 gI_54 kN kM kY kK kL kE kS (((kT 1) + 1) + (kT 0)) (by omega) (by omega) (by rw [hnn]; exact hsr)) yk_X10_choosesOn qw_1229 ⟨by decide, by decide⟩ [0, 1, 2, 3, 4, 5, 6, 7, 8, 9, 10, 11, 12, 13, 14, 15, 16, 17, 18] [] rfl rfl rfl rfl (by decide) 0 10 rfl rfl rfl rfl (Nat.le_of_ble_eq_true rfl) dX10_finds_73 ⟨by decide, by decide⟩ ?_
                rintro _ _ ⟨q_73, gH_73, hq_73, rfl, rfl⟩
                refine zz_st (st' := [.int (iI q_73)]) rfl (zz_ws (ws' := wMod z mh xT xD xP xR xC xW xA xH xU xB xI xN xM xY xK xL xE xS m_ra m_ca m_tp m_fa m_at m_wr m_va m_pl m_st gl_54 gb_54 gc_54 go_54 m_yl m_yw m_nu m_nl m_lu m_ll m_ln kT kD kP kR gC_54 gW_1 gA_1 gH_73 gU_54 gB_54 gI_54 kN kM kY kK kL kE kS) rfl ?_)
                have hmo9 : q_73 = 0 ∨ q_73 = 1 := by rcases hq_73 with h | h; exact Or.inr h.1; exact Or.inl h.1
                have hs19 : q_73 = 1 → srt4 (kT 0) (kT 1 + kT 0 + 1) gH_73 ∧ (0 ≤ wt (kT 0) gH_73 ∧ wt (kT 0) gH_73 ≤ 14640) ∧ mSt (kT 0) (kT 1 + kT 0 + 1) (kT 1) (wE gW_1) (fun r => gA_1 (r - 1)) (mP kT) w9 (qLx (kT 0) (kT 1 + kT 0 + 1) gH_73) go_54 gb_54 gc_54 gB_54 := fun h => by obtain ⟨-, a, b, c, d⟩ := hq_73.resolve_right (fun h2 => by omega); rw [hnn] at a d; exact ⟨a, by omega, hnx _ (fun g q => ⟨q.1, d g q.1 q.2⟩)⟩
                have hs09 : q_73 = 0 → mSt (kT 0) (kT 1 + kT 0 + 1) (kT 1) (wE gW_1) (fun r => gA_1 (r - 1)) (mP kT) w9 (srt4 (kT 0) (kT 1 + kT 0 + 1)) go_54 gb_54 gc_54 gB_54 := fun h => by obtain ⟨-, a, d⟩ := hq_73.resolve_left (fun h2 => by omega); rw [hnn] at d; exact hnx _ (fun g q => ⟨q, d g q⟩)
                have hme9 := wt_me (fu := 0) (q := q_73) (b := wt (kT 0) gH_73) hm36 (by omega) hwt (fun e => by rcases hq_73 with h | h; exact ⟨h.2.2.1, h.2.2.2.1⟩; omega) rfl
                refine zz_istore_n (ls' := [(2, .int (iI q_73)), (0, .ref mh), (1, .int (iI w9))]) C dX10_finds_76 rfl (by decide) rfl ?_
                refine zz_goto (tgt := 36) C dX10_finds_77 (by decide) ?_
                refine zz_loc (ls' := [(0, .ref mh), (1, .int (iI w9)), (2, .int (iI q_73))]) [1, 2, 0] rfl ?_
                exact ih36 q_73 gH_73 gC_54 gU_54 gl_54 gI_54 go_54 gb_54 gc_54 gB_54 hmo9 hs19 hs09 hme9
              · skip
                refine zz_aload_n C 0 dX10_finds_45 rfl rfl ?_
                refine zz_iload_n C 1 dX10_finds_46 rfl rfl ?_
                refine zz_callV (wr := ([] : va_W)) (st := []) C (cc_X10_isChosen l z mh xT xD xP xR xC xW xA xH xU xB xI xN xM xY xK xL xE xS m_ra m_ca m_tp m_fa m_at m_wr m_va m_pl m_st gl gb gc go m_yl m_yw m_nu m_nl m_lu m_ll m_ln kT kD kP kR gC gW_1 gA_1 gH gU gB gI kN kM kY kK kL kE kS w9 (by omega) (fun i h0 h1 => by have := (srt_of4 hk0.2 hsr).1 i h0 h1; omega) (by omega)) yk_X10_isChosen qw_1198 ⟨by decide, by decide⟩ [0, 1, 2, 3, 4, 5, 6, 7, 8, 9, 10, 11, 12, 13, 14, 15, 16, 17, 18] [] rfl rfl rfl rfl (by decide) 0 10 rfl rfl rfl rfl (Nat.le_of_ble_eq_true rfl) dX10_finds_47 ⟨by decide, by decide⟩ ?_
                rintro _ _ ⟨q_47, hq_47, rfl, rfl⟩
                refine zz_st (st' := [.int (iI q_47)]) rfl (zz_ws (ws' := wMod z mh xT xD xP xR xC xW xA xH xU xB xI xN xM xY xK xL xE xS m_ra m_ca m_tp m_fa m_at m_wr m_va m_pl m_st gl gb gc go m_yl m_yw m_nu m_nl m_lu m_ll m_ln kT kD kP kR gC gW_1 gA_1 gH gU gB gI kN kM kY kK kL kE kS) rfl ?_)
                refine zz_if_ne (tgt := 57) C dX10_finds_50 (by decide) (by unfold rI; omega) (fun c50 => ?_) (fun c50 => ?_)
                · skip
                  have hyw := (hq_47.resolve_right (fun h => by omega)).2
                  have hnx : ∀ Q9 : (Int → Int) → Prop, (∀ g, Q9 g → srt4 (kT 0) (kT 1 + kT 0 + 1) g ∧ (lx (kT 0) g gH ∨ eqT (kT 0) g gH)) → mSt (kT 0) (kT 1 + kT 0 + 1) (kT 1) (wE gW_1) (fun r => gA_1 (r - 1)) (mP kT) w9 Q9 go gb gc gB := fun Q9 hq => mSt_left hst hyw hq
                  refine zz_aload_n C 0 dX10_finds_57 rfl rfl ?_
                  refine zz_aload_n C 0 dX10_finds_58 rfl rfl ?_
                  refine zz_get C 0 (ci := 10) (k := 1) rfl rfl in_X10 (by decide) qw_927 rfl rfl dX10_finds_59 ?_
                  refine zz_iconst C dX10_finds_62 ?_
                  refine zz_iald C 1 rfl (by omega) (by omega) (by decide) dX10_finds_63 ?_
                  refine zz_iconst C dX10_finds_64 ?_
                  refine zz_iadd C dX10_finds_65 ?_
                  refine zz_aload_n C 0 dX10_finds_66 rfl rfl ?_
                  refine zz_get C 0 (ci := 10) (k := 1) rfl rfl in_X10 (by decide) qw_927 rfl rfl dX10_finds_67 ?_
                  refine zz_iconst C dX10_finds_70 ?_
                  refine zz_iald C 1 rfl (by omega) (by omega) (by decide) dX10_finds_71 ?_
                  refine zz_iadd C dX10_finds_72 ?_
                  refine zz_callV (wr := ([] : va_W)) (st := []) C (cc_X10_choosesOn l z mh xT xD xP xR xC xW xA xH xU xB xI xN xM xY xK xL xE xS m_ra m_ca m_tp m_fa m_at m_wr m_va m_pl m_st gl gb gc go m_yl m_yw m_nu m_nl m_lu m_ll m_ln kT kD kP kR gC gW_1 gA_1 gH gU gB gI kN kM kY kK kL kE kS (((kT 1) + 1) + (kT 0)) (by omega) (by omega) (by rw [hnn]; exact hsr)) yk_X10_choosesOn qw_1229 ⟨by decide, by decide⟩ [0, 1, 2, 3, 4, 5, 6, 7, 8, 9, 10, 11, 12, 13, 14, 15, 16, 17, 18] [] rfl rfl rfl rfl (by decide) 0 10 rfl rfl rfl rfl (Nat.le_of_ble_eq_true rfl) dX10_finds_73 ⟨by decide, by decide⟩ ?_
                  rintro _ _ ⟨q_73, gH_73, hq_73, rfl, rfl⟩
                  refine zz_st (st' := [.int (iI q_73)]) rfl (zz_ws (ws' := wMod z mh xT xD xP xR xC xW xA xH xU xB xI xN xM xY xK xL xE xS m_ra m_ca m_tp m_fa m_at m_wr m_va m_pl m_st gl gb gc go m_yl m_yw m_nu m_nl m_lu m_ll m_ln kT kD kP kR gC gW_1 gA_1 gH_73 gU gB gI kN kM kY kK kL kE kS) rfl ?_)
                  have hmo9 : q_73 = 0 ∨ q_73 = 1 := by rcases hq_73 with h | h; exact Or.inr h.1; exact Or.inl h.1
                  have hs19 : q_73 = 1 → srt4 (kT 0) (kT 1 + kT 0 + 1) gH_73 ∧ (0 ≤ wt (kT 0) gH_73 ∧ wt (kT 0) gH_73 ≤ 14640) ∧ mSt (kT 0) (kT 1 + kT 0 + 1) (kT 1) (wE gW_1) (fun r => gA_1 (r - 1)) (mP kT) w9 (qLx (kT 0) (kT 1 + kT 0 + 1) gH_73) go gb gc gB := fun h => by obtain ⟨-, a, b, c, d⟩ := hq_73.resolve_right (fun h2 => by omega); rw [hnn] at a d; exact ⟨a, by omega, hnx _ (fun g q => ⟨q.1, d g q.1 q.2⟩)⟩
                  have hs09 : q_73 = 0 → mSt (kT 0) (kT 1 + kT 0 + 1) (kT 1) (wE gW_1) (fun r => gA_1 (r - 1)) (mP kT) w9 (srt4 (kT 0) (kT 1 + kT 0 + 1)) go gb gc gB := fun h => by obtain ⟨-, a, d⟩ := hq_73.resolve_left (fun h2 => by omega); rw [hnn] at d; exact hnx _ (fun g q => ⟨q, d g q⟩)
                  have hme9 := wt_me (fu := 0) (q := q_73) (b := wt (kT 0) gH_73) hm36 (by omega) hwt (fun e => by rcases hq_73 with h | h; exact ⟨h.2.2.1, h.2.2.2.1⟩; omega) rfl
                  refine zz_istore_n (ls' := [(2, .int (iI q_73)), (0, .ref mh), (1, .int (iI w9))]) C dX10_finds_76 rfl (by decide) rfl ?_
                  refine zz_goto (tgt := 36) C dX10_finds_77 (by decide) ?_
                  refine zz_loc (ls' := [(0, .ref mh), (1, .int (iI w9)), (2, .int (iI q_73))]) [1, 2, 0] rfl ?_
                  exact ih36 q_73 gH_73 gC gU gl gI go gb gc gB hmo9 hs19 hs09 hme9
                · skip
                  have hnw := (hq_47.resolve_left (fun h => by omega)).2
                  refine zz_aload_n C 0 dX10_finds_53 rfl rfl ?_
                  refine zz_callV (wr := ([] : va_W)) (st := []) C (cc_X10_tries l z mh xT xD xP xR xC xW xA xH xU xB xI xN xM xY xK xL xE xS m_ra m_ca m_tp m_fa m_at m_wr m_va m_pl m_st gl gb gc go m_yl m_yw m_nu m_nl m_lu m_ll m_ln kT kD kP kR gC gW_1 gA_1 gH gU gB gI kN kM kY kK kL kE kS (by omega) hWb9 hWz9 hAb9 hin9 hst.2) yk_X10_tries qw_1202 ⟨by decide, by decide⟩ [0, 1, 2, 3, 4, 5, 6, 7, 8, 9, 10, 11, 12, 13, 14, 15, 16, 17, 18] [] rfl rfl rfl rfl (by decide) 0 10 rfl rfl rfl rfl (Nat.le_of_ble_eq_true rfl) dX10_finds_54 ⟨by decide, by decide⟩ ?_
                  rintro _ _ ⟨gC_54, gU_54, gl_54, gI_54, go_54, gb_54, gc_54, gB_54, ht_54, rfl, rfl⟩
                  refine zz_st (st' := []) rfl (zz_ws (ws' := wMod z mh xT xD xP xR xC xW xA xH xU xB xI xN xM xY xK xL xE xS m_ra m_ca m_tp m_fa m_at m_wr m_va m_pl m_st gl_54 gb_54 gc_54 go_54 m_yl m_yw m_nu m_nl m_lu m_ll m_ln kT kD kP kR gC_54 gW_1 gA_1 gH gU_54 gB_54 gI_54 kN kM kY kK kL kE kS) rfl ?_)
                  have hnx : ∀ Q9 : (Int → Int) → Prop, (∀ g, Q9 g → srt4 (kT 0) (kT 1 + kT 0 + 1) g ∧ (lx (kT 0) g gH ∨ eqT (kT 0) g gH)) → mSt (kT 0) (kT 1 + kT 0 + 1) (kT 1) (wE gW_1) (fun r => gA_1 (r - 1)) (mP kT) w9 Q9 go_54 gb_54 gc_54 gB_54 := fun Q9 hq => mSt_try hk0.1 hk0.2 (by omega) hst hnw hq ht_54
                  refine zz_aload_n C 0 dX10_finds_57 rfl rfl ?_
                  refine zz_aload_n C 0 dX10_finds_58 rfl rfl ?_
                  refine zz_get C 0 (ci := 10) (k := 1) rfl rfl in_X10 (by decide) qw_927 rfl rfl dX10_finds_59 ?_
                  refine zz_iconst C dX10_finds_62 ?_
                  refine zz_iald C 1 rfl (by omega) (by omega) (by decide) dX10_finds_63 ?_
                  refine zz_iconst C dX10_finds_64 ?_
                  refine zz_iadd C dX10_finds_65 ?_
                  refine zz_aload_n C 0 dX10_finds_66 rfl rfl ?_
                  refine zz_get C 0 (ci := 10) (k := 1) rfl rfl in_X10 (by decide) qw_927 rfl rfl dX10_finds_67 ?_
                  refine zz_iconst C dX10_finds_70 ?_
                  refine zz_iald C 1 rfl (by omega) (by omega) (by decide) dX10_finds_71 ?_
                  refine zz_iadd C dX10_finds_72 ?_
                  refine zz_callV (wr := ([] : va_W)) (st := []) C (cc_X10_choosesOn l z mh xT xD xP xR xC xW xA xH xU xB xI xN xM xY xK xL xE xS m_ra m_ca m_tp m_fa m_at m_wr m_va m_pl m_st gl_54 gb_54 gc_54 go_54 m_yl m_yw m_nu m_nl m_lu m_ll m_ln kT kD kP kR gC_54 gW_1 gA_1 gH gU_54 gB_54 gI_54 kN kM kY kK kL kE kS (((kT 1) + 1) + (kT 0)) (by omega) (by omega) (by rw [hnn]; exact hsr)) yk_X10_choosesOn qw_1229 ⟨by decide, by decide⟩ [0, 1, 2, 3, 4, 5, 6, 7, 8, 9, 10, 11, 12, 13, 14, 15, 16, 17, 18] [] rfl rfl rfl rfl (by decide) 0 10 rfl rfl rfl rfl (Nat.le_of_ble_eq_true rfl) dX10_finds_73 ⟨by decide, by decide⟩ ?_
                  rintro _ _ ⟨q_73, gH_73, hq_73, rfl, rfl⟩
                  refine zz_st (st' := [.int (iI q_73)]) rfl (zz_ws (ws' := wMod z mh xT xD xP xR xC xW xA xH xU xB xI xN xM xY xK xL xE xS m_ra m_ca m_tp m_fa m_at m_wr m_va m_pl m_st gl_54 gb_54 gc_54 go_54 m_yl m_yw m_nu m_nl m_lu m_ll m_ln kT kD kP kR gC_54 gW_1 gA_1 gH_73 gU_54 gB_54 gI_54 kN kM kY kK kL kE kS) rfl ?_)
                  have hmo9 : q_73 = 0 ∨ q_73 = 1 := by rcases hq_73 with h | h; exact Or.inr h.1; exact Or.inl h.1
                  have hs19 : q_73 = 1 → srt4 (kT 0) (kT 1 + kT 0 + 1) gH_73 ∧ (0 ≤ wt (kT 0) gH_73 ∧ wt (kT 0) gH_73 ≤ 14640) ∧ mSt (kT 0) (kT 1 + kT 0 + 1) (kT 1) (wE gW_1) (fun r => gA_1 (r - 1)) (mP kT) w9 (qLx (kT 0) (kT 1 + kT 0 + 1) gH_73) go_54 gb_54 gc_54 gB_54 := fun h => by obtain ⟨-, a, b, c, d⟩ := hq_73.resolve_right (fun h2 => by omega); rw [hnn] at a d; exact ⟨a, by omega, hnx _ (fun g q => ⟨q.1, d g q.1 q.2⟩)⟩
                  have hs09 : q_73 = 0 → mSt (kT 0) (kT 1 + kT 0 + 1) (kT 1) (wE gW_1) (fun r => gA_1 (r - 1)) (mP kT) w9 (srt4 (kT 0) (kT 1 + kT 0 + 1)) go_54 gb_54 gc_54 gB_54 := fun h => by obtain ⟨-, a, d⟩ := hq_73.resolve_left (fun h2 => by omega); rw [hnn] at d; exact hnx _ (fun g q => ⟨q, d g q⟩)
                  have hme9 := wt_me (fu := 0) (q := q_73) (b := wt (kT 0) gH_73) hm36 (by omega) hwt (fun e => by rcases hq_73 with h | h; exact ⟨h.2.2.1, h.2.2.2.1⟩; omega) rfl
                  refine zz_istore_n (ls' := [(2, .int (iI q_73)), (0, .ref mh), (1, .int (iI w9))]) C dX10_finds_76 rfl (by decide) rfl ?_
                  refine zz_goto (tgt := 36) C dX10_finds_77 (by decide) ?_
                  refine zz_loc (ls' := [(0, .ref mh), (1, .int (iI w9)), (2, .int (iI q_73))]) [1, 2, 0] rfl ?_
                  exact ih36 q_73 gH_73 gC_54 gU_54 gl_54 gI_54 go_54 gb_54 gc_54 gB_54 hmo9 hs19 hs09 hme9
        refine zz_loc (ls' := [(0, .ref mh), (1, .int (iI w9)), (2, .int (iI 1))]) [1, 2, 0] rfl ?_
        exact Lp36 _ 1 gH kC kU m_lo kI 0 m_bl m_bc kB (by omega) (fun _ => ⟨(nx_first hk0.1 hk0.2 (by omega) (fun i h0 h1 => hH i h0 (by omega))).1, wt_0 hk0.1 hk0.2 (fun i h0 h1 => hH i h0 (by omega)), mSt_0 (nx_first hk0.1 hk0.2 (by omega) (fun i h0 h1 => hH i h0 (by omega))).2⟩) (fun h => by omega) (Nat.lt_succ_self _)
      · skip
        refine zz_aload_n C 0 dX10_finds_21 rfl rfl ?_
        refine zz_get C 0 (ci := 10) (k := 16) rfl rfl in_X10 (by decide) qw_942 rfl rfl dX10_finds_22 ?_
        refine zz_iload_n C 2 dX10_finds_25 rfl rfl ?_
        refine zz_iload_n C 2 dX10_finds_26 rfl rfl ?_
        refine zz_iast (ws' := wMod z mh xT xD xP xR xC xW xA xH xU xB xI xN xM xY xK xL xE xS m_ra m_ca m_tp m_fa m_at m_wr m_va m_pl m_st m_lo m_bl m_bc 0 m_yl m_yw m_nu m_nl m_lu m_ll m_ln kT kD kP kR kC gW_1 gA_1 (zup gH k k) kU kB kI kN kM kY kK kL kE kS) C 8 rfl (by omega) (by omega) (by decide) rfl dX10_finds_27 ?_
        refine zz_iinc (ls' := [(2, .int (iI (k + 1))), (0, .ref mh), (1, .int (iI w9))]) C 2 dX10_finds_28 rfl (by decide) rfl ?_
        refine zz_goto (tgt := 11) C dX10_finds_31 (by decide) ?_
        refine zz_loc (ls' := [(0, .ref mh), (1, .int (iI w9)), (2, .int (iI (k + 1)))]) [1, 2, 0] rfl ?_
        exact ih11 (k + 1) (zup gH k k) (by omega) (zup_all (f := fun i => i) hH rfl) (by omega)
  refine zz_loc (ls' := [(0, .ref mh), (1, .int (iI w9)), (2, .int (iI 0))]) [1, 2, 0] rfl ?_
  exact Lp11 _ 0 kH (by omega) (fun i h0 h1 => by omega) (Nat.lt_succ_self _)
abbrev po_X10_cost (z : zC) (mh : Nat) (xT : Nat) (xD : Nat) (xP : Nat) (xR : Nat) (xC : Nat) (xW : Nat) (xA : Nat) (xH : Nat) (xU : Nat) (xB : Nat) (xI : Nat) (xN : Nat) (xM : Nat) (xY : Nat) (xK : Nat) (xL : Nat) (xE : Nat) (xS : Nat) (m_ra : Int) (m_ca : Int) (m_tp : Int) (m_fa : Int) (m_at : Int) (m_wr : Int) (m_va : Int) (m_pl : Int) (m_st : Int) (m_lo : Int) (m_bl : Int) (m_bc : Int) (m_fo : Int) (m_yl : Int) (m_yw : Int) (m_nu : Int) (m_nl : Int) (m_lu : Int) (m_ll : Int) (m_ln : Int) (kT : Int → Int) (kD : Int → Int) (kP : Int → Int) (kR : Int → Int) (kC : Int → Int) (kW : Int → Int) (kA : Int → Int) (kH : Int → Int) (kU : Int → Int) (kB : Int → Int) (kI : Int → Int) (kN : Int → Int) (kM : Int → Int) (kY : Int → Int) (kK : Int → Int) (kL : Int → Int) (kE : Int → Int) (kS : Int → Int) (un : Int) : Option Value → va_W → Prop := fun v w => ∃ (q : Int), ∃ (gW : Int → Int), ∃ (gA : Int → Int), ∃ (gC : Int → Int), ∃ (gU : Int → Int), ∃ (gl : Int), ∃ (gI : Int → Int), ∃ (go : Int), ∃ (gb : Int), ∃ (gc : Int), ∃ (gB : Int → Int), ∃ (gH : Int → Int), ((∃ D p V, mBest (kT 0) (kT 1 + kT 0 + 1) (kT 1) (mW (kT 0) (kT 1) kT) (fun d => 20 * kT (2 + d)) (mP kT) (-1) D p V ∧ q = ltm (p) D un)) ∧ v = some (Value.long (iL q)) ∧ w = wMod z mh xT xD xP xR xC xW xA xH xU xB xI xN xM xY xK xL xE xS 0 m_ca m_tp m_fa m_at m_wr m_va m_pl m_st gl gb gc go m_yl m_yw m_nu m_nl m_lu m_ll m_ln kT kD kP kR gC gW gA gH gU gB gI kN kM kY kK kL kE kS
abbrev rm_X10_cost : Room := { frames := 6, cells := 0, slots := 0, locals := 152 }
set_option maxHeartbeats 4000000 in
set_option maxRecDepth 100000 in
theorem cc_X10_cost (l : Launch) (z : zC) (mh : Nat) (xT : Nat) (xD : Nat) (xP : Nat) (xR : Nat) (xC : Nat) (xW : Nat) (xA : Nat) (xH : Nat) (xU : Nat) (xB : Nat) (xI : Nat) (xN : Nat) (xM : Nat) (xY : Nat) (xK : Nat) (xL : Nat) (xE : Nat) (xS : Nat) (m_ra : Int) (m_ca : Int) (m_tp : Int) (m_fa : Int) (m_at : Int) (m_wr : Int) (m_va : Int) (m_pl : Int) (m_st : Int) (m_lo : Int) (m_bl : Int) (m_bc : Int) (m_fo : Int) (m_yl : Int) (m_yw : Int) (m_nu : Int) (m_nl : Int) (m_lu : Int) (m_ll : Int) (m_ln : Int) (kT : Int → Int) (kD : Int → Int) (kP : Int → Int) (kR : Int → Int) (kC : Int → Int) (kW : Int → Int) (kA : Int → Int) (kH : Int → Int) (kU : Int → Int) (kB : Int → Int) (kI : Int → Int) (kN : Int → Int) (kM : Int → Int) (kY : Int → Int) (kK : Int → Int) (kL : Int → Int) (kE : Int → Int) (kS : Int → Int) (un : Int) (hkT : mOk kT) (hk2 : mOk2 kT) (hk3 : ∀ b : Int, 0 ≤ b → b < kT 1 → kT (12 + b) ≤ 20 ∧ kT (17 + b) ≤ 40) (hun : un = 0 ∨ un = 1) : zzMet l yX10_cost cX10_cost 2 (Option.some .long) rm_X10_cost z [.ref mh, .int (iI un)] (wMod z mh xT xD xP xR xC xW xA xH xU xB xI xN xM xY xK xL xE xS m_ra m_ca m_tp m_fa m_at m_wr m_va m_pl m_st m_lo m_bl m_bc m_fo m_yl m_yw m_nu m_nl m_lu m_ll m_ln kT kD kP kR kC kW kA kH kU kB kI kN kM kY kK kL kE kS) (po_X10_cost z mh xT xD xP xR xC xW xA xH xU xB xI xN xM xY xK xL xE xS m_ra m_ca m_tp m_fa m_at m_wr m_va m_pl m_st m_lo m_bl m_bc m_fo m_yl m_yw m_nu m_nl m_lu m_ll m_ln kT kD kP kR kC kW kA kH kU kB kI kN kM kY kK kL kE kS un) := by
  refine zzMet.of (own := RX10) (ls0 := [(0, .ref mh), (1, .int (iI un))]) (by decide) rfl (Nat.le_of_ble_eq_true rfl) rfl ?_
  intro p e s m below meth c A C hr hnm
  have hk0 := hkT.1
  have hk1 := hkT.2.1
  refine zz_aload_n C 0 dX10_cost_0 rfl rfl ?_
  refine zz_iconst C dX10_cost_1 ?_
  refine zz_put (ty := .int) (ws' := wMod z mh xT xD xP xR xC xW xA xH xU xB xI xN xM xY xK xL xE xS 0 m_ca m_tp m_fa m_at m_wr m_va m_pl m_st m_lo m_bl m_bc m_fo m_yl m_yw m_nu m_nl m_lu m_ll m_ln kT kD kP kR kC kW kA kH kU kB kI kN kM kY kK kL kE kS) C 0 (ci := 10) (k := 0) rfl rfl in_X10 tyX10 tyX10_ok nmX10 (by decide) qw_926 rfl rfl (by decide +kernel) rfl rfl (Nat.le_of_ble_eq_true rfl) rfl dX10_cost_2 ?_
  refine zz_aload_n C 0 dX10_cost_5 rfl rfl ?_
  refine zz_iconst C dX10_cost_6 ?_
  refine zz_callV (wr := ([] : va_W)) (st := []) C (cc_X10_finds l z mh xT xD xP xR xC xW xA xH xU xB xI xN xM xY xK xL xE xS 0 m_ca m_tp m_fa m_at m_wr m_va m_pl m_st m_lo m_bl m_bc m_fo m_yl m_yw m_nu m_nl m_lu m_ll m_ln kT kD kP kR kC kW kA kH kU kB kI kN kM kY kK kL kE kS (-1) (by omega) (by omega) (by omega) (by omega)) yk_X10_finds qw_1188 ⟨by decide, by decide⟩ [0, 1, 2, 3, 4, 5, 6, 7, 8, 9, 10, 11, 12, 13, 14, 15, 16, 17, 18] [] rfl rfl rfl rfl (by decide) 0 10 rfl rfl rfl rfl (Nat.le_of_ble_eq_true rfl) dX10_cost_7 ⟨by decide, by decide⟩ ?_
  rintro _ _ ⟨gW_7, gA_7, gC_7, gU_7, gl_7, gI_7, go_7, gb_7, gc_7, gB_7, gH_7, hb_7, rfl, rfl⟩
  refine zz_st (st' := []) rfl (zz_ws (ws' := wMod z mh xT xD xP xR xC xW xA xH xU xB xI xN xM xY xK xL xE xS 0 m_ca m_tp m_fa m_at m_wr m_va m_pl m_st gl_7 gb_7 gc_7 go_7 m_yl m_yw m_nu m_nl m_lu m_ll m_ln kT kD kP kR gC_7 gW_7 gA_7 gH_7 gU_7 gB_7 gI_7 kN kM kY kK kL kE kS) rfl ?_)
  have hb8 := hb_7.2.1
  have hb7 := hb_7.2.2.2.1
  refine zz_aload_n C 0 dX10_cost_10 rfl rfl ?_
  refine zz_get C 0 (ci := 10) (k := 21) rfl rfl in_X10 (by decide) qw_947 rfl rfl dX10_cost_11 ?_
  refine zz_aload_n C 0 dX10_cost_14 rfl rfl ?_
  refine zz_get C 0 (ci := 10) (k := 20) rfl rfl in_X10 (by decide) qw_946 rfl rfl dX10_cost_15 ?_
  refine zz_iload_n C 1 dX10_cost_18 rfl rfl ?_
  refine zz_callS (wr := wMod z mh xT xD xP xR xC xW xA xH xU xB xI xN xM xY xK xL xE xS 0 m_ca m_tp m_fa m_at m_wr m_va m_pl m_st gl_7 gb_7 gc_7 go_7 m_yl m_yw m_nu m_nl m_lu m_ll m_ln kT kD kP kR gC_7 gW_7 gA_7 gH_7 gU_7 gB_7 gI_7 kN kM kY kK kL kE kS) (st := []) C (cc_X10_tells l z gc_7 gb_7 un (by omega) (by omega) (by omega)) yk_X10_tells qw_1233 ⟨by decide, by decide⟩ [] [0, 1, 2, 3, 4, 5, 6, 7, 8, 9, 10, 11, 12, 13, 14, 15, 16, 17, 18] rfl rfl rfl rfl (by decide) rfl rfl (Nat.le_of_ble_eq_true rfl) dX10_cost_19 ⟨by decide, by decide⟩ ?_
  rintro _ _ ⟨rfl, rfl⟩
  refine zz_st (st' := [.long (iL (ltm gc_7 gb_7 un))]) rfl (zz_ws (ws' := wMod z mh xT xD xP xR xC xW xA xH xU xB xI xN xM xY xK xL xE xS 0 m_ca m_tp m_fa m_at m_wr m_va m_pl m_st gl_7 gb_7 gc_7 go_7 m_yl m_yw m_nu m_nl m_lu m_ll m_ln kT kD kP kR gC_7 gW_7 gA_7 gH_7 gU_7 gB_7 gI_7 kN kM kY kK kL kE kS) rfl ?_)
  exact zz_lret C hr dX10_cost_22 ⟨_, gW_7, gA_7, gC_7, gU_7, gl_7, gI_7, go_7, gb_7, gc_7, gB_7, gH_7, ⟨_, _, _, hb_7, rfl⟩, rfl, rfl⟩
abbrev po_X10_part (z : zC) (mh : Nat) (xT : Nat) (xD : Nat) (xP : Nat) (xR : Nat) (xC : Nat) (xW : Nat) (xA : Nat) (xH : Nat) (xU : Nat) (xB : Nat) (xI : Nat) (xN : Nat) (xM : Nat) (xY : Nat) (xK : Nat) (xL : Nat) (xE : Nat) (xS : Nat) (m_ra : Int) (m_ca : Int) (m_tp : Int) (m_fa : Int) (m_at : Int) (m_wr : Int) (m_va : Int) (m_pl : Int) (m_st : Int) (m_lo : Int) (m_bl : Int) (m_bc : Int) (m_fo : Int) (m_yl : Int) (m_yw : Int) (m_nu : Int) (m_nl : Int) (m_lu : Int) (m_ll : Int) (m_ln : Int) (kT : Int → Int) (kD : Int → Int) (kP : Int → Int) (kR : Int → Int) (kC : Int → Int) (kW : Int → Int) (kA : Int → Int) (kH : Int → Int) (kU : Int → Int) (kB : Int → Int) (kI : Int → Int) (kN : Int → Int) (kM : Int → Int) (kY : Int → Int) (kK : Int → Int) (kL : Int → Int) (kE : Int → Int) (kS : Int → Int) (b9 : Int) (un : Int) : Option Value → va_W → Prop := fun v w => ∃ (q : Int), ∃ (gW : Int → Int), ∃ (gA : Int → Int), ∃ (gC : Int → Int), ∃ (gU : Int → Int), ∃ (gl : Int), ∃ (gI : Int → Int), ∃ (go : Int), ∃ (gb : Int), ∃ (gc : Int), ∃ (gB : Int → Int), ∃ (gH : Int → Int), (((0 ≤ b9 ∧ b9 < kT 1) ∧ (∃ D p V, mBest (kT 0) (kT 1 + kT 0 + 1) (kT 1) (mW (kT 0) (kT 1) kT) (fun d => 20 * kT (2 + d)) (mP kT) (-1) D p V ∧ q = ltm (V b9) D un)) ∨ (¬ (0 ≤ b9 ∧ b9 < kT 1) ∧ q = -1)) ∧ v = some (Value.long (iL q)) ∧ w = wMod z mh xT xD xP xR xC xW xA xH xU xB xI xN xM xY xK xL xE xS 0 m_ca m_tp m_fa m_at m_wr m_va m_pl m_st gl gb gc go m_yl m_yw m_nu m_nl m_lu m_ll m_ln kT kD kP kR gC gW gA gH gU gB gI kN kM kY kK kL kE kS
abbrev rm_X10_part : Room := { frames := 6, cells := 0, slots := 0, locals := 152 }
set_option maxHeartbeats 4000000 in
set_option maxRecDepth 100000 in
theorem cc_X10_part (l : Launch) (z : zC) (mh : Nat) (xT : Nat) (xD : Nat) (xP : Nat) (xR : Nat) (xC : Nat) (xW : Nat) (xA : Nat) (xH : Nat) (xU : Nat) (xB : Nat) (xI : Nat) (xN : Nat) (xM : Nat) (xY : Nat) (xK : Nat) (xL : Nat) (xE : Nat) (xS : Nat) (m_ra : Int) (m_ca : Int) (m_tp : Int) (m_fa : Int) (m_at : Int) (m_wr : Int) (m_va : Int) (m_pl : Int) (m_st : Int) (m_lo : Int) (m_bl : Int) (m_bc : Int) (m_fo : Int) (m_yl : Int) (m_yw : Int) (m_nu : Int) (m_nl : Int) (m_lu : Int) (m_ll : Int) (m_ln : Int) (kT : Int → Int) (kD : Int → Int) (kP : Int → Int) (kR : Int → Int) (kC : Int → Int) (kW : Int → Int) (kA : Int → Int) (kH : Int → Int) (kU : Int → Int) (kB : Int → Int) (kI : Int → Int) (kN : Int → Int) (kM : Int → Int) (kY : Int → Int) (kK : Int → Int) (kL : Int → Int) (kE : Int → Int) (kS : Int → Int) (b9 : Int) (un : Int) (hkT : mOk kT) (hk2 : mOk2 kT) (hk3 : ∀ b : Int, 0 ≤ b → b < kT 1 → kT (12 + b) ≤ 20 ∧ kT (17 + b) ≤ 40) (hb9 : -2147483648 ≤ b9 ∧ b9 < 2147483648) (hun : un = 0 ∨ un = 1) : zzMet l yX10_part cX10_part 3 (Option.some .long) rm_X10_part z [.ref mh, .int (iI b9), .int (iI un)] (wMod z mh xT xD xP xR xC xW xA xH xU xB xI xN xM xY xK xL xE xS m_ra m_ca m_tp m_fa m_at m_wr m_va m_pl m_st m_lo m_bl m_bc m_fo m_yl m_yw m_nu m_nl m_lu m_ll m_ln kT kD kP kR kC kW kA kH kU kB kI kN kM kY kK kL kE kS) (po_X10_part z mh xT xD xP xR xC xW xA xH xU xB xI xN xM xY xK xL xE xS m_ra m_ca m_tp m_fa m_at m_wr m_va m_pl m_st m_lo m_bl m_bc m_fo m_yl m_yw m_nu m_nl m_lu m_ll m_ln kT kD kP kR kC kW kA kH kU kB kI kN kM kY kK kL kE kS b9 un) := by
  refine zzMet.of (own := RX10) (ls0 := [(0, .ref mh), (1, .int (iI b9)), (2, .int (iI un))]) (by decide) rfl (Nat.le_of_ble_eq_true rfl) rfl ?_
  intro p e s m below meth c A C hr hnm
  have hk0 := hkT.1
  have hk1 := hkT.2.1
  refine zz_aload_n C 0 dX10_part_0 rfl rfl ?_
  refine zz_iconst C dX10_part_1 ?_
  refine zz_put (ty := .int) (ws' := wMod z mh xT xD xP xR xC xW xA xH xU xB xI xN xM xY xK xL xE xS 0 m_ca m_tp m_fa m_at m_wr m_va m_pl m_st m_lo m_bl m_bc m_fo m_yl m_yw m_nu m_nl m_lu m_ll m_ln kT kD kP kR kC kW kA kH kU kB kI kN kM kY kK kL kE kS) C 0 (ci := 10) (k := 0) rfl rfl in_X10 tyX10 tyX10_ok nmX10 (by decide) qw_926 rfl rfl (by decide +kernel) rfl rfl (Nat.le_of_ble_eq_true rfl) rfl dX10_part_2 ?_
  refine zz_iload_n C 1 dX10_part_5 rfl rfl ?_
  refine zz_iconst C dX10_part_6 ?_
  refine zz_aload_n C 0 dX10_part_7 rfl rfl ?_
  refine zz_get C 0 (ci := 10) (k := 1) rfl rfl in_X10 (by decide) qw_927 rfl rfl dX10_part_8 ?_
  refine zz_iconst C dX10_part_11 ?_
  refine zz_iald C 1 rfl (by omega) (by omega) (by decide) dX10_part_12 ?_
  refine zz_iconst C dX10_part_13 ?_
  refine zz_isub C dX10_part_14 ?_
  refine zz_callS (wr := wMod z mh xT xD xP xR xC xW xA xH xU xB xI xN xM xY xK xL xE xS 0 m_ca m_tp m_fa m_at m_wr m_va m_pl m_st m_lo m_bl m_bc m_fo m_yl m_yw m_nu m_nl m_lu m_ll m_ln kT kD kP kR kC kW kA kH kU kB kI kN kM kY kK kL kE kS) (st := []) C (cc_X10_in l z b9 0 ((kT 1) - 1) (by omega) (by omega) (by omega)) yk_X10_in qw_1049 ⟨by decide, by decide⟩ [] [0, 1, 2, 3, 4, 5, 6, 7, 8, 9, 10, 11, 12, 13, 14, 15, 16, 17, 18] rfl rfl rfl rfl (by decide) rfl rfl (Nat.le_of_ble_eq_true rfl) dX10_part_15 ⟨by decide, by decide⟩ ?_
  rintro _ _ ⟨q_15, hq_15, rfl, rfl⟩
  refine zz_st (st' := [.int (iI q_15)]) rfl (zz_ws (ws' := wMod z mh xT xD xP xR xC xW xA xH xU xB xI xN xM xY xK xL xE xS 0 m_ca m_tp m_fa m_at m_wr m_va m_pl m_st m_lo m_bl m_bc m_fo m_yl m_yw m_nu m_nl m_lu m_ll m_ln kT kD kP kR kC kW kA kH kU kB kI kN kM kY kK kL kE kS) rfl ?_)
  refine zz_if_ne (tgt := 25) C dX10_part_18 (by decide) (by unfold rI; omega) (fun c18 => ?_) (fun c18 => ?_)
  · skip
    refine zz_aload_n C 0 dX10_part_25 rfl rfl ?_
    refine zz_iconst C dX10_part_26 ?_
    refine zz_callV (wr := ([] : va_W)) (st := []) C (cc_X10_finds l z mh xT xD xP xR xC xW xA xH xU xB xI xN xM xY xK xL xE xS 0 m_ca m_tp m_fa m_at m_wr m_va m_pl m_st m_lo m_bl m_bc m_fo m_yl m_yw m_nu m_nl m_lu m_ll m_ln kT kD kP kR kC kW kA kH kU kB kI kN kM kY kK kL kE kS (-1) (by omega) (by omega) (by omega) (by omega)) yk_X10_finds qw_1188 ⟨by decide, by decide⟩ [0, 1, 2, 3, 4, 5, 6, 7, 8, 9, 10, 11, 12, 13, 14, 15, 16, 17, 18] [] rfl rfl rfl rfl (by decide) 0 10 rfl rfl rfl rfl (Nat.le_of_ble_eq_true rfl) dX10_part_27 ⟨by decide, by decide⟩ ?_
    rintro _ _ ⟨gW_27, gA_27, gC_27, gU_27, gl_27, gI_27, go_27, gb_27, gc_27, gB_27, gH_27, hb_27, rfl, rfl⟩
    refine zz_st (st' := []) rfl (zz_ws (ws' := wMod z mh xT xD xP xR xC xW xA xH xU xB xI xN xM xY xK xL xE xS 0 m_ca m_tp m_fa m_at m_wr m_va m_pl m_st gl_27 gb_27 gc_27 go_27 m_yl m_yw m_nu m_nl m_lu m_ll m_ln kT kD kP kR gC_27 gW_27 gA_27 gH_27 gU_27 gB_27 gI_27 kN kM kY kK kL kE kS) rfl ?_)
    have hb8 := hb_27.2.1
    have hb7 := hb_27.2.2.2.2 b9 (by omega) (by omega)
    refine zz_aload_n C 0 dX10_part_30 rfl rfl ?_
    refine zz_get C 0 (ci := 10) (k := 19) rfl rfl in_X10 (by decide) qw_945 rfl rfl dX10_part_31 ?_
    refine zz_iload_n C 1 dX10_part_34 rfl rfl ?_
    refine zz_lald C 10 rfl (by omega) (by omega) (by decide) dX10_part_35 ?_
    refine zz_aload_n C 0 dX10_part_36 rfl rfl ?_
    refine zz_get C 0 (ci := 10) (k := 20) rfl rfl in_X10 (by decide) qw_946 rfl rfl dX10_part_37 ?_
    refine zz_iload_n C 2 dX10_part_40 rfl rfl ?_
    refine zz_callS (wr := wMod z mh xT xD xP xR xC xW xA xH xU xB xI xN xM xY xK xL xE xS 0 m_ca m_tp m_fa m_at m_wr m_va m_pl m_st gl_27 gb_27 gc_27 go_27 m_yl m_yw m_nu m_nl m_lu m_ll m_ln kT kD kP kR gC_27 gW_27 gA_27 gH_27 gU_27 gB_27 gI_27 kN kM kY kK kL kE kS) (st := []) C (cc_X10_tells l z (gB_27 b9) gb_27 un (by omega) (by omega) (by omega)) yk_X10_tells qw_1233 ⟨by decide, by decide⟩ [] [0, 1, 2, 3, 4, 5, 6, 7, 8, 9, 10, 11, 12, 13, 14, 15, 16, 17, 18] rfl rfl rfl rfl (by decide) rfl rfl (Nat.le_of_ble_eq_true rfl) dX10_part_41 ⟨by decide, by decide⟩ ?_
    rintro _ _ ⟨rfl, rfl⟩
    refine zz_st (st' := [.long (iL (ltm (gB_27 b9) gb_27 un))]) rfl (zz_ws (ws' := wMod z mh xT xD xP xR xC xW xA xH xU xB xI xN xM xY xK xL xE xS 0 m_ca m_tp m_fa m_at m_wr m_va m_pl m_st gl_27 gb_27 gc_27 go_27 m_yl m_yw m_nu m_nl m_lu m_ll m_ln kT kD kP kR gC_27 gW_27 gA_27 gH_27 gU_27 gB_27 gI_27 kN kM kY kK kL kE kS) rfl ?_)
    exact zz_lret C hr dX10_part_44 ⟨_, gW_27, gA_27, gC_27, gU_27, gl_27, gI_27, go_27, gb_27, gc_27, gB_27, gH_27, Or.inl ⟨by omega, ⟨_, _, _, hb_27, rfl⟩⟩, rfl, rfl⟩
  · skip
    refine zz_ldc2 (a := (-1)) C qw_1150 (by decide +kernel) dX10_part_21 ?_
    exact zz_lret C hr dX10_part_24 ⟨_, kW, kA, kC, kU, m_lo, kI, m_fo, m_bl, m_bc, kB, kH, Or.inr ⟨by omega, rfl⟩, rfl, rfl⟩
abbrev po_X10_surplus (z : zC) (mh : Nat) (xT : Nat) (xD : Nat) (xP : Nat) (xR : Nat) (xC : Nat) (xW : Nat) (xA : Nat) (xH : Nat) (xU : Nat) (xB : Nat) (xI : Nat) (xN : Nat) (xM : Nat) (xY : Nat) (xK : Nat) (xL : Nat) (xE : Nat) (xS : Nat) (m_ra : Int) (m_ca : Int) (m_tp : Int) (m_fa : Int) (m_at : Int) (m_wr : Int) (m_va : Int) (m_pl : Int) (m_st : Int) (m_lo : Int) (m_bl : Int) (m_bc : Int) (m_fo : Int) (m_yl : Int) (m_yw : Int) (m_nu : Int) (m_nl : Int) (m_lu : Int) (m_ll : Int) (m_ln : Int) (kT : Int → Int) (kD : Int → Int) (kP : Int → Int) (kR : Int → Int) (kC : Int → Int) (kW : Int → Int) (kA : Int → Int) (kH : Int → Int) (kU : Int → Int) (kB : Int → Int) (kI : Int → Int) (kN : Int → Int) (kM : Int → Int) (kY : Int → Int) (kK : Int → Int) (kL : Int → Int) (kE : Int → Int) (kS : Int → Int) (t9 : Int) (un : Int) : Option Value → va_W → Prop := fun v w => ∃ (q : Int), ∃ (gW : Int → Int), ∃ (gA : Int → Int), ∃ (gC : Int → Int), ∃ (gU : Int → Int), ∃ (gl : Int), ∃ (gI : Int → Int), ∃ (go : Int), ∃ (gb : Int), ∃ (gc : Int), ∃ (gB : Int → Int), ∃ (gH : Int → Int), (((0 ≤ t9 ∧ t9 ≤ kT 0) ∧ (∃ D p V, mBest (kT 0) (kT 1 + kT 0 + 1) (kT 1) (mW (kT 0) (kT 1) kT) (fun d => 20 * kT (2 + d)) (mP kT) (-1) D p V ∧ q = ltm (V (kT 1 + t9)) D un)) ∨ (¬ (0 ≤ t9 ∧ t9 ≤ kT 0) ∧ q = -1)) ∧ v = some (Value.long (iL q)) ∧ w = wMod z mh xT xD xP xR xC xW xA xH xU xB xI xN xM xY xK xL xE xS 0 m_ca m_tp m_fa m_at m_wr m_va m_pl m_st gl gb gc go m_yl m_yw m_nu m_nl m_lu m_ll m_ln kT kD kP kR gC gW gA gH gU gB gI kN kM kY kK kL kE kS
abbrev rm_X10_surplus : Room := { frames := 6, cells := 0, slots := 0, locals := 152 }
set_option maxHeartbeats 4000000 in
set_option maxRecDepth 100000 in
theorem cc_X10_surplus (l : Launch) (z : zC) (mh : Nat) (xT : Nat) (xD : Nat) (xP : Nat) (xR : Nat) (xC : Nat) (xW : Nat) (xA : Nat) (xH : Nat) (xU : Nat) (xB : Nat) (xI : Nat) (xN : Nat) (xM : Nat) (xY : Nat) (xK : Nat) (xL : Nat) (xE : Nat) (xS : Nat) (m_ra : Int) (m_ca : Int) (m_tp : Int) (m_fa : Int) (m_at : Int) (m_wr : Int) (m_va : Int) (m_pl : Int) (m_st : Int) (m_lo : Int) (m_bl : Int) (m_bc : Int) (m_fo : Int) (m_yl : Int) (m_yw : Int) (m_nu : Int) (m_nl : Int) (m_lu : Int) (m_ll : Int) (m_ln : Int) (kT : Int → Int) (kD : Int → Int) (kP : Int → Int) (kR : Int → Int) (kC : Int → Int) (kW : Int → Int) (kA : Int → Int) (kH : Int → Int) (kU : Int → Int) (kB : Int → Int) (kI : Int → Int) (kN : Int → Int) (kM : Int → Int) (kY : Int → Int) (kK : Int → Int) (kL : Int → Int) (kE : Int → Int) (kS : Int → Int) (t9 : Int) (un : Int) (hkT : mOk kT) (hk2 : mOk2 kT) (hk3 : ∀ b : Int, 0 ≤ b → b < kT 1 → kT (12 + b) ≤ 20 ∧ kT (17 + b) ≤ 40) (ht9 : -2147483648 ≤ t9 ∧ t9 < 2147483648) (hun : un = 0 ∨ un = 1) : zzMet l yX10_surplus cX10_surplus 3 (Option.some .long) rm_X10_surplus z [.ref mh, .int (iI t9), .int (iI un)] (wMod z mh xT xD xP xR xC xW xA xH xU xB xI xN xM xY xK xL xE xS m_ra m_ca m_tp m_fa m_at m_wr m_va m_pl m_st m_lo m_bl m_bc m_fo m_yl m_yw m_nu m_nl m_lu m_ll m_ln kT kD kP kR kC kW kA kH kU kB kI kN kM kY kK kL kE kS) (po_X10_surplus z mh xT xD xP xR xC xW xA xH xU xB xI xN xM xY xK xL xE xS m_ra m_ca m_tp m_fa m_at m_wr m_va m_pl m_st m_lo m_bl m_bc m_fo m_yl m_yw m_nu m_nl m_lu m_ll m_ln kT kD kP kR kC kW kA kH kU kB kI kN kM kY kK kL kE kS t9 un) := by
  refine zzMet.of (own := RX10) (ls0 := [(0, .ref mh), (1, .int (iI t9)), (2, .int (iI un))]) (by decide) rfl (Nat.le_of_ble_eq_true rfl) rfl ?_
  intro p e s m below meth c A C hr hnm
  have hk0 := hkT.1
  have hk1 := hkT.2.1
  refine zz_aload_n C 0 dX10_surplus_0 rfl rfl ?_
  refine zz_iconst C dX10_surplus_1 ?_
  refine zz_put (ty := .int) (ws' := wMod z mh xT xD xP xR xC xW xA xH xU xB xI xN xM xY xK xL xE xS 0 m_ca m_tp m_fa m_at m_wr m_va m_pl m_st m_lo m_bl m_bc m_fo m_yl m_yw m_nu m_nl m_lu m_ll m_ln kT kD kP kR kC kW kA kH kU kB kI kN kM kY kK kL kE kS) C 0 (ci := 10) (k := 0) rfl rfl in_X10 tyX10 tyX10_ok nmX10 (by decide) qw_926 rfl rfl (by decide +kernel) rfl rfl (Nat.le_of_ble_eq_true rfl) rfl dX10_surplus_2 ?_
  refine zz_iload_n C 1 dX10_surplus_5 rfl rfl ?_
  refine zz_iconst C dX10_surplus_6 ?_
  refine zz_aload_n C 0 dX10_surplus_7 rfl rfl ?_
  refine zz_get C 0 (ci := 10) (k := 1) rfl rfl in_X10 (by decide) qw_927 rfl rfl dX10_surplus_8 ?_
  refine zz_iconst C dX10_surplus_11 ?_
  refine zz_iald C 1 rfl (by omega) (by omega) (by decide) dX10_surplus_12 ?_
  refine zz_callS (wr := wMod z mh xT xD xP xR xC xW xA xH xU xB xI xN xM xY xK xL xE xS 0 m_ca m_tp m_fa m_at m_wr m_va m_pl m_st m_lo m_bl m_bc m_fo m_yl m_yw m_nu m_nl m_lu m_ll m_ln kT kD kP kR kC kW kA kH kU kB kI kN kM kY kK kL kE kS) (st := []) C (cc_X10_in l z t9 0 (kT 0) (by omega) (by omega) (by omega)) yk_X10_in qw_1049 ⟨by decide, by decide⟩ [] [0, 1, 2, 3, 4, 5, 6, 7, 8, 9, 10, 11, 12, 13, 14, 15, 16, 17, 18] rfl rfl rfl rfl (by decide) rfl rfl (Nat.le_of_ble_eq_true rfl) dX10_surplus_13 ⟨by decide, by decide⟩ ?_
  rintro _ _ ⟨q_13, hq_13, rfl, rfl⟩
  refine zz_st (st' := [.int (iI q_13)]) rfl (zz_ws (ws' := wMod z mh xT xD xP xR xC xW xA xH xU xB xI xN xM xY xK xL xE xS 0 m_ca m_tp m_fa m_at m_wr m_va m_pl m_st m_lo m_bl m_bc m_fo m_yl m_yw m_nu m_nl m_lu m_ll m_ln kT kD kP kR kC kW kA kH kU kB kI kN kM kY kK kL kE kS) rfl ?_)
  refine zz_if_ne (tgt := 23) C dX10_surplus_16 (by decide) (by unfold rI; omega) (fun c16 => ?_) (fun c16 => ?_)
  · skip
    refine zz_aload_n C 0 dX10_surplus_23 rfl rfl ?_
    refine zz_iconst C dX10_surplus_24 ?_
    refine zz_callV (wr := ([] : va_W)) (st := []) C (cc_X10_finds l z mh xT xD xP xR xC xW xA xH xU xB xI xN xM xY xK xL xE xS 0 m_ca m_tp m_fa m_at m_wr m_va m_pl m_st m_lo m_bl m_bc m_fo m_yl m_yw m_nu m_nl m_lu m_ll m_ln kT kD kP kR kC kW kA kH kU kB kI kN kM kY kK kL kE kS (-1) (by omega) (by omega) (by omega) (by omega)) yk_X10_finds qw_1188 ⟨by decide, by decide⟩ [0, 1, 2, 3, 4, 5, 6, 7, 8, 9, 10, 11, 12, 13, 14, 15, 16, 17, 18] [] rfl rfl rfl rfl (by decide) 0 10 rfl rfl rfl rfl (Nat.le_of_ble_eq_true rfl) dX10_surplus_25 ⟨by decide, by decide⟩ ?_
    rintro _ _ ⟨gW_25, gA_25, gC_25, gU_25, gl_25, gI_25, go_25, gb_25, gc_25, gB_25, gH_25, hb_25, rfl, rfl⟩
    refine zz_st (st' := []) rfl (zz_ws (ws' := wMod z mh xT xD xP xR xC xW xA xH xU xB xI xN xM xY xK xL xE xS 0 m_ca m_tp m_fa m_at m_wr m_va m_pl m_st gl_25 gb_25 gc_25 go_25 m_yl m_yw m_nu m_nl m_lu m_ll m_ln kT kD kP kR gC_25 gW_25 gA_25 gH_25 gU_25 gB_25 gI_25 kN kM kY kK kL kE kS) rfl ?_)
    have hb8 := hb_25.2.1
    have hb7 := hb_25.2.2.2.2 (kT 1 + t9) (by omega) (by omega)
    refine zz_aload_n C 0 dX10_surplus_28 rfl rfl ?_
    refine zz_get C 0 (ci := 10) (k := 19) rfl rfl in_X10 (by decide) qw_945 rfl rfl dX10_surplus_29 ?_
    refine zz_aload_n C 0 dX10_surplus_32 rfl rfl ?_
    refine zz_get C 0 (ci := 10) (k := 1) rfl rfl in_X10 (by decide) qw_927 rfl rfl dX10_surplus_33 ?_
    refine zz_iconst C dX10_surplus_36 ?_
    refine zz_iald C 1 rfl (by omega) (by omega) (by decide) dX10_surplus_37 ?_
    refine zz_iload_n C 1 dX10_surplus_38 rfl rfl ?_
    refine zz_iadd C dX10_surplus_39 ?_
    refine zz_lald C 10 rfl (by omega) (by omega) (by decide) dX10_surplus_40 ?_
    refine zz_aload_n C 0 dX10_surplus_41 rfl rfl ?_
    refine zz_get C 0 (ci := 10) (k := 20) rfl rfl in_X10 (by decide) qw_946 rfl rfl dX10_surplus_42 ?_
    refine zz_iload_n C 2 dX10_surplus_45 rfl rfl ?_
    refine zz_callS (wr := wMod z mh xT xD xP xR xC xW xA xH xU xB xI xN xM xY xK xL xE xS 0 m_ca m_tp m_fa m_at m_wr m_va m_pl m_st gl_25 gb_25 gc_25 go_25 m_yl m_yw m_nu m_nl m_lu m_ll m_ln kT kD kP kR gC_25 gW_25 gA_25 gH_25 gU_25 gB_25 gI_25 kN kM kY kK kL kE kS) (st := []) C (cc_X10_tells l z (gB_25 ((kT 1) + t9)) gb_25 un (by omega) (by omega) (by omega)) yk_X10_tells qw_1233 ⟨by decide, by decide⟩ [] [0, 1, 2, 3, 4, 5, 6, 7, 8, 9, 10, 11, 12, 13, 14, 15, 16, 17, 18] rfl rfl rfl rfl (by decide) rfl rfl (Nat.le_of_ble_eq_true rfl) dX10_surplus_46 ⟨by decide, by decide⟩ ?_
    rintro _ _ ⟨rfl, rfl⟩
    refine zz_st (st' := [.long (iL (ltm (gB_25 ((kT 1) + t9)) gb_25 un))]) rfl (zz_ws (ws' := wMod z mh xT xD xP xR xC xW xA xH xU xB xI xN xM xY xK xL xE xS 0 m_ca m_tp m_fa m_at m_wr m_va m_pl m_st gl_25 gb_25 gc_25 go_25 m_yl m_yw m_nu m_nl m_lu m_ll m_ln kT kD kP kR gC_25 gW_25 gA_25 gH_25 gU_25 gB_25 gI_25 kN kM kY kK kL kE kS) rfl ?_)
    exact zz_lret C hr dX10_surplus_49 ⟨_, gW_25, gA_25, gC_25, gU_25, gl_25, gI_25, go_25, gb_25, gc_25, gB_25, gH_25, Or.inl ⟨by omega, ⟨_, _, _, hb_25, rfl⟩⟩, rfl, rfl⟩
  · skip
    refine zz_ldc2 (a := (-1)) C qw_1150 (by decide +kernel) dX10_surplus_19 ?_
    exact zz_lret C hr dX10_surplus_22 ⟨_, kW, kA, kC, kU, m_lo, kI, m_fo, m_bl, m_bc, kB, kH, Or.inr ⟨by omega, rfl⟩, rfl, rfl⟩
abbrev po_X10_without (z : zC) (mh : Nat) (xT : Nat) (xD : Nat) (xP : Nat) (xR : Nat) (xC : Nat) (xW : Nat) (xA : Nat) (xH : Nat) (xU : Nat) (xB : Nat) (xI : Nat) (xN : Nat) (xM : Nat) (xY : Nat) (xK : Nat) (xL : Nat) (xE : Nat) (xS : Nat) (m_ra : Int) (m_ca : Int) (m_tp : Int) (m_fa : Int) (m_at : Int) (m_wr : Int) (m_va : Int) (m_pl : Int) (m_st : Int) (m_lo : Int) (m_bl : Int) (m_bc : Int) (m_fo : Int) (m_yl : Int) (m_yw : Int) (m_nu : Int) (m_nl : Int) (m_lu : Int) (m_ll : Int) (m_ln : Int) (kT : Int → Int) (kD : Int → Int) (kP : Int → Int) (kR : Int → Int) (kC : Int → Int) (kW : Int → Int) (kA : Int → Int) (kH : Int → Int) (kU : Int → Int) (kB : Int → Int) (kI : Int → Int) (kN : Int → Int) (kM : Int → Int) (kY : Int → Int) (kK : Int → Int) (kL : Int → Int) (kE : Int → Int) (kS : Int → Int) (b9 : Int) (un : Int) : Option Value → va_W → Prop := fun v w => ∃ (q : Int), ∃ (gW : Int → Int), ∃ (gA : Int → Int), ∃ (gC : Int → Int), ∃ (gU : Int → Int), ∃ (gl : Int), ∃ (gI : Int → Int), ∃ (go : Int), ∃ (gb : Int), ∃ (gc : Int), ∃ (gB : Int → Int), ∃ (gH : Int → Int), (((0 ≤ b9 ∧ b9 < kT 1) ∧ (∃ D p V, mBest (kT 0) (kT 1 + kT 0 + 1) (kT 1) (mW (kT 0) (kT 1) kT) (fun d => 20 * kT (2 + d)) (mP kT) b9 D p V ∧ q = ltm (p) D un)) ∨ (¬ (0 ≤ b9 ∧ b9 < kT 1) ∧ q = -1)) ∧ v = some (Value.long (iL q)) ∧ w = wMod z mh xT xD xP xR xC xW xA xH xU xB xI xN xM xY xK xL xE xS 0 m_ca m_tp m_fa m_at m_wr m_va m_pl m_st gl gb gc go m_yl m_yw m_nu m_nl m_lu m_ll m_ln kT kD kP kR gC gW gA gH gU gB gI kN kM kY kK kL kE kS
abbrev rm_X10_without : Room := { frames := 6, cells := 0, slots := 0, locals := 152 }
set_option maxHeartbeats 4000000 in
set_option maxRecDepth 100000 in
theorem cc_X10_without (l : Launch) (z : zC) (mh : Nat) (xT : Nat) (xD : Nat) (xP : Nat) (xR : Nat) (xC : Nat) (xW : Nat) (xA : Nat) (xH : Nat) (xU : Nat) (xB : Nat) (xI : Nat) (xN : Nat) (xM : Nat) (xY : Nat) (xK : Nat) (xL : Nat) (xE : Nat) (xS : Nat) (m_ra : Int) (m_ca : Int) (m_tp : Int) (m_fa : Int) (m_at : Int) (m_wr : Int) (m_va : Int) (m_pl : Int) (m_st : Int) (m_lo : Int) (m_bl : Int) (m_bc : Int) (m_fo : Int) (m_yl : Int) (m_yw : Int) (m_nu : Int) (m_nl : Int) (m_lu : Int) (m_ll : Int) (m_ln : Int) (kT : Int → Int) (kD : Int → Int) (kP : Int → Int) (kR : Int → Int) (kC : Int → Int) (kW : Int → Int) (kA : Int → Int) (kH : Int → Int) (kU : Int → Int) (kB : Int → Int) (kI : Int → Int) (kN : Int → Int) (kM : Int → Int) (kY : Int → Int) (kK : Int → Int) (kL : Int → Int) (kE : Int → Int) (kS : Int → Int) (b9 : Int) (un : Int) (hkT : mOk kT) (hk2 : mOk2 kT) (hk3 : ∀ b : Int, 0 ≤ b → b < kT 1 → kT (12 + b) ≤ 20 ∧ kT (17 + b) ≤ 40) (hb9 : -2147483648 ≤ b9 ∧ b9 < 2147483648) (hun : un = 0 ∨ un = 1) : zzMet l yX10_without cX10_without 3 (Option.some .long) rm_X10_without z [.ref mh, .int (iI b9), .int (iI un)] (wMod z mh xT xD xP xR xC xW xA xH xU xB xI xN xM xY xK xL xE xS m_ra m_ca m_tp m_fa m_at m_wr m_va m_pl m_st m_lo m_bl m_bc m_fo m_yl m_yw m_nu m_nl m_lu m_ll m_ln kT kD kP kR kC kW kA kH kU kB kI kN kM kY kK kL kE kS) (po_X10_without z mh xT xD xP xR xC xW xA xH xU xB xI xN xM xY xK xL xE xS m_ra m_ca m_tp m_fa m_at m_wr m_va m_pl m_st m_lo m_bl m_bc m_fo m_yl m_yw m_nu m_nl m_lu m_ll m_ln kT kD kP kR kC kW kA kH kU kB kI kN kM kY kK kL kE kS b9 un) := by
  refine zzMet.of (own := RX10) (ls0 := [(0, .ref mh), (1, .int (iI b9)), (2, .int (iI un))]) (by decide) rfl (Nat.le_of_ble_eq_true rfl) rfl ?_
  intro p e s m below meth c A C hr hnm
  have hk0 := hkT.1
  have hk1 := hkT.2.1
  refine zz_aload_n C 0 dX10_without_0 rfl rfl ?_
  refine zz_iconst C dX10_without_1 ?_
  refine zz_put (ty := .int) (ws' := wMod z mh xT xD xP xR xC xW xA xH xU xB xI xN xM xY xK xL xE xS 0 m_ca m_tp m_fa m_at m_wr m_va m_pl m_st m_lo m_bl m_bc m_fo m_yl m_yw m_nu m_nl m_lu m_ll m_ln kT kD kP kR kC kW kA kH kU kB kI kN kM kY kK kL kE kS) C 0 (ci := 10) (k := 0) rfl rfl in_X10 tyX10 tyX10_ok nmX10 (by decide) qw_926 rfl rfl (by decide +kernel) rfl rfl (Nat.le_of_ble_eq_true rfl) rfl dX10_without_2 ?_
  refine zz_iload_n C 1 dX10_without_5 rfl rfl ?_
  refine zz_iconst C dX10_without_6 ?_
  refine zz_aload_n C 0 dX10_without_7 rfl rfl ?_
  refine zz_get C 0 (ci := 10) (k := 1) rfl rfl in_X10 (by decide) qw_927 rfl rfl dX10_without_8 ?_
  refine zz_iconst C dX10_without_11 ?_
  refine zz_iald C 1 rfl (by omega) (by omega) (by decide) dX10_without_12 ?_
  refine zz_iconst C dX10_without_13 ?_
  refine zz_isub C dX10_without_14 ?_
  refine zz_callS (wr := wMod z mh xT xD xP xR xC xW xA xH xU xB xI xN xM xY xK xL xE xS 0 m_ca m_tp m_fa m_at m_wr m_va m_pl m_st m_lo m_bl m_bc m_fo m_yl m_yw m_nu m_nl m_lu m_ll m_ln kT kD kP kR kC kW kA kH kU kB kI kN kM kY kK kL kE kS) (st := []) C (cc_X10_in l z b9 0 ((kT 1) - 1) (by omega) (by omega) (by omega)) yk_X10_in qw_1049 ⟨by decide, by decide⟩ [] [0, 1, 2, 3, 4, 5, 6, 7, 8, 9, 10, 11, 12, 13, 14, 15, 16, 17, 18] rfl rfl rfl rfl (by decide) rfl rfl (Nat.le_of_ble_eq_true rfl) dX10_without_15 ⟨by decide, by decide⟩ ?_
  rintro _ _ ⟨q_15, hq_15, rfl, rfl⟩
  refine zz_st (st' := [.int (iI q_15)]) rfl (zz_ws (ws' := wMod z mh xT xD xP xR xC xW xA xH xU xB xI xN xM xY xK xL xE xS 0 m_ca m_tp m_fa m_at m_wr m_va m_pl m_st m_lo m_bl m_bc m_fo m_yl m_yw m_nu m_nl m_lu m_ll m_ln kT kD kP kR kC kW kA kH kU kB kI kN kM kY kK kL kE kS) rfl ?_)
  refine zz_if_ne (tgt := 25) C dX10_without_18 (by decide) (by unfold rI; omega) (fun c18 => ?_) (fun c18 => ?_)
  · skip
    refine zz_aload_n C 0 dX10_without_25 rfl rfl ?_
    refine zz_iload_n C 1 dX10_without_26 rfl rfl ?_
    refine zz_callV (wr := ([] : va_W)) (st := []) C (cc_X10_finds l z mh xT xD xP xR xC xW xA xH xU xB xI xN xM xY xK xL xE xS 0 m_ca m_tp m_fa m_at m_wr m_va m_pl m_st m_lo m_bl m_bc m_fo m_yl m_yw m_nu m_nl m_lu m_ll m_ln kT kD kP kR kC kW kA kH kU kB kI kN kM kY kK kL kE kS b9 (by omega) (by omega) (by omega) (by omega)) yk_X10_finds qw_1188 ⟨by decide, by decide⟩ [0, 1, 2, 3, 4, 5, 6, 7, 8, 9, 10, 11, 12, 13, 14, 15, 16, 17, 18] [] rfl rfl rfl rfl (by decide) 0 10 rfl rfl rfl rfl (Nat.le_of_ble_eq_true rfl) dX10_without_27 ⟨by decide, by decide⟩ ?_
    rintro _ _ ⟨gW_27, gA_27, gC_27, gU_27, gl_27, gI_27, go_27, gb_27, gc_27, gB_27, gH_27, hb_27, rfl, rfl⟩
    refine zz_st (st' := []) rfl (zz_ws (ws' := wMod z mh xT xD xP xR xC xW xA xH xU xB xI xN xM xY xK xL xE xS 0 m_ca m_tp m_fa m_at m_wr m_va m_pl m_st gl_27 gb_27 gc_27 go_27 m_yl m_yw m_nu m_nl m_lu m_ll m_ln kT kD kP kR gC_27 gW_27 gA_27 gH_27 gU_27 gB_27 gI_27 kN kM kY kK kL kE kS) rfl ?_)
    have hb8 := hb_27.2.1
    have hb7 := hb_27.2.2.2.1
    refine zz_aload_n C 0 dX10_without_30 rfl rfl ?_
    refine zz_get C 0 (ci := 10) (k := 21) rfl rfl in_X10 (by decide) qw_947 rfl rfl dX10_without_31 ?_
    refine zz_aload_n C 0 dX10_without_34 rfl rfl ?_
    refine zz_get C 0 (ci := 10) (k := 20) rfl rfl in_X10 (by decide) qw_946 rfl rfl dX10_without_35 ?_
    refine zz_iload_n C 2 dX10_without_38 rfl rfl ?_
    refine zz_callS (wr := wMod z mh xT xD xP xR xC xW xA xH xU xB xI xN xM xY xK xL xE xS 0 m_ca m_tp m_fa m_at m_wr m_va m_pl m_st gl_27 gb_27 gc_27 go_27 m_yl m_yw m_nu m_nl m_lu m_ll m_ln kT kD kP kR gC_27 gW_27 gA_27 gH_27 gU_27 gB_27 gI_27 kN kM kY kK kL kE kS) (st := []) C (cc_X10_tells l z gc_27 gb_27 un (by omega) (by omega) (by omega)) yk_X10_tells qw_1233 ⟨by decide, by decide⟩ [] [0, 1, 2, 3, 4, 5, 6, 7, 8, 9, 10, 11, 12, 13, 14, 15, 16, 17, 18] rfl rfl rfl rfl (by decide) rfl rfl (Nat.le_of_ble_eq_true rfl) dX10_without_39 ⟨by decide, by decide⟩ ?_
    rintro _ _ ⟨rfl, rfl⟩
    refine zz_st (st' := [.long (iL (ltm gc_27 gb_27 un))]) rfl (zz_ws (ws' := wMod z mh xT xD xP xR xC xW xA xH xU xB xI xN xM xY xK xL xE xS 0 m_ca m_tp m_fa m_at m_wr m_va m_pl m_st gl_27 gb_27 gc_27 go_27 m_yl m_yw m_nu m_nl m_lu m_ll m_ln kT kD kP kR gC_27 gW_27 gA_27 gH_27 gU_27 gB_27 gI_27 kN kM kY kK kL kE kS) rfl ?_)
    exact zz_lret C hr dX10_without_42 ⟨_, gW_27, gA_27, gC_27, gU_27, gl_27, gI_27, go_27, gb_27, gc_27, gB_27, gH_27, Or.inl ⟨by omega, ⟨_, _, _, hb_27, rfl⟩⟩, rfl, rfl⟩
  · skip
    refine zz_ldc2 (a := (-1)) C qw_1150 (by decide +kernel) dX10_without_21 ?_
    exact zz_lret C hr dX10_without_24 ⟨_, kW, kA, kC, kU, m_lo, kI, m_fo, m_bl, m_bc, kB, kH, Or.inr ⟨by omega, rfl⟩, rfl, rfl⟩
