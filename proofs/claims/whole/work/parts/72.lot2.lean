theorem grwN_head (g : Int → Int) (a : Int) : ∀ n : Nat, grwN g a (n + 1) = g (a + 1) * grwN g (a + 1) n
  | 0 => by show 1 * g (a + ((0 : Nat) : Int) + 1) = g (a + 1) * 1; rw [show a + ((0 : Nat) : Int) + 1 = a + 1 by omega]; omega
  | n + 1 => by
    show grwN g a (n + 1) * g (a + ((n + 1 : Nat) : Int) + 1) = g (a + 1) * (grwN g (a + 1) n * g (a + 1 + (n : Int) + 1))
    rw [grwN_head g a n, show a + ((n + 1 : Nat) : Int) + 1 = a + 1 + (n : Int) + 1 by omega, Int.mul_assoc]
theorem grw_head (g : Int → Int) {a b : Int} (h : a < b) : grw g a b = g (a + 1) * grw g (a + 1) b := by
  unfold grw
  rw [show (b - a).toNat = (b - (a + 1)).toNat + 1 by omega, grwN_head]
def lotW (G : Int → Int) (T d : Int) : Int := p20 d * grw G d T
def lOf (G O : Int → Int) (T d : Int) : Int := zsum (fun k => lotW G T (k + 1) * O (k + 1)) d
def lYf (G : Int → Int) (y : Int → Int → Int) (T b d : Int) : Int := zsum (fun k => lotW G T (k + 1) * y b (k + 1)) d
def lPf (G pr : Int → Int) (T b : Int) : Int := grw G 0 T * pr b
theorem lotW_step {G : Int → Int} {T d w : Int} (d0 : 1 ≤ d) (d1 : d ≤ T) (hG : 1 ≤ G d) (hw : w = lotW G T (d - 1)) : w.tdiv (G d) * 20 = lotW G T d := by
  unfold lotW at hw ⊢
  have e := grw_head G (a := d - 1) (b := T) (by omega)
  rw [show d - 1 + 1 = d by omega] at e
  rw [hw, e, show p20 (d - 1) * (G d * grw G d T) = G d * (p20 (d - 1) * grw G d T) by grind, Int.mul_tdiv_cancel_left _ (by omega), ← p20_pred d0]
  grind
theorem lotW_rng {G : Int → Int} {T : Int} (h4 : T ≤ 4) (hG : ∀ i : Int, 20 ≤ G i ∧ G i ≤ 26) {d : Int} (d0 : 0 ≤ d) (d1 : d ≤ T) : 1 ≤ lotW G T d ∧ lotW G T d ≤ grw G 0 T ∧ grw G 0 T ≤ 456976 := by
  have s := carr_rng hG (a := 0) (j := T) (by omega) (by omega) h4
  rw [p20_0, Int.one_mul] at s
  have k : ∀ n : Nat, (n : Int) ≤ T → lotW G T (n : Int) ≤ grw G 0 T := by
    intro n
    induction n with
    | zero => intro _; show p20 0 * grw G 0 T ≤ _; rw [p20_0, Int.one_mul]; omega
    | succ n ih =>
      intro hn
      have a := ih (by omega)
      have e := grw_head G (a := (n : Int)) (b := T) (by omega)
      have c := carr_rng hG (a := (n : Int) + 1) (j := T) (by omega) (by omega) h4
      refine Int.le_trans ?_ a
      rw [show ((n + 1 : Nat) : Int) = (n : Int) + 1 by omega]
      unfold lotW
      rw [p20_succ (by omega), e, Int.mul_assoc]
      refine Int.mul_le_mul_of_nonneg_left ?_ (by unfold p20; exact Int.le_of_lt (Int.pow_pos (by omega)))
      refine Int.mul_le_mul_of_nonneg_right (hG _).1 ?_
      by_cases q : 0 ≤ grw G ((n : Int) + 1) T
      · exact q
      · have p : 0 < p20 ((n : Int) + 1) := by unfold p20; exact Int.pow_pos (by omega)
        have := Int.mul_neg_of_pos_of_neg p (show grw G ((n : Int) + 1) T < 0 by omega)
        omega
  have a := carr_rng hG (a := d) (j := T) d0 d1 h4
  have b := k d.toNat (by omega)
  rw [Int.toNat_of_nonneg d0] at b
  exact ⟨a.1, b, s.2⟩
theorem lO_rng {G O : Int → Int} {T : Int} (h4 : T ≤ 4) (hG : ∀ i : Int, 20 ≤ G i ∧ G i ≤ 26) {M : Int} (hM : 0 ≤ M) (hO : ∀ d : Int, 1 ≤ d → d ≤ T → 0 ≤ O d ∧ O d ≤ M) {d : Int} (d0 : 0 ≤ d) (d1 : d ≤ T) : 0 ≤ zsum (fun k => lotW G T (k + 1) * O (k + 1)) d ∧ zsum (fun k => lotW G T (k + 1) * O (k + 1)) d ≤ 4 * (grw G 0 T * M) := by
  have := zsum_rng2 (f := fun k => lotW G T (k + 1) * O (k + 1)) (lo := 0) (hi := grw G 0 T * M) d0 (fun k k0 k1 => by
    have a := lotW_rng h4 hG (d := k + 1) (by omega) (by omega)
    exact mul_pos_rng ⟨by omega, a.2.1⟩ (hO (k + 1) (by omega) (by omega)))
  have a := lotW_rng h4 hG (d := d) d0 d1
  have p : 0 ≤ grw G 0 T * M := Int.mul_nonneg (by omega) hM
  have q : d * (grw G 0 T * M) ≤ 4 * (grw G 0 T * M) := Int.mul_le_mul_of_nonneg_right (by omega) p
  omega
theorem rdw_step {G f : Int → Int} {T d v w : Int} (d0 : 1 ≤ d) (hw : w = lotW G T d) (hv : v = zsum (fun k => lotW G T (k + 1) * f (k + 1)) (d - 1)) : v + w * f d = zsum (fun k => lotW G T (k + 1) * f (k + 1)) d := by
  have e := zsum_succ (fun k => lotW G T (k + 1) * f (k + 1)) (k := d - 1) (by omega)
  rw [show d - 1 + 1 = d by omega] at e
  rw [e, hv, hw]
theorem lY_mono {G : Int → Int} {y : Int → Int → Int} {T b : Int} (h4 : T ≤ 4) (hG : ∀ i : Int, 20 ≤ G i ∧ G i ≤ 26) (hy : ∀ d : Int, 1 ≤ d → d ≤ T → 0 ≤ y b d) {d : Int} (d0 : 1 ≤ d) (d1 : d ≤ T) : lYf G y T b d ≤ lYf G y T b T := by
  have key : ∀ n : Nat, d + (n : Int) ≤ T → lYf G y T b d ≤ lYf G y T b (d + (n : Int)) := by
    intro n
    induction n with
    | zero => intro _; rw [show d + ((0 : Nat) : Int) = d by omega]; omega
    | succ n ih =>
      intro hn
      have a := ih (by omega)
      have e : lYf G y T b (d + (n : Int) + 1) = lYf G y T b (d + (n : Int)) + lotW G T (d + (n : Int) + 1) * y b (d + (n : Int) + 1) := zsum_succ _ (by omega)
      have w := lotW_rng h4 hG (d := d + (n : Int) + 1) (by omega) (by omega)
      have p := Int.mul_nonneg (show 0 ≤ lotW G T (d + (n : Int) + 1) by omega) (hy (d + (n : Int) + 1) (by omega) (by omega))
      rw [show d + ((n + 1 : Nat) : Int) = d + (n : Int) + 1 by omega]
      omega
  have := key (T - d).toNat (by omega)
  rwa [show d + ((T - d).toNat : Int) = T by omega] at this
theorem cstF_congr {T B : Int} {p p' o o' : Int → Int} {y y' : Int → Int → Int} {m : Int → Int} (hp : ∀ c : Int, 0 ≤ c → c < B → p c = p' c) (ho : ∀ d : Int, 1 ≤ d → d ≤ T → o d = o' d) (hy : ∀ c d : Int, 0 ≤ c → c < B → 1 ≤ d → d ≤ T → y c d = y' c d) : cstF T B p o y m = cstF T B p' o' y' m ∧ spF p m B = spF p' m B := by
  have a : spF p m B = spF p' m B := zsum_congr (fun c c0 c1 => by show m c * p c = m c * p' c; rw [hp c c0 c1])
  refine ⟨?_, a⟩
  unfold cstF
  rw [a, mx_congr (fun d d0 d1 => by
    show owF o y m B d = owF o' y' m B d
    unfold owF
    rw [ho d d0 d1, zsum_congr (g := fun c => m c * y' c d) (fun c c0 c1 => by show m c * y c d = m c * y' c d; rw [hy c d c0 c1 d0 d1])])]
theorem cstF_m {T B : Int} {p o : Int → Int} {y : Int → Int → Int} {m m' : Int → Int} (h : agr B m m') : cstF T B p o y m = cstF T B p o y m' ∧ spF p m B = spF p m' B := by
  refine ⟨?_, spF_agr h⟩
  unfold cstF
  rw [spF_agr h, mx_congr (fun d _ _ => owF_agr h)]
theorem lotO_congr {T B : Int} {p p' l l' o o' : Int → Int} {y y' : Int → Int → Int} {m m' : Int → Int} (hp : ∀ c : Int, 0 ≤ c → c < B → p c = p' c) (hl : ∀ c : Int, 0 ≤ c → c < B → l c = l' c) (ho : ∀ d : Int, 1 ≤ d → d ≤ T → o d = o' d) (hy : ∀ c d : Int, 0 ≤ c → c < B → 1 ≤ d → d ≤ T → y c d = y' c d) (hm : agr B m m') (h : lotO T B p l o y m) : lotO T B p' l' o' y' m' := by
  refine ⟨fun c c0 c1 => by rw [← hm c c0 c1, ← hl c c0 c1]; exact h.1 c c0 c1, fun m2 h2 => ?_⟩
  have k := h.2 m2 (fun c c0 c1 => by rw [hl c c0 c1]; exact h2 c c0 c1)
  rw [(cstF_congr (m := m) hp ho hy).1, (cstF_congr (m := m2) hp ho hy).1, (cstF_m hm).1] at k
  refine ⟨k.1, fun x => k.2 ?_⟩
  obtain ⟨j, j0, j1, j2, j3⟩ := x
  exact ⟨j, j0, j1, fun c c0 c1 => (j2 c c0 c1).trans (hm c c0 (by omega)).symm, by rw [hm j j0 j1]; exact j3⟩
def lotOk (pd pb : Int) (fP fR fT : Int → Int) (sc ch at' : Int) (C : Int → Int) : Prop := (sc = grw (plG pd fR) 0 pd ∧ 1 ≤ sc ∧ sc ≤ 456976) ∧ lotO pd pb (lPf (plG pd fR) (fun b => plTerm pb fT b 3) pd) (fun b => plTerm pb fT b 4) (lOf (plG pd fR) (plAt pd fP) pd) (lYf (plG pd fR) (plYield pb fT) pd) C ∧ (ch = cstF pd pb (lPf (plG pd fR) (fun b => plTerm pb fT b 3) pd) (lOf (plG pd fR) (plAt pd fP) pd) (lYf (plG pd fR) (plYield pb fT) pd) C ∧ at' = ch - spF (lPf (plG pd fR) (fun b => plTerm pb fT b 3) pd) C pb) ∧ (0 ≤ ch ∧ ch ≤ 5849292800) ∧ (0 ≤ at' ∧ at' ≤ 800 * sc)
def plOk2 (pb : Int) (fT : Int → Int) : Prop := ∀ b : Int, 0 ≤ b → b < pb → fT (b * 7 + 4) ≤ 12
theorem plM_12 {pb : Int} {fT : Int → Int} (hT : ∀ i : Int, 0 ≤ fT i ∧ fT i ≤ 200) (h : plOk2 pb fT) (b : Int) : 0 ≤ plTerm pb fT b 4 ∧ plTerm pb fT b 4 ≤ 12 := by
  unfold plTerm
  split
  · rename_i q; exact ⟨(hT _).1, h b q.1 q.2.1⟩
  · omega
/-- what is read of a plan -/
def rdOk (pd pb : Int) (fP fR fT : Int → Int) (sc : Int) (uP uL uN : Int → Int) (uY uO : Int → Int → Int) : Prop := sc = grw (plG pd fR) 0 pd ∧ (∀ b : Int, 0 ≤ b → b < pb → uP b = lPf (plG pd fR) (fun b => plTerm pb fT b 3) pd b ∧ (uL b = if uP b < uY b pd then plTerm pb fT b 4 else 0) ∧ uN b = 0) ∧ (∀ b d : Int, 0 ≤ b → b < pb → 1 ≤ d → d ≤ pd → uY b d = lYf (plG pd fR) (plYield pb fT) pd b d) ∧ ∀ d : Int, 1 ≤ d → d ≤ pd → uO 0 d = lOf (plG pd fR) (plAt pd fP) pd d
theorem rd_lSt {pd pb sc : Int} {fP fR fT uP uL uN : Int → Int} {uY uO uS : Int → Int → Int} (hd : 1 ≤ pd ∧ pd ≤ 4) (hb : 0 ≤ pb ∧ pb ≤ 5) (hP : ∀ i : Int, 0 ≤ fP i ∧ fP i ≤ 200) (hR : ∀ i : Int, 0 ≤ fR i ∧ fR i ≤ 6) (hT : ∀ i : Int, 0 ≤ fT i ∧ fT i ≤ 200) (hok : plOk pb fT) (hok2 : plOk2 pb fT) (h : rdOk pd pb fP fR fT sc uP uL uN uY uO) (hs : savR pd pb uP uL uY uS) : lSt pd pb uP uL (lOf (plG pd fR) (plAt pd fP) pd) uY uS := by
  have g := plG_rng pd hR
  have w := lotW_rng hd.2 g (d := 0) (by omega) (by omega)
  refine ⟨⟨hd, hb⟩, fun b b0 b1 => ?_, fun b d b0 b1 d0 d1 => ?_, fun d d0 d1 => ?_, hs⟩
  · obtain ⟨a1, a2, -⟩ := h.2.1 b b0 b1
    refine ⟨?_, ?_⟩
    · rw [a1]
      unfold lPf
      exact mul_pos_rng (A := 456976) (B := 200) (by omega) (plTerm_rng pb hT b 3)
    · rw [a2]
      have := plM_12 hT hok2 b
      split <;> omega
  · rw [h.2.2.1 b d b0 b1 d0 d1]
    have a := lO_rng (O := plYield pb fT b) hd.2 g (M := 60) (by omega) (fun d _ _ => ⟨(plY_60 hT hok b d).1, (plY_60 hT hok b d).2.1⟩) (d := d) (by omega) d1
    unfold lYf
    omega
  · have a := lO_rng (O := plAt pd fP) hd.2 g (M := 200) (by omega) (fun d _ _ => plAt_rng hP d) (d := d) (by omega) d1
    unfold lOf
    omega
theorem lot_end {pd pb sc ch at' ch1 at1 : Int} {fP fR fT uP uL uN C C1 : Int → Int} {uY uO uS : Int → Int → Int} (hd : 1 ≤ pd ∧ pd ≤ 4) (hb : 0 ≤ pb ∧ pb ≤ 5) (hP : ∀ i : Int, 0 ≤ fP i ∧ fP i ≤ 200) (hR : ∀ i : Int, 0 ≤ fR i ∧ fR i ≤ 6) (hT : ∀ i : Int, 0 ≤ fT i ∧ fT i ≤ 200) (hok : plOk pb fT) (hok2 : plOk2 pb fT) (h : rdOk pd pb fP fR fT sc uP uL uN uY uO) (hs : savR pd pb uP uL uY uS) (hc : ch = 9223372036854775807) (hr : sRes pd 0 pb uP uL (lOf (plG pd fR) (plAt pd fP) pd) uY uN (fun _ => True) ch at' C ch1 at1 C1) : lotOk pd pb fP fR fT sc ch1 at1 C1 := by
  have hl := rd_lSt hd hb hP hR hT hok hok2 h hs
  have g := plG_rng pd hR
  have w := lotW_rng hd.2 g (d := 0) (by omega) (by omega)
  have cr : ∀ m, bxd pb uL m → 0 ≤ cstF pd pb uP (lOf (plG pd fR) (plAt pd fP) pd) uY m ∧ cstF pd pb uP (lOf (plG pd fR) (plAt pd fP) pd) uY m ≤ 5849292800 := fun m hm => by
    have := lst_rng hl (b := pb) hb.1 (by omega) hm
    rw [lst_cost hs] at this
    exact this
  rcases hr with ⟨-, -, -, a⟩ | ⟨-, m, a, -, b, c, d, e⟩
  · have z := a uN ⟨fun _ _ _ => rfl, fun c c0 c1 => by have := (h.2.1 c c0 c1).2.2; have := (hl.2.1 c c0 c1).2; omega⟩ trivial
    have z2 := cr uN (fun c c0 c1 => by have := (h.2.1 c c0 c1).2.2; have := (hl.2.1 c c0 c1).2; omega)
    omega
  · have o1 : lotO pd pb uP uL (lOf (plG pd fR) (plAt pd fP) pd) uY m := ⟨a.2, fun m' hm => by have := e m' ⟨fun c c0 c1 => by omega, hm⟩ trivial; rw [b] at this; exact this⟩
    have hp : ∀ c : Int, 0 ≤ c → c < pb → uP c = lPf (plG pd fR) (fun b => plTerm pb fT b 3) pd c := fun c c0 c1 => (h.2.1 c c0 c1).1
    have hy := h.2.2.1
    have hyn : ∀ b : Int, ∀ d : Int, 1 ≤ d → d ≤ pd → 0 ≤ plYield pb fT b d := fun b d _ _ => (plY_60 hT hok b d).1
    have o2 : lotO pd pb uP (fun b => plTerm pb fT b 4) (lOf (plG pd fR) (plAt pd fP) pd) uY m := by
      refine lotO_pays hd.1 (fun b b0 b1 => ⟨(plM_12 hT hok2 b).1, ?_⟩) (fun b b0 b1 => (hl.2.1 b b0 b1).1.1) (fun b d b0 b1 d0 d1 => ?_) o1
      · have q := (h.2.1 b b0 b1).2.1
        by_cases z : uP b < uY b pd
        · rw [if_pos z] at q; exact Or.inl ⟨z, q⟩
        · rw [if_neg z] at q; exact Or.inr ⟨z, q⟩
      · rw [hy b d b0 b1 d0 d1, hy b pd b0 b1 hd.1 (by omega)]
        exact lY_mono hd.2 g (hyn b) d0 d1
    have ag : agr pb m C1 := fun c c0 c1 => (d c c0 c1).symm
    have o3 := lotO_congr hp (fun _ _ _ => rfl) (fun _ _ _ => rfl) hy ag o2
    have c1 := cstF_congr (m := m) hp (fun d (_ : 1 ≤ d) (_ : d ≤ pd) => (rfl : lOf (plG pd fR) (plAt pd fP) pd d = lOf (plG pd fR) (plAt pd fP) pd d)) hy
    have c2 := cstF_m (T := pd) (p := lPf (plG pd fR) (fun b => plTerm pb fT b 3) pd) (o := lOf (plG pd fR) (plAt pd fP) pd) (y := lYf (plG pd fR) (plYield pb fT) pd) ag
    have r := cr m a.2
    have hsc := h.1
    refine ⟨⟨hsc, by omega, by omega⟩, o3, ⟨by rw [b, c1.1, c2.1], by rw [c, b, c1.2, c2.2]⟩, by omega, ?_⟩
    rw [c]
    unfold cstF
    have ms := mx_spec (fun d => owF (lOf (plG pd fR) (plAt pd fP) pd) uY m pb d) pd
    have mu : mx (fun d => owF (lOf (plG pd fR) (plAt pd fP) pd) uY m pb d) pd ≤ 800 * sc := mx_le (by omega) (fun d d0 d1 => by
      have x := lO_rng (O := plAt pd fP) hd.2 g (M := 200) (by omega) (fun d _ _ => plAt_rng hP d) (d := d) (by omega) d1
      have y := lots_rng (f := fun c => uY c d) (M := 109674240) hb.1 (by omega) hb.2 (by omega) a.2 (fun c c0 c1 => (hl.2.1 c c0 c1).2.2) (fun c c0 c1 => hl.2.2.1 c d c0 c1 d0 d1)
      have y' : 0 ≤ zsum (fun c => m c * uY c d) pb := y.1
      have x' : lOf (plG pd fR) (plAt pd fP) pd d ≤ 4 * (grw (plG pd fR) 0 pd * 200) := x.2
      show lOf (plG pd fR) (plAt pd fP) pd d - zsum (fun c => m c * uY c d) pb ≤ _
      omega)
    omega
theorem sav_step {T B k j : Int} {p l : Int → Int} {y s g : Int → Int → Int} (h : (∀ d : Int, 1 ≤ d → d ≤ T → g B d = 0) ∧ (∀ b d : Int, k < b → b < B → 1 ≤ d → d ≤ T → g b d = g (b + 1) d + l b * max 0 (y b d - p b)) ∧ ∀ d : Int, 1 ≤ d → d < j → g k d = g (k + 1) d + l k * max 0 (y k d - p k)) (hk : 0 ≤ k ∧ k < B) (_ : s = s) : (∀ d : Int, 1 ≤ d → d ≤ T → zup2 g k j (g (k + 1) j + l k * max 0 (y k j - p k)) B d = 0) ∧ (∀ b d : Int, k < b → b < B → 1 ≤ d → d ≤ T → zup2 g k j (g (k + 1) j + l k * max 0 (y k j - p k)) b d = zup2 g k j (g (k + 1) j + l k * max 0 (y k j - p k)) (b + 1) d + l b * max 0 (y b d - p b)) ∧ ∀ d : Int, 1 ≤ d → d < j + 1 → zup2 g k j (g (k + 1) j + l k * max 0 (y k j - p k)) k d = zup2 g k j (g (k + 1) j + l k * max 0 (y k j - p k)) (k + 1) d + l k * max 0 (y k d - p k) := by
  refine ⟨fun d d0 d1 => ?_, fun b d b0 b1 d0 d1 => ?_, fun d d0 d1 => ?_⟩
  · rw [zup2_ne (by omega)]; exact h.1 d d0 d1
  · rw [zup2_ne (by omega), zup2_ne (by omega)]; exact h.2.1 b d b0 b1 d0 d1
  · rw [zup2_ne (a := k + 1) (by omega)]
    by_cases e : d = j
    · rw [e, zup2_eq]
    · rw [zup2_ne (by omega)]; exact h.2.2 d d0 (by omega)
theorem rdp_step {G : Int → Int} {pr mo : Int → Int} {T b s v : Int} {gP gL gN : Int → Int} {y : Int → Int → Int} (h : ∀ c : Int, 0 ≤ c → c < b → gP c = lPf G pr T c ∧ (gL c = if gP c < y c T then mo c else 0) ∧ gN c = 0) (hs : s * pr b = lPf G pr T b) (hv : v = if s * pr b < y b T then mo b else 0) : ∀ c : Int, 0 ≤ c → c < b + 1 → zup gP b (s * pr b) c = lPf G pr T c ∧ (zup gL b v c = if zup gP b (s * pr b) c < y c T then mo c else 0) ∧ zup gN b 0 c = 0 := by
  intro c c0 c1
  by_cases e : c = b
  · subst e
    rw [zup_eq, zup_eq, zup_eq]
    exact ⟨hs, hv, rfl⟩
  · rw [zup_ne e, zup_ne e, zup_ne e]
    exact h c c0 (by omega)
theorem rd_k {pd pb sc : Int} {fP fR fT uP uL uN : Int → Int} {uY uO : Int → Int → Int} (hd : 1 ≤ pd ∧ pd ≤ 4) (hb : 0 ≤ pb ∧ pb ≤ 5) (hP : ∀ i : Int, 0 ≤ fP i ∧ fP i ≤ 200) (hR : ∀ i : Int, 0 ≤ fR i ∧ fR i ≤ 6) (hT : ∀ i : Int, 0 ≤ fT i ∧ fT i ≤ 200) (hok : plOk pb fT) (hok2 : plOk2 pb fT) (h : rdOk pd pb fP fR fT sc uP uL uN uY uO) {b d : Int} (b0 : 0 ≤ b) (b1 : b < pb) (d0 : 1 ≤ d) (d1 : d ≤ pd) : (0 ≤ uP b ∧ uP b ≤ 91395200) ∧ (0 ≤ uL b ∧ uL b ≤ 12) ∧ (0 ≤ uY b d ∧ uY b d ≤ 109674240) := by
  have hs : savR pd pb uP uL uY (fun b d => (fun n : Nat => Nat.rec (motive := fun _ => Int) 0 (fun k r => r + uL (pb - ((k : Int) + 1)) * max 0 (uY (pb - ((k : Int) + 1)) d - uP (pb - ((k : Int) + 1)))) n) (pb - b).toNat) := by
    refine ⟨fun d _ _ => ?_, fun b d b0 b1 _ _ => ?_⟩
    · show Nat.rec (motive := fun _ => Int) 0 _ (pb - pb).toNat = 0
      rw [Int.sub_self]; rfl
    · show Nat.rec (motive := fun _ => Int) 0 _ (pb - b).toNat = Nat.rec (motive := fun _ => Int) 0 _ (pb - (b + 1)).toNat + _
      rw [show (pb - b).toNat = (pb - (b + 1)).toNat + 1 by omega]
      show _ + uL (pb - (((pb - (b + 1)).toNat : Int) + 1)) * max 0 (uY (pb - (((pb - (b + 1)).toNat : Int) + 1)) d - uP (pb - (((pb - (b + 1)).toNat : Int) + 1))) = _
      rw [show pb - (((pb - (b + 1)).toNat : Int) + 1) = b by omega]
  have l := rd_lSt hd hb hP hR hT hok hok2 h hs
  exact ⟨(l.2.1 b b0 b1).1, (l.2.1 b b0 b1).2, l.2.2.1 b d b0 b1 d0 d1⟩

abbrev po_X5_readDates (z : zC) (vh : Nat) (vc : Nat) (vp : Nat) (vl : Nat) (vy : Nat) (vs : Nat) (vo : Nat) (vt : Nat) (vn : Nat) (rY : Int → Nat) (rS : Int → Nat) (rO : Int → Nat) (vsc : Int) (vch : Int) (vat : Int) (uC : Int → Int) (uP : Int → Int) (uL : Int → Int) (uT : Int → Int) (uN : Int → Int) (uY : Int → Int → Int) (uS : Int → Int → Int) (uO : Int → Int → Int) (ph : Nat) (pa : Nat) (pr : Nat) (pt : Nat) (pd : Int) (pb : Int) (fP : Int → Int) (fR : Int → Int) (fT : Int → Int) : Option Value → va_W → Prop := fun v w => ∃ (gY : Int → Int → Int), ∃ (gO : Int → Int → Int), (∀ b d : Int, 0 ≤ b → b < pb → 1 ≤ d → d < pd + 1 → gY b d = lYf (plG pd fR) (plYield pb fT) pd b d) ∧ (∀ d : Int, 1 ≤ d → d < pd + 1 → gO 0 d = lOf (plG pd fR) (plAt pd fP) pd d) ∧ v = none ∧ w = (wLot z vh vc vp vl vy vs vo vt vn rY rS rO vsc vch vat pd pb uC uP uL uT uN gY uS gO) ++ (wPlan z ph pa pr pt pd pb fP fR fT)
abbrev rm_X5_readDates : Room := { frames := 4, cells := 0, slots := 0, locals := 108 }
set_option maxHeartbeats 4000000 in
set_option maxRecDepth 100000 in
theorem cc_X5_readDates (l : Launch) (z : zC) (vh : Nat) (vc : Nat) (vp : Nat) (vl : Nat) (vy : Nat) (vs : Nat) (vo : Nat) (vt : Nat) (vn : Nat) (rY : Int → Nat) (rS : Int → Nat) (rO : Int → Nat) (vsc : Int) (vch : Int) (vat : Int) (uC : Int → Int) (uP : Int → Int) (uL : Int → Int) (uT : Int → Int) (uN : Int → Int) (uY : Int → Int → Int) (uS : Int → Int → Int) (uO : Int → Int → Int) (ph : Nat) (pa : Nat) (pr : Nat) (pt : Nat) (pd : Int) (pb : Int) (fP : Int → Int) (fR : Int → Int) (fT : Int → Int) (hpd : 1 ≤ pd ∧ pd ≤ 4) (hpb : 0 ≤ pb ∧ pb ≤ 5) (hfP : ∀ i : Int, 0 ≤ fP i ∧ fP i ≤ 200) (hfR : ∀ i : Int, 0 ≤ fR i ∧ fR i ≤ 6) (hfT : ∀ i : Int, 0 ≤ fT i ∧ fT i ≤ 200) (hok : plOk pb fT) (hok2 : plOk2 pb fT) (hsc : vsc = grw (plG pd fR) 0 pd) : zzMet l yX5_readDates cX5_readDates 9 none rm_X5_readDates z [.ref vh, .ref ph] ((wLot z vh vc vp vl vy vs vo vt vn rY rS rO vsc vch vat pd pb uC uP uL uT uN uY uS uO) ++ (wPlan z ph pa pr pt pd pb fP fR fT)) (po_X5_readDates z vh vc vp vl vy vs vo vt vn rY rS rO vsc vch vat uC uP uL uT uN uY uS uO ph pa pr pt pd pb fP fR fT) := by
  refine zzMet.of (own := RX5) (ls0 := [(0, .ref vh), (1, .ref ph)]) (by decide) rfl (Nat.le_of_ble_eq_true rfl) rfl ?_
  intro p e s m below meth c A C hr hnm
  have hg := plG_rng pd hfR
  refine zz_aload_n C 0 dX5_readDates_0 rfl rfl ?_
  refine zz_get C 0 (ci := 5) (k := 0) rfl rfl in_X5 (by decide) qw_215 rfl rfl dX5_readDates_1 ?_
  refine zz_lstore_n (ls' := [(2, .long (iL vsc)), (0, .ref vh), (1, .ref ph)]) C dX5_readDates_4 rfl (by decide) rfl ?_
  refine zz_iconst C dX5_readDates_5 ?_
  refine zz_istore (ls' := [(4, .int (iI 1)), (2, .long (iL vsc)), (0, .ref vh), (1, .ref ph)]) C dX5_readDates_6 (by decide) rfl ?_
  have Lp8 : ∀ (fu9 : Nat) (d9 : Int) (w9 : Int) (gO : Int → Int → Int) (gY : Int → Int → Int), (1 ≤ d9 ∧ d9 ≤ pd + 1) → (w9 = lotW (plG pd fR) pd (d9 - 1)) → (∀ b d : Int, 0 ≤ b → b < pb → 1 ≤ d → d < d9 → gY b d = lYf (plG pd fR) (plYield pb fT) pd b d) → (∀ d : Int, 1 ≤ d → d < d9 → gO 0 d = lOf (plG pd fR) (plAt pd fP) pd d) → (pd + 1 - d9).toNat < fu9 → zzW p l e rm_X5_readDates s m ([.ref vh, .ref ph] : List Value).toArray below meth c z A 9 (MQ below (zQ z A (po_X5_readDates z vh vc vp vl vy vs vo vt vn rY rS rO vsc vch vat uC uP uL uT uN uY uS uO ph pa pr pt pd pb fP fR fT)) ([.ref vh, .ref ph] : List Value).toArray s 0 0 A) 0 0 ((wLot z vh vc vp vl vy vs vo vt vn rY rS rO vsc vch vat pd pb uC uP uL uT uN gY uS gO) ++ (wPlan z ph pa pr pt pd pb fP fR fT)) [(0, .ref vh), (1, .ref ph), (2, .long (iL w9)), (4, .int (iI d9))] [] 8 := by
    intro fu9
    induction fu9 with
    | zero => intro d9 w9 gO gY hd9 hw9 hY hO h9; exact absurd h9 (Nat.not_lt_zero _)
    | succ fu9 ih8 =>
      intro d9 w9 gO gY hd9 hw9 hY hO hm8
      refine zz_iload C 3 dX5_readDates_8 rfl ?_
      refine zz_aload_n C 0 dX5_readDates_10 rfl rfl ?_
      refine zz_get C 0 (ci := 5) (k := 4) rfl rfl in_X5 (by decide) qw_223 rfl rfl dX5_readDates_11 ?_
      refine zz_icmp_gt (tgt := 156) C dX5_readDates_14 (by decide) (by unfold rI; omega) (by unfold rI; omega) (fun c14 => ?_) (fun c14 => ?_)
      · skip
        exact zz_vret C hr dX5_readDates_156 ⟨gY, gO, fun b d h0 h1 h2 h3 => hY b d h0 h1 h2 (by omega), fun d h2 h3 => hO d h2 (by omega), rfl, rfl⟩
      · skip
        refine zz_aload_n C 1 dX5_readDates_17 rfl rfl ?_
        refine zz_iload C 3 dX5_readDates_18 rfl ?_
        refine zz_callV (wr := wLot z vh vc vp vl vy vs vo vt vn rY rS rO vsc vch vat pd pb uC uP uL uT uN gY uS gO) (st := []) C (cc_X6_growth l z ph pa pr pt pd pb fP fR fT d9 (by omega) (by omega) (by omega)) yk_X6_growth qw_764 ⟨by decide, by decide⟩ [26, 27, 28, 29] [0, 1, 2, 3, 4, 5, 6, 7, 8, 9, 10, 11, 12, 13, 14, 15, 16, 17, 18, 19, 20, 21, 22, 23, 24, 25] rfl rfl rfl rfl (by decide) 0 6 rfl rfl rfl rfl (Nat.le_of_ble_eq_true rfl) dX5_readDates_20 ⟨by decide, by decide⟩ ?_
        rintro _ _ ⟨rfl, rfl⟩
        refine zz_st (st' := [.int (iI (20 + plAt pd fR d9))]) rfl (zz_ws (ws' := (wLot z vh vc vp vl vy vs vo vt vn rY rS rO vsc vch vat pd pb uC uP uL uT uN gY uS gO) ++ (wPlan z ph pa pr pt pd pb fP fR fT)) rfl ?_)
        have hg9 := hg d9
        have hge : plG pd fR d9 = 20 + plAt pd fR d9 := rfl
        have hwr := lotW_rng hpd.2 hg (d := d9 - 1) (by omega) (by omega)
        have hw8 : w9.tdiv (20 + plAt pd fR d9) * 20 = lotW (plG pd fR) pd d9 := lotW_step (G := plG pd fR) hd9.1 (by omega) (by omega) hw9
        refine zz_istore (ls' := [(5, .int (iI (20 + plAt pd fR d9))), (0, .ref vh), (1, .ref ph), (2, .long (iL w9)), (4, .int (iI d9))]) C dX5_readDates_23 (by decide) rfl ?_
        refine zz_iload C 0 dX5_readDates_25 rfl ?_
        refine zz_if_ne (tgt := 34) C dX5_readDates_27 (by decide) (by unfold rI; omega) (fun c27 => ?_) (fun c27 => ?_)
        · skip
          refine zz_lload_n C 3 dX5_readDates_34 rfl rfl ?_
          refine zz_iload C 0 dX5_readDates_35 rfl ?_
          refine zz_i2l C dX5_readDates_37 (by unfold rI; omega) ?_
          refine zz_ldiv C dX5_readDates_38 (by unfold rL; omega) (by unfold rL; omega) (by omega) (by omega) ?_
          refine zz_ldc2 (a := 20) C qw_769 (by decide +kernel) dX5_readDates_39 ?_
          refine zz_lmul C dX5_readDates_42 ?_
          refine zz_lstore_n (ls' := [(2, .long (iL ((w9.tdiv (20 + plAt pd fR d9)) * 20))), (5, .int (iI (20 + plAt pd fR d9))), (0, .ref vh), (1, .ref ph), (4, .int (iI d9))]) C dX5_readDates_43 rfl (by decide) rfl ?_
          refine zz_aload_n C 2 dX5_readDates_44 rfl rfl ?_
          refine zz_get C 0 (ci := 5) (k := 10) rfl rfl in_X5 (by decide) qw_229 rfl rfl dX5_readDates_45 ?_
          refine zz_iconst C dX5_readDates_48 ?_
          refine zz_qald C 6 rfl (by omega) (by omega) (by decide) dX5_readDates_49 ?_
          refine zz_iload C 4 dX5_readDates_50 rfl ?_
          refine zz_iload C 4 dX5_readDates_52 rfl ?_
          refine zz_iconst C dX5_readDates_54 ?_
          refine zz_icmp_ne (tgt := 62) C dX5_readDates_55 (by decide) (by unfold rI; omega) (by unfold rI; omega) (fun c55 => ?_) (fun c55 => ?_)
          · skip
            refine zz_aload_n C 2 dX5_readDates_62 rfl rfl ?_
            refine zz_get C 0 (ci := 5) (k := 10) rfl rfl in_X5 (by decide) qw_229 rfl rfl dX5_readDates_63 ?_
            refine zz_iconst C dX5_readDates_66 ?_
            refine zz_qald C 6 rfl (by omega) (by omega) (by decide) dX5_readDates_67 ?_
            refine zz_iload C 4 dX5_readDates_68 rfl ?_
            refine zz_iconst C dX5_readDates_70 ?_
            refine zz_isub C dX5_readDates_71 ?_
            refine zz_lald (T := gO 0) C (20 + (0 : Int).toNat) (zz_c6 (P := fun i9 => ((wLot z vh vc vp vl vy vs vo vt vn rY rS rO vsc vch vat pd pb uC uP uL uT uN gY uS gO) ++ (wPlan z ph pa pr pt pd pb fP fR fT) : va_W)[20 + i9.toNat]? = some (rO i9, lrow 5 (z.2.1 2) (gO i9))) rfl rfl rfl rfl rfl rfl (by omega) (by omega)) (by omega) (by omega) (by decide) dX5_readDates_72 ?_
            refine zz_lload_n C 0 dX5_readDates_73 rfl rfl ?_
            refine zz_aload_n C 3 dX5_readDates_74 rfl rfl ?_
            refine zz_iload C 4 dX5_readDates_75 rfl ?_
            refine zz_callV (wr := wLot z vh vc vp vl vy vs vo vt vn rY rS rO vsc vch vat pd pb uC uP uL uT uN gY uS gO) (st := [.long (iL ((w9.tdiv (20 + plAt pd fR d9)) * 20)), .long (iL (gO 0 (d9 - 1))), .int (iI d9), .ref (rO 0)]) C (cc_X6_paidAt l z ph pa pr pt pd pb fP fR fT d9 (by omega) (by omega) (by omega)) yk_X6_paidAt qw_770 ⟨by decide, by decide⟩ [26, 27, 28, 29] [0, 1, 2, 3, 4, 5, 6, 7, 8, 9, 10, 11, 12, 13, 14, 15, 16, 17, 18, 19, 20, 21, 22, 23, 24, 25] rfl rfl rfl rfl (by decide) 0 6 rfl rfl rfl rfl (Nat.le_of_ble_eq_true rfl) dX5_readDates_77 ⟨by decide, by decide⟩ ?_
            rintro _ _ ⟨rfl, rfl⟩
            refine zz_st (st' := [.int (iI (plAt pd fP d9)), .long (iL ((w9.tdiv (20 + plAt pd fR d9)) * 20)), .long (iL (gO 0 (d9 - 1))), .int (iI d9), .ref (rO 0)]) rfl (zz_ws (ws' := (wLot z vh vc vp vl vy vs vo vt vn rY rS rO vsc vch vat pd pb uC uP uL uT uN gY uS gO) ++ (wPlan z ph pa pr pt pd pb fP fR fT)) rfl ?_)
            have hpa := plAt_rng (pd := pd) hfP d9
            refine zz_i2l C dX5_readDates_80 (by unfold rI; omega) ?_
            refine zz_lmul C dX5_readDates_81 ?_
            refine zz_ladd C dX5_readDates_82 ?_
            have hv8 : ((gO 0 (d9 - 1)) + (((w9.tdiv (20 + plAt pd fR d9)) * 20) * (plAt pd fP d9))) = lOf (plG pd fR) (plAt pd fP) pd d9 := by refine rdw_step (G := plG pd fR) (f := plAt pd fP) hd9.1 hw8 ?_; first | (rw [show d9 - 1 = 0 by omega]; rfl) | exact hO (d9 - 1) (by omega) (by omega)
            refine zz_last (T := gO 0) (ws' := (wLot z vh vc vp vl vy vs vo vt vn rY rS rO vsc vch vat pd pb uC uP uL uT uN gY uS (zup2 gO 0 d9 ((gO 0 (d9 - 1)) + (((w9.tdiv (20 + plAt pd fR d9)) * 20) * (plAt pd fP d9))))) ++ (wPlan z ph pa pr pt pd pb fP fR fT)) C (20 + (0 : Int).toNat) (zz_c6 (P := fun i9 => ((wLot z vh vc vp vl vy vs vo vt vn rY rS rO vsc vch vat pd pb uC uP uL uT uN gY uS gO) ++ (wPlan z ph pa pr pt pd pb fP fR fT) : va_W)[20 + i9.toNat]? = some (rO i9, lrow 5 (z.2.1 2) (gO i9))) rfl rfl rfl rfl rfl rfl (by omega) (by omega)) (by omega) (by omega) (by decide) (zz_c6 (P := fun i9 => ((wLot z vh vc vp vl vy vs vo vt vn rY rS rO vsc vch vat pd pb uC uP uL uT uN gY uS gO) ++ (wPlan z ph pa pr pt pd pb fP fR fT) : va_W).set (20 + i9.toNat) (rO i9, lrow 5 (z.2.1 2) (zup (gO i9) d9 ((gO 0 (d9 - 1)) + (((w9.tdiv (20 + plAt pd fR d9)) * 20) * (plAt pd fP d9))))) = ((wLot z vh vc vp vl vy vs vo vt vn rY rS rO vsc vch vat pd pb uC uP uL uT uN gY uS (zup2 gO i9 d9 ((gO 0 (d9 - 1)) + (((w9.tdiv (20 + plAt pd fR d9)) * 20) * (plAt pd fP d9))))) ++ (wPlan z ph pa pr pt pd pb fP fR fT))) rfl rfl rfl rfl rfl rfl (by omega) (by omega)) dX5_readDates_83 ?_
            refine zz_iconst C dX5_readDates_84 ?_
            refine zz_istore (ls' := [(6, .int (iI 0)), (2, .long (iL ((w9.tdiv (20 + plAt pd fR d9)) * 20))), (5, .int (iI (20 + plAt pd fR d9))), (0, .ref vh), (1, .ref ph), (4, .int (iI d9))]) C dX5_readDates_85 (by decide) rfl ?_
            have Lp87 : ∀ (fu9 : Nat) (b9 : Int) (gX : Int → Int → Int), (0 ≤ b9 ∧ b9 ≤ pb) → (∀ b : Int, 0 ≤ b → b < b9 → gX b d9 = lYf (plG pd fR) (plYield pb fT) pd b d9) → (∀ b d : Int, 0 ≤ b → b < pb → 1 ≤ d → d < d9 → gX b d = lYf (plG pd fR) (plYield pb fT) pd b d) → (pb - b9).toNat < fu9 → zzW p l e rm_X5_readDates s m ([.ref vh, .ref ph] : List Value).toArray below meth c z A 9 (MQ below (zQ z A (po_X5_readDates z vh vc vp vl vy vs vo vt vn rY rS rO vsc vch vat uC uP uL uT uN uY uS uO ph pa pr pt pd pb fP fR fT)) ([.ref vh, .ref ph] : List Value).toArray s 0 0 A) 0 0 ((wLot z vh vc vp vl vy vs vo vt vn rY rS rO vsc vch vat pd pb uC uP uL uT uN gX uS (zup2 gO 0 d9 ((gO 0 (d9 - 1)) + (((w9.tdiv (20 + plAt pd fR d9)) * 20) * (plAt pd fP d9))))) ++ (wPlan z ph pa pr pt pd pb fP fR fT)) [(0, .ref vh), (1, .ref ph), (2, .long (iL ((w9.tdiv (20 + plAt pd fR d9)) * 20))), (4, .int (iI d9)), (5, .int (iI (20 + plAt pd fR d9))), (6, .int (iI b9))] [] 87 := by
              intro fu9
              induction fu9 with
              | zero => intro b9 gX hb9 hX1 hX2 h9; exact absurd h9 (Nat.not_lt_zero _)
              | succ fu9 ih87 =>
                intro b9 gX hb9 hX1 hX2 hm87
                refine zz_iload C 5 dX5_readDates_87 rfl ?_
                refine zz_aload_n C 0 dX5_readDates_89 rfl rfl ?_
                refine zz_get C 0 (ci := 5) (k := 5) rfl rfl in_X5 (by decide) qw_224 rfl rfl dX5_readDates_90 ?_
                refine zz_icmp_ge (tgt := 150) C dX5_readDates_93 (by decide) (by unfold rI; omega) (by unfold rI; omega) (fun c93 => ?_) (fun c93 => ?_)
                · skip
                  refine zz_iinc (ls' := [(4, .int (iI (d9 + 1))), (0, .ref vh), (1, .ref ph), (2, .long (iL ((w9.tdiv (20 + plAt pd fR d9)) * 20))), (5, .int (iI (20 + plAt pd fR d9))), (6, .int (iI b9))]) C 3 dX5_readDates_150 rfl (by decide) rfl ?_
                  refine zz_goto (tgt := 8) C dX5_readDates_153 (by decide) ?_
                  refine zz_loc (ls' := [(0, .ref vh), (1, .ref ph), (2, .long (iL ((w9.tdiv (20 + plAt pd fR d9)) * 20))), (4, .int (iI (d9 + 1)))]) [1, 2, 3, 0] rfl ?_
                  exact ih8 (d9 + 1) ((w9.tdiv (20 + plAt pd fR d9)) * 20) (zup2 gO 0 d9 ((gO 0 (d9 - 1)) + (((w9.tdiv (20 + plAt pd fR d9)) * 20) * (plAt pd fP d9)))) gX (by omega) (by rw [show d9 + 1 - 1 = d9 by omega]; exact hw8) (fun b d h0 h1 h2 h3 => by rcases (show d = d9 ∨ d < d9 by omega) with e9 | e9; (rw [e9]; exact hX1 b h0 (by omega)); exact hX2 b d h0 h1 h2 e9) (fun d h2 h3 => by rcases (show d = d9 ∨ d < d9 by omega) with e9 | e9; (rw [e9, zup2_eq]; exact hv8); (rw [zup2_ne (by omega)]; exact hO d h2 e9)) (by omega)
                · skip
                  refine zz_iload C 3 dX5_readDates_96 rfl ?_
                  refine zz_iconst C dX5_readDates_98 ?_
                  refine zz_icmp_ne (tgt := 106) C dX5_readDates_99 (by decide) (by unfold rI; omega) (by unfold rI; omega) (fun c99 => ?_) (fun c99 => ?_)
                  · skip
                    refine zz_aload_n C 0 dX5_readDates_106 rfl rfl ?_
                    refine zz_get C 0 (ci := 5) (k := 8) rfl rfl in_X5 (by decide) qw_227 rfl rfl dX5_readDates_107 ?_
                    refine zz_iload C 5 dX5_readDates_110 rfl ?_
                    refine zz_qald C 4 rfl (by omega) (by omega) (by decide) dX5_readDates_112 ?_
                    refine zz_iload C 3 dX5_readDates_113 rfl ?_
                    refine zz_iconst C dX5_readDates_115 ?_
                    refine zz_isub C dX5_readDates_116 ?_
                    refine zz_lald (T := gX b9) C (9 + b9.toNat) (zz_c5 (P := fun i9 => ((wLot z vh vc vp vl vy vs vo vt vn rY rS rO vsc vch vat pd pb uC uP uL uT uN gX uS (zup2 gO 0 d9 ((gO 0 (d9 - 1)) + (((w9.tdiv (20 + plAt pd fR d9)) * 20) * (plAt pd fP d9))))) ++ (wPlan z ph pa pr pt pd pb fP fR fT) : va_W)[9 + i9.toNat]? = some (rY i9, lrow 5 (z.2.1 2) (gX i9))) rfl rfl rfl rfl rfl (by omega) (by omega)) (by omega) (by omega) (by decide) dX5_readDates_117 ?_
                    refine zz_lstore (ls' := [(7, .long (iL (gX b9 (d9 - 1)))), (0, .ref vh), (1, .ref ph), (2, .long (iL ((w9.tdiv (20 + plAt pd fR d9)) * 20))), (4, .int (iI d9)), (5, .int (iI (20 + plAt pd fR d9))), (6, .int (iI b9))]) C dX5_readDates_118 (by decide) rfl ?_
                    refine zz_aload_n C 1 dX5_readDates_120 rfl rfl ?_
                    refine zz_get C 0 (ci := 5) (k := 8) rfl rfl in_X5 (by decide) qw_227 rfl rfl dX5_readDates_121 ?_
                    refine zz_iload C 6 dX5_readDates_124 rfl ?_
                    refine zz_qald C 4 rfl (by omega) (by omega) (by decide) dX5_readDates_126 ?_
                    refine zz_iload C 4 dX5_readDates_127 rfl ?_
                    refine zz_lload C 0 dX5_readDates_129 rfl ?_
                    refine zz_lload_n C 3 dX5_readDates_131 rfl rfl ?_
                    refine zz_aload_n C 2 dX5_readDates_132 rfl rfl ?_
                    refine zz_iload C 6 dX5_readDates_133 rfl ?_
                    refine zz_iload C 4 dX5_readDates_135 rfl ?_
                    refine zz_callV (wr := wLot z vh vc vp vl vy vs vo vt vn rY rS rO vsc vch vat pd pb uC uP uL uT uN gX uS (zup2 gO 0 d9 ((gO 0 (d9 - 1)) + (((w9.tdiv (20 + plAt pd fR d9)) * 20) * (plAt pd fP d9))))) (st := [.long (iL ((w9.tdiv (20 + plAt pd fR d9)) * 20)), .long (iL (gX b9 (d9 - 1))), .int (iI d9), .ref (rY b9)]) C (cc_X6_yieldAt l z ph pa pr pt pd pb fP fR fT b9 d9 (by omega) (by omega) (by omega) (by omega)) yk_X6_yieldAt qw_771 ⟨by decide, by decide⟩ [26, 27, 28, 29] [0, 1, 2, 3, 4, 5, 6, 7, 8, 9, 10, 11, 12, 13, 14, 15, 16, 17, 18, 19, 20, 21, 22, 23, 24, 25] rfl rfl rfl rfl (by decide) 0 6 rfl rfl rfl rfl (Nat.le_of_ble_eq_true rfl) dX5_readDates_137 ⟨by decide, by decide⟩ ?_
                    rintro _ _ ⟨rfl, rfl⟩
                    refine zz_st (st' := [.int (iI (plYield pb fT b9 d9)), .long (iL ((w9.tdiv (20 + plAt pd fR d9)) * 20)), .long (iL (gX b9 (d9 - 1))), .int (iI d9), .ref (rY b9)]) rfl (zz_ws (ws' := (wLot z vh vc vp vl vy vs vo vt vn rY rS rO vsc vch vat pd pb uC uP uL uT uN gX uS (zup2 gO 0 d9 ((gO 0 (d9 - 1)) + (((w9.tdiv (20 + plAt pd fR d9)) * 20) * (plAt pd fP d9))))) ++ (wPlan z ph pa pr pt pd pb fP fR fT)) rfl ?_)
                    have hpy := plYield_rng pb hfT b9 d9
                    refine zz_i2l C dX5_readDates_140 (by unfold rI; omega) ?_
                    refine zz_lmul C dX5_readDates_141 ?_
                    refine zz_ladd C dX5_readDates_142 ?_
                    have hy8 : ((gX b9 (d9 - 1)) + (((w9.tdiv (20 + plAt pd fR d9)) * 20) * (plYield pb fT b9 d9))) = lYf (plG pd fR) (plYield pb fT) pd b9 d9 := by refine rdw_step (G := plG pd fR) (f := plYield pb fT b9) hd9.1 hw8 ?_; first | (rw [show d9 - 1 = 0 by omega]; rfl) | exact hX2 b9 (d9 - 1) (by omega) (by omega) (by omega) (by omega)
                    refine zz_last (T := gX b9) (ws' := (wLot z vh vc vp vl vy vs vo vt vn rY rS rO vsc vch vat pd pb uC uP uL uT uN (zup2 gX b9 d9 ((gX b9 (d9 - 1)) + (((w9.tdiv (20 + plAt pd fR d9)) * 20) * (plYield pb fT b9 d9)))) uS (zup2 gO 0 d9 ((gO 0 (d9 - 1)) + (((w9.tdiv (20 + plAt pd fR d9)) * 20) * (plAt pd fP d9))))) ++ (wPlan z ph pa pr pt pd pb fP fR fT)) C (9 + b9.toNat) (zz_c5 (P := fun i9 => ((wLot z vh vc vp vl vy vs vo vt vn rY rS rO vsc vch vat pd pb uC uP uL uT uN gX uS (zup2 gO 0 d9 ((gO 0 (d9 - 1)) + (((w9.tdiv (20 + plAt pd fR d9)) * 20) * (plAt pd fP d9))))) ++ (wPlan z ph pa pr pt pd pb fP fR fT) : va_W)[9 + i9.toNat]? = some (rY i9, lrow 5 (z.2.1 2) (gX i9))) rfl rfl rfl rfl rfl (by omega) (by omega)) (by omega) (by omega) (by decide) (zz_c5 (P := fun i9 => ((wLot z vh vc vp vl vy vs vo vt vn rY rS rO vsc vch vat pd pb uC uP uL uT uN gX uS (zup2 gO 0 d9 ((gO 0 (d9 - 1)) + (((w9.tdiv (20 + plAt pd fR d9)) * 20) * (plAt pd fP d9))))) ++ (wPlan z ph pa pr pt pd pb fP fR fT) : va_W).set (9 + i9.toNat) (rY i9, lrow 5 (z.2.1 2) (zup (gX i9) d9 ((gX b9 (d9 - 1)) + (((w9.tdiv (20 + plAt pd fR d9)) * 20) * (plYield pb fT b9 d9))))) = ((wLot z vh vc vp vl vy vs vo vt vn rY rS rO vsc vch vat pd pb uC uP uL uT uN (zup2 gX i9 d9 ((gX b9 (d9 - 1)) + (((w9.tdiv (20 + plAt pd fR d9)) * 20) * (plYield pb fT b9 d9)))) uS (zup2 gO 0 d9 ((gO 0 (d9 - 1)) + (((w9.tdiv (20 + plAt pd fR d9)) * 20) * (plAt pd fP d9))))) ++ (wPlan z ph pa pr pt pd pb fP fR fT))) rfl rfl rfl rfl rfl (by omega) (by omega)) dX5_readDates_143 ?_
                    refine zz_iinc (ls' := [(6, .int (iI (b9 + 1))), (7, .long (iL (gX b9 (d9 - 1)))), (0, .ref vh), (1, .ref ph), (2, .long (iL ((w9.tdiv (20 + plAt pd fR d9)) * 20))), (4, .int (iI d9)), (5, .int (iI (20 + plAt pd fR d9)))]) C 6 dX5_readDates_144 rfl (by decide) rfl ?_
                    refine zz_goto (tgt := 87) C dX5_readDates_147 (by decide) ?_
                    refine zz_loc (ls' := [(0, .ref vh), (1, .ref ph), (2, .long (iL ((w9.tdiv (20 + plAt pd fR d9)) * 20))), (4, .int (iI d9)), (5, .int (iI (20 + plAt pd fR d9))), (6, .int (iI (b9 + 1)))]) [2, 3, 4, 5, 6, 0] rfl ?_
                    exact ih87 (b9 + 1) (zup2 gX b9 d9 ((gX b9 (d9 - 1)) + (((w9.tdiv (20 + plAt pd fR d9)) * 20) * (plYield pb fT b9 d9)))) (by omega) (fun b h0 h1 => by rcases (show b = b9 ∨ b < b9 by omega) with e9 | e9; (rw [e9, zup2_eq]; exact hy8); (rw [zup2_ne (by omega)]; exact hX1 b h0 e9)) (fun b d h0 h1 h2 h3 => by rw [zup2_ne (by omega)]; exact hX2 b d h0 h1 h2 h3) (by omega)
                  · skip
                    refine zz_lconst (a := 0) C dX5_readDates_102 (by decide +kernel) ?_
                    refine zz_goto (tgt := 118) C dX5_readDates_103 (by decide) ?_
                    refine zz_lstore (ls' := [(7, .long (iL 0)), (0, .ref vh), (1, .ref ph), (2, .long (iL ((w9.tdiv (20 + plAt pd fR d9)) * 20))), (4, .int (iI d9)), (5, .int (iI (20 + plAt pd fR d9))), (6, .int (iI b9))]) C dX5_readDates_118 (by decide) rfl ?_
                    refine zz_aload_n C 1 dX5_readDates_120 rfl rfl ?_
                    refine zz_get C 0 (ci := 5) (k := 8) rfl rfl in_X5 (by decide) qw_227 rfl rfl dX5_readDates_121 ?_
                    refine zz_iload C 6 dX5_readDates_124 rfl ?_
                    refine zz_qald C 4 rfl (by omega) (by omega) (by decide) dX5_readDates_126 ?_
                    refine zz_iload C 4 dX5_readDates_127 rfl ?_
                    refine zz_lload C 0 dX5_readDates_129 rfl ?_
                    refine zz_lload_n C 3 dX5_readDates_131 rfl rfl ?_
                    refine zz_aload_n C 2 dX5_readDates_132 rfl rfl ?_
                    refine zz_iload C 6 dX5_readDates_133 rfl ?_
                    refine zz_iload C 4 dX5_readDates_135 rfl ?_
                    refine zz_callV (wr := wLot z vh vc vp vl vy vs vo vt vn rY rS rO vsc vch vat pd pb uC uP uL uT uN gX uS (zup2 gO 0 d9 ((gO 0 (d9 - 1)) + (((w9.tdiv (20 + plAt pd fR d9)) * 20) * (plAt pd fP d9))))) (st := [.long (iL ((w9.tdiv (20 + plAt pd fR d9)) * 20)), .long (iL 0), .int (iI d9), .ref (rY b9)]) C (cc_X6_yieldAt l z ph pa pr pt pd pb fP fR fT b9 d9 (by omega) (by omega) (by omega) (by omega)) yk_X6_yieldAt qw_771 ⟨by decide, by decide⟩ [26, 27, 28, 29] [0, 1, 2, 3, 4, 5, 6, 7, 8, 9, 10, 11, 12, 13, 14, 15, 16, 17, 18, 19, 20, 21, 22, 23, 24, 25] rfl rfl rfl rfl (by decide) 0 6 rfl rfl rfl rfl (Nat.le_of_ble_eq_true rfl) dX5_readDates_137 ⟨by decide, by decide⟩ ?_
                    rintro _ _ ⟨rfl, rfl⟩
                    refine zz_st (st' := [.int (iI (plYield pb fT b9 d9)), .long (iL ((w9.tdiv (20 + plAt pd fR d9)) * 20)), .long (iL 0), .int (iI d9), .ref (rY b9)]) rfl (zz_ws (ws' := (wLot z vh vc vp vl vy vs vo vt vn rY rS rO vsc vch vat pd pb uC uP uL uT uN gX uS (zup2 gO 0 d9 ((gO 0 (d9 - 1)) + (((w9.tdiv (20 + plAt pd fR d9)) * 20) * (plAt pd fP d9))))) ++ (wPlan z ph pa pr pt pd pb fP fR fT)) rfl ?_)
                    have hpy := plYield_rng pb hfT b9 d9
                    refine zz_i2l C dX5_readDates_140 (by unfold rI; omega) ?_
                    refine zz_lmul C dX5_readDates_141 ?_
                    refine zz_ladd C dX5_readDates_142 ?_
                    have hy8 : (0 + (((w9.tdiv (20 + plAt pd fR d9)) * 20) * (plYield pb fT b9 d9))) = lYf (plG pd fR) (plYield pb fT) pd b9 d9 := by refine rdw_step (G := plG pd fR) (f := plYield pb fT b9) hd9.1 hw8 ?_; first | (rw [show d9 - 1 = 0 by omega]; rfl) | exact hX2 b9 (d9 - 1) (by omega) (by omega) (by omega) (by omega)
                    refine zz_last (T := gX b9) (ws' := (wLot z vh vc vp vl vy vs vo vt vn rY rS rO vsc vch vat pd pb uC uP uL uT uN (zup2 gX b9 d9 (0 + (((w9.tdiv (20 + plAt pd fR d9)) * 20) * (plYield pb fT b9 d9)))) uS (zup2 gO 0 d9 ((gO 0 (d9 - 1)) + (((w9.tdiv (20 + plAt pd fR d9)) * 20) * (plAt pd fP d9))))) ++ (wPlan z ph pa pr pt pd pb fP fR fT)) C (9 + b9.toNat) (zz_c5 (P := fun i9 => ((wLot z vh vc vp vl vy vs vo vt vn rY rS rO vsc vch vat pd pb uC uP uL uT uN gX uS (zup2 gO 0 d9 ((gO 0 (d9 - 1)) + (((w9.tdiv (20 + plAt pd fR d9)) * 20) * (plAt pd fP d9))))) ++ (wPlan z ph pa pr pt pd pb fP fR fT) : va_W)[9 + i9.toNat]? = some (rY i9, lrow 5 (z.2.1 2) (gX i9))) rfl rfl rfl rfl rfl (by omega) (by omega)) (by omega) (by omega) (by decide) (zz_c5 (P := fun i9 => ((wLot z vh vc vp vl vy vs vo vt vn rY rS rO vsc vch vat pd pb uC uP uL uT uN gX uS (zup2 gO 0 d9 ((gO 0 (d9 - 1)) + (((w9.tdiv (20 + plAt pd fR d9)) * 20) * (plAt pd fP d9))))) ++ (wPlan z ph pa pr pt pd pb fP fR fT) : va_W).set (9 + i9.toNat) (rY i9, lrow 5 (z.2.1 2) (zup (gX i9) d9 (0 + (((w9.tdiv (20 + plAt pd fR d9)) * 20) * (plYield pb fT b9 d9))))) = ((wLot z vh vc vp vl vy vs vo vt vn rY rS rO vsc vch vat pd pb uC uP uL uT uN (zup2 gX i9 d9 (0 + (((w9.tdiv (20 + plAt pd fR d9)) * 20) * (plYield pb fT b9 d9)))) uS (zup2 gO 0 d9 ((gO 0 (d9 - 1)) + (((w9.tdiv (20 + plAt pd fR d9)) * 20) * (plAt pd fP d9))))) ++ (wPlan z ph pa pr pt pd pb fP fR fT))) rfl rfl rfl rfl rfl (by omega) (by omega)) dX5_readDates_143 ?_
                    refine zz_iinc (ls' := [(6, .int (iI (b9 + 1))), (7, .long (iL 0)), (0, .ref vh), (1, .ref ph), (2, .long (iL ((w9.tdiv (20 + plAt pd fR d9)) * 20))), (4, .int (iI d9)), (5, .int (iI (20 + plAt pd fR d9)))]) C 6 dX5_readDates_144 rfl (by decide) rfl ?_
                    refine zz_goto (tgt := 87) C dX5_readDates_147 (by decide) ?_
                    refine zz_loc (ls' := [(0, .ref vh), (1, .ref ph), (2, .long (iL ((w9.tdiv (20 + plAt pd fR d9)) * 20))), (4, .int (iI d9)), (5, .int (iI (20 + plAt pd fR d9))), (6, .int (iI (b9 + 1)))]) [2, 3, 4, 5, 6, 0] rfl ?_
                    exact ih87 (b9 + 1) (zup2 gX b9 d9 (0 + (((w9.tdiv (20 + plAt pd fR d9)) * 20) * (plYield pb fT b9 d9)))) (by omega) (fun b h0 h1 => by rcases (show b = b9 ∨ b < b9 by omega) with e9 | e9; (rw [e9, zup2_eq]; exact hy8); (rw [zup2_ne (by omega)]; exact hX1 b h0 e9)) (fun b d h0 h1 h2 h3 => by rw [zup2_ne (by omega)]; exact hX2 b d h0 h1 h2 h3) (by omega)
            refine zz_loc (ls' := [(0, .ref vh), (1, .ref ph), (2, .long (iL ((w9.tdiv (20 + plAt pd fR d9)) * 20))), (4, .int (iI d9)), (5, .int (iI (20 + plAt pd fR d9))), (6, .int (iI 0))]) [3, 4, 1, 5, 2, 0] rfl ?_
            exact Lp87 _ 0 gY (by omega) (fun b h0 h1 => by omega) hY (Nat.lt_succ_self _)
          · skip
            refine zz_lconst (a := 0) C dX5_readDates_58 (by decide +kernel) ?_
            refine zz_goto (tgt := 73) C dX5_readDates_59 (by decide) ?_
            refine zz_lload_n C 0 dX5_readDates_73 rfl rfl ?_
            refine zz_aload_n C 3 dX5_readDates_74 rfl rfl ?_
            refine zz_iload C 4 dX5_readDates_75 rfl ?_
            refine zz_callV (wr := wLot z vh vc vp vl vy vs vo vt vn rY rS rO vsc vch vat pd pb uC uP uL uT uN gY uS gO) (st := [.long (iL ((w9.tdiv (20 + plAt pd fR d9)) * 20)), .long (iL 0), .int (iI d9), .ref (rO 0)]) C (cc_X6_paidAt l z ph pa pr pt pd pb fP fR fT d9 (by omega) (by omega) (by omega)) yk_X6_paidAt qw_770 ⟨by decide, by decide⟩ [26, 27, 28, 29] [0, 1, 2, 3, 4, 5, 6, 7, 8, 9, 10, 11, 12, 13, 14, 15, 16, 17, 18, 19, 20, 21, 22, 23, 24, 25] rfl rfl rfl rfl (by decide) 0 6 rfl rfl rfl rfl (Nat.le_of_ble_eq_true rfl) dX5_readDates_77 ⟨by decide, by decide⟩ ?_
            rintro _ _ ⟨rfl, rfl⟩
            refine zz_st (st' := [.int (iI (plAt pd fP d9)), .long (iL ((w9.tdiv (20 + plAt pd fR d9)) * 20)), .long (iL 0), .int (iI d9), .ref (rO 0)]) rfl (zz_ws (ws' := (wLot z vh vc vp vl vy vs vo vt vn rY rS rO vsc vch vat pd pb uC uP uL uT uN gY uS gO) ++ (wPlan z ph pa pr pt pd pb fP fR fT)) rfl ?_)
            have hpa := plAt_rng (pd := pd) hfP d9
            refine zz_i2l C dX5_readDates_80 (by unfold rI; omega) ?_
            refine zz_lmul C dX5_readDates_81 ?_
            refine zz_ladd C dX5_readDates_82 ?_
            have hv8 : (0 + (((w9.tdiv (20 + plAt pd fR d9)) * 20) * (plAt pd fP d9))) = lOf (plG pd fR) (plAt pd fP) pd d9 := by refine rdw_step (G := plG pd fR) (f := plAt pd fP) hd9.1 hw8 ?_; first | (rw [show d9 - 1 = 0 by omega]; rfl) | exact hO (d9 - 1) (by omega) (by omega)
            refine zz_last (T := gO 0) (ws' := (wLot z vh vc vp vl vy vs vo vt vn rY rS rO vsc vch vat pd pb uC uP uL uT uN gY uS (zup2 gO 0 d9 (0 + (((w9.tdiv (20 + plAt pd fR d9)) * 20) * (plAt pd fP d9))))) ++ (wPlan z ph pa pr pt pd pb fP fR fT)) C (20 + (0 : Int).toNat) (zz_c6 (P := fun i9 => ((wLot z vh vc vp vl vy vs vo vt vn rY rS rO vsc vch vat pd pb uC uP uL uT uN gY uS gO) ++ (wPlan z ph pa pr pt pd pb fP fR fT) : va_W)[20 + i9.toNat]? = some (rO i9, lrow 5 (z.2.1 2) (gO i9))) rfl rfl rfl rfl rfl rfl (by omega) (by omega)) (by omega) (by omega) (by decide) (zz_c6 (P := fun i9 => ((wLot z vh vc vp vl vy vs vo vt vn rY rS rO vsc vch vat pd pb uC uP uL uT uN gY uS gO) ++ (wPlan z ph pa pr pt pd pb fP fR fT) : va_W).set (20 + i9.toNat) (rO i9, lrow 5 (z.2.1 2) (zup (gO i9) d9 (0 + (((w9.tdiv (20 + plAt pd fR d9)) * 20) * (plAt pd fP d9))))) = ((wLot z vh vc vp vl vy vs vo vt vn rY rS rO vsc vch vat pd pb uC uP uL uT uN gY uS (zup2 gO i9 d9 (0 + (((w9.tdiv (20 + plAt pd fR d9)) * 20) * (plAt pd fP d9))))) ++ (wPlan z ph pa pr pt pd pb fP fR fT))) rfl rfl rfl rfl rfl rfl (by omega) (by omega)) dX5_readDates_83 ?_
            refine zz_iconst C dX5_readDates_84 ?_
            refine zz_istore (ls' := [(6, .int (iI 0)), (2, .long (iL ((w9.tdiv (20 + plAt pd fR d9)) * 20))), (5, .int (iI (20 + plAt pd fR d9))), (0, .ref vh), (1, .ref ph), (4, .int (iI d9))]) C dX5_readDates_85 (by decide) rfl ?_
            have Lp87 : ∀ (fu9 : Nat) (b9 : Int) (gX : Int → Int → Int), (0 ≤ b9 ∧ b9 ≤ pb) → (∀ b : Int, 0 ≤ b → b < b9 → gX b d9 = lYf (plG pd fR) (plYield pb fT) pd b d9) → (∀ b d : Int, 0 ≤ b → b < pb → 1 ≤ d → d < d9 → gX b d = lYf (plG pd fR) (plYield pb fT) pd b d) → (pb - b9).toNat < fu9 → zzW p l e rm_X5_readDates s m ([.ref vh, .ref ph] : List Value).toArray below meth c z A 9 (MQ below (zQ z A (po_X5_readDates z vh vc vp vl vy vs vo vt vn rY rS rO vsc vch vat uC uP uL uT uN uY uS uO ph pa pr pt pd pb fP fR fT)) ([.ref vh, .ref ph] : List Value).toArray s 0 0 A) 0 0 ((wLot z vh vc vp vl vy vs vo vt vn rY rS rO vsc vch vat pd pb uC uP uL uT uN gX uS (zup2 gO 0 d9 (0 + (((w9.tdiv (20 + plAt pd fR d9)) * 20) * (plAt pd fP d9))))) ++ (wPlan z ph pa pr pt pd pb fP fR fT)) [(0, .ref vh), (1, .ref ph), (2, .long (iL ((w9.tdiv (20 + plAt pd fR d9)) * 20))), (4, .int (iI d9)), (5, .int (iI (20 + plAt pd fR d9))), (6, .int (iI b9))] [] 87 := by
              intro fu9
              induction fu9 with
              | zero => intro b9 gX hb9 hX1 hX2 h9; exact absurd h9 (Nat.not_lt_zero _)
              | succ fu9 ih87 =>
                intro b9 gX hb9 hX1 hX2 hm87
                refine zz_iload C 5 dX5_readDates_87 rfl ?_
                refine zz_aload_n C 0 dX5_readDates_89 rfl rfl ?_
                refine zz_get C 0 (ci := 5) (k := 5) rfl rfl in_X5 (by decide) qw_224 rfl rfl dX5_readDates_90 ?_
                refine zz_icmp_ge (tgt := 150) C dX5_readDates_93 (by decide) (by unfold rI; omega) (by unfold rI; omega) (fun c93 => ?_) (fun c93 => ?_)
                · skip
                  refine zz_iinc (ls' := [(4, .int (iI (d9 + 1))), (0, .ref vh), (1, .ref ph), (2, .long (iL ((w9.tdiv (20 + plAt pd fR d9)) * 20))), (5, .int (iI (20 + plAt pd fR d9))), (6, .int (iI b9))]) C 3 dX5_readDates_150 rfl (by decide) rfl ?_
                  refine zz_goto (tgt := 8) C dX5_readDates_153 (by decide) ?_
                  refine zz_loc (ls' := [(0, .ref vh), (1, .ref ph), (2, .long (iL ((w9.tdiv (20 + plAt pd fR d9)) * 20))), (4, .int (iI (d9 + 1)))]) [1, 2, 3, 0] rfl ?_
                  exact ih8 (d9 + 1) ((w9.tdiv (20 + plAt pd fR d9)) * 20) (zup2 gO 0 d9 (0 + (((w9.tdiv (20 + plAt pd fR d9)) * 20) * (plAt pd fP d9)))) gX (by omega) (by rw [show d9 + 1 - 1 = d9 by omega]; exact hw8) (fun b d h0 h1 h2 h3 => by rcases (show d = d9 ∨ d < d9 by omega) with e9 | e9; (rw [e9]; exact hX1 b h0 (by omega)); exact hX2 b d h0 h1 h2 e9) (fun d h2 h3 => by rcases (show d = d9 ∨ d < d9 by omega) with e9 | e9; (rw [e9, zup2_eq]; exact hv8); (rw [zup2_ne (by omega)]; exact hO d h2 e9)) (by omega)
                · skip
                  refine zz_iload C 3 dX5_readDates_96 rfl ?_
                  refine zz_iconst C dX5_readDates_98 ?_
                  refine zz_icmp_ne (tgt := 106) C dX5_readDates_99 (by decide) (by unfold rI; omega) (by unfold rI; omega) (fun c99 => ?_) (fun c99 => ?_)
                  · skip
                    refine zz_aload_n C 0 dX5_readDates_106 rfl rfl ?_
                    refine zz_get C 0 (ci := 5) (k := 8) rfl rfl in_X5 (by decide) qw_227 rfl rfl dX5_readDates_107 ?_
                    refine zz_iload C 5 dX5_readDates_110 rfl ?_
                    refine zz_qald C 4 rfl (by omega) (by omega) (by decide) dX5_readDates_112 ?_
                    refine zz_iload C 3 dX5_readDates_113 rfl ?_
                    refine zz_iconst C dX5_readDates_115 ?_
                    refine zz_isub C dX5_readDates_116 ?_
                    refine zz_lald (T := gX b9) C (9 + b9.toNat) (zz_c5 (P := fun i9 => ((wLot z vh vc vp vl vy vs vo vt vn rY rS rO vsc vch vat pd pb uC uP uL uT uN gX uS (zup2 gO 0 d9 (0 + (((w9.tdiv (20 + plAt pd fR d9)) * 20) * (plAt pd fP d9))))) ++ (wPlan z ph pa pr pt pd pb fP fR fT) : va_W)[9 + i9.toNat]? = some (rY i9, lrow 5 (z.2.1 2) (gX i9))) rfl rfl rfl rfl rfl (by omega) (by omega)) (by omega) (by omega) (by decide) dX5_readDates_117 ?_
                    refine zz_lstore (ls' := [(7, .long (iL (gX b9 (d9 - 1)))), (0, .ref vh), (1, .ref ph), (2, .long (iL ((w9.tdiv (20 + plAt pd fR d9)) * 20))), (4, .int (iI d9)), (5, .int (iI (20 + plAt pd fR d9))), (6, .int (iI b9))]) C dX5_readDates_118 (by decide) rfl ?_
                    refine zz_aload_n C 1 dX5_readDates_120 rfl rfl ?_
                    refine zz_get C 0 (ci := 5) (k := 8) rfl rfl in_X5 (by decide) qw_227 rfl rfl dX5_readDates_121 ?_
                    refine zz_iload C 6 dX5_readDates_124 rfl ?_
                    refine zz_qald C 4 rfl (by omega) (by omega) (by decide) dX5_readDates_126 ?_
                    refine zz_iload C 4 dX5_readDates_127 rfl ?_
                    refine zz_lload C 0 dX5_readDates_129 rfl ?_
                    refine zz_lload_n C 3 dX5_readDates_131 rfl rfl ?_
                    refine zz_aload_n C 2 dX5_readDates_132 rfl rfl ?_
                    refine zz_iload C 6 dX5_readDates_133 rfl ?_
                    refine zz_iload C 4 dX5_readDates_135 rfl ?_
                    refine zz_callV (wr := wLot z vh vc vp vl vy vs vo vt vn rY rS rO vsc vch vat pd pb uC uP uL uT uN gX uS (zup2 gO 0 d9 (0 + (((w9.tdiv (20 + plAt pd fR d9)) * 20) * (plAt pd fP d9))))) (st := [.long (iL ((w9.tdiv (20 + plAt pd fR d9)) * 20)), .long (iL (gX b9 (d9 - 1))), .int (iI d9), .ref (rY b9)]) C (cc_X6_yieldAt l z ph pa pr pt pd pb fP fR fT b9 d9 (by omega) (by omega) (by omega) (by omega)) yk_X6_yieldAt qw_771 ⟨by decide, by decide⟩ [26, 27, 28, 29] [0, 1, 2, 3, 4, 5, 6, 7, 8, 9, 10, 11, 12, 13, 14, 15, 16, 17, 18, 19, 20, 21, 22, 23, 24, 25] rfl rfl rfl rfl (by decide) 0 6 rfl rfl rfl rfl (Nat.le_of_ble_eq_true rfl) dX5_readDates_137 ⟨by decide, by decide⟩ ?_
                    rintro _ _ ⟨rfl, rfl⟩
                    refine zz_st (st' := [.int (iI (plYield pb fT b9 d9)), .long (iL ((w9.tdiv (20 + plAt pd fR d9)) * 20)), .long (iL (gX b9 (d9 - 1))), .int (iI d9), .ref (rY b9)]) rfl (zz_ws (ws' := (wLot z vh vc vp vl vy vs vo vt vn rY rS rO vsc vch vat pd pb uC uP uL uT uN gX uS (zup2 gO 0 d9 (0 + (((w9.tdiv (20 + plAt pd fR d9)) * 20) * (plAt pd fP d9))))) ++ (wPlan z ph pa pr pt pd pb fP fR fT)) rfl ?_)
                    have hpy := plYield_rng pb hfT b9 d9
                    refine zz_i2l C dX5_readDates_140 (by unfold rI; omega) ?_
                    refine zz_lmul C dX5_readDates_141 ?_
                    refine zz_ladd C dX5_readDates_142 ?_
                    have hy8 : ((gX b9 (d9 - 1)) + (((w9.tdiv (20 + plAt pd fR d9)) * 20) * (plYield pb fT b9 d9))) = lYf (plG pd fR) (plYield pb fT) pd b9 d9 := by refine rdw_step (G := plG pd fR) (f := plYield pb fT b9) hd9.1 hw8 ?_; first | (rw [show d9 - 1 = 0 by omega]; rfl) | exact hX2 b9 (d9 - 1) (by omega) (by omega) (by omega) (by omega)
                    refine zz_last (T := gX b9) (ws' := (wLot z vh vc vp vl vy vs vo vt vn rY rS rO vsc vch vat pd pb uC uP uL uT uN (zup2 gX b9 d9 ((gX b9 (d9 - 1)) + (((w9.tdiv (20 + plAt pd fR d9)) * 20) * (plYield pb fT b9 d9)))) uS (zup2 gO 0 d9 (0 + (((w9.tdiv (20 + plAt pd fR d9)) * 20) * (plAt pd fP d9))))) ++ (wPlan z ph pa pr pt pd pb fP fR fT)) C (9 + b9.toNat) (zz_c5 (P := fun i9 => ((wLot z vh vc vp vl vy vs vo vt vn rY rS rO vsc vch vat pd pb uC uP uL uT uN gX uS (zup2 gO 0 d9 (0 + (((w9.tdiv (20 + plAt pd fR d9)) * 20) * (plAt pd fP d9))))) ++ (wPlan z ph pa pr pt pd pb fP fR fT) : va_W)[9 + i9.toNat]? = some (rY i9, lrow 5 (z.2.1 2) (gX i9))) rfl rfl rfl rfl rfl (by omega) (by omega)) (by omega) (by omega) (by decide) (zz_c5 (P := fun i9 => ((wLot z vh vc vp vl vy vs vo vt vn rY rS rO vsc vch vat pd pb uC uP uL uT uN gX uS (zup2 gO 0 d9 (0 + (((w9.tdiv (20 + plAt pd fR d9)) * 20) * (plAt pd fP d9))))) ++ (wPlan z ph pa pr pt pd pb fP fR fT) : va_W).set (9 + i9.toNat) (rY i9, lrow 5 (z.2.1 2) (zup (gX i9) d9 ((gX b9 (d9 - 1)) + (((w9.tdiv (20 + plAt pd fR d9)) * 20) * (plYield pb fT b9 d9))))) = ((wLot z vh vc vp vl vy vs vo vt vn rY rS rO vsc vch vat pd pb uC uP uL uT uN (zup2 gX i9 d9 ((gX b9 (d9 - 1)) + (((w9.tdiv (20 + plAt pd fR d9)) * 20) * (plYield pb fT b9 d9)))) uS (zup2 gO 0 d9 (0 + (((w9.tdiv (20 + plAt pd fR d9)) * 20) * (plAt pd fP d9))))) ++ (wPlan z ph pa pr pt pd pb fP fR fT))) rfl rfl rfl rfl rfl (by omega) (by omega)) dX5_readDates_143 ?_
                    refine zz_iinc (ls' := [(6, .int (iI (b9 + 1))), (7, .long (iL (gX b9 (d9 - 1)))), (0, .ref vh), (1, .ref ph), (2, .long (iL ((w9.tdiv (20 + plAt pd fR d9)) * 20))), (4, .int (iI d9)), (5, .int (iI (20 + plAt pd fR d9)))]) C 6 dX5_readDates_144 rfl (by decide) rfl ?_
                    refine zz_goto (tgt := 87) C dX5_readDates_147 (by decide) ?_
                    refine zz_loc (ls' := [(0, .ref vh), (1, .ref ph), (2, .long (iL ((w9.tdiv (20 + plAt pd fR d9)) * 20))), (4, .int (iI d9)), (5, .int (iI (20 + plAt pd fR d9))), (6, .int (iI (b9 + 1)))]) [2, 3, 4, 5, 6, 0] rfl ?_
                    exact ih87 (b9 + 1) (zup2 gX b9 d9 ((gX b9 (d9 - 1)) + (((w9.tdiv (20 + plAt pd fR d9)) * 20) * (plYield pb fT b9 d9)))) (by omega) (fun b h0 h1 => by rcases (show b = b9 ∨ b < b9 by omega) with e9 | e9; (rw [e9, zup2_eq]; exact hy8); (rw [zup2_ne (by omega)]; exact hX1 b h0 e9)) (fun b d h0 h1 h2 h3 => by rw [zup2_ne (by omega)]; exact hX2 b d h0 h1 h2 h3) (by omega)
                  · skip
                    refine zz_lconst (a := 0) C dX5_readDates_102 (by decide +kernel) ?_
                    refine zz_goto (tgt := 118) C dX5_readDates_103 (by decide) ?_
                    refine zz_lstore (ls' := [(7, .long (iL 0)), (0, .ref vh), (1, .ref ph), (2, .long (iL ((w9.tdiv (20 + plAt pd fR d9)) * 20))), (4, .int (iI d9)), (5, .int (iI (20 + plAt pd fR d9))), (6, .int (iI b9))]) C dX5_readDates_118 (by decide) rfl ?_
                    refine zz_aload_n C 1 dX5_readDates_120 rfl rfl ?_
                    refine zz_get C 0 (ci := 5) (k := 8) rfl rfl in_X5 (by decide) qw_227 rfl rfl dX5_readDates_121 ?_
                    refine zz_iload C 6 dX5_readDates_124 rfl ?_
                    refine zz_qald C 4 rfl (by omega) (by omega) (by decide) dX5_readDates_126 ?_
                    refine zz_iload C 4 dX5_readDates_127 rfl ?_
                    refine zz_lload C 0 dX5_readDates_129 rfl ?_
                    refine zz_lload_n C 3 dX5_readDates_131 rfl rfl ?_
                    refine zz_aload_n C 2 dX5_readDates_132 rfl rfl ?_
                    refine zz_iload C 6 dX5_readDates_133 rfl ?_
                    refine zz_iload C 4 dX5_readDates_135 rfl ?_
                    refine zz_callV (wr := wLot z vh vc vp vl vy vs vo vt vn rY rS rO vsc vch vat pd pb uC uP uL uT uN gX uS (zup2 gO 0 d9 (0 + (((w9.tdiv (20 + plAt pd fR d9)) * 20) * (plAt pd fP d9))))) (st := [.long (iL ((w9.tdiv (20 + plAt pd fR d9)) * 20)), .long (iL 0), .int (iI d9), .ref (rY b9)]) C (cc_X6_yieldAt l z ph pa pr pt pd pb fP fR fT b9 d9 (by omega) (by omega) (by omega) (by omega)) yk_X6_yieldAt qw_771 ⟨by decide, by decide⟩ [26, 27, 28, 29] [0, 1, 2, 3, 4, 5, 6, 7, 8, 9, 10, 11, 12, 13, 14, 15, 16, 17, 18, 19, 20, 21, 22, 23, 24, 25] rfl rfl rfl rfl (by decide) 0 6 rfl rfl rfl rfl (Nat.le_of_ble_eq_true rfl) dX5_readDates_137 ⟨by decide, by decide⟩ ?_
                    rintro _ _ ⟨rfl, rfl⟩
                    refine zz_st (st' := [.int (iI (plYield pb fT b9 d9)), .long (iL ((w9.tdiv (20 + plAt pd fR d9)) * 20)), .long (iL 0), .int (iI d9), .ref (rY b9)]) rfl (zz_ws (ws' := (wLot z vh vc vp vl vy vs vo vt vn rY rS rO vsc vch vat pd pb uC uP uL uT uN gX uS (zup2 gO 0 d9 (0 + (((w9.tdiv (20 + plAt pd fR d9)) * 20) * (plAt pd fP d9))))) ++ (wPlan z ph pa pr pt pd pb fP fR fT)) rfl ?_)
                    have hpy := plYield_rng pb hfT b9 d9
                    refine zz_i2l C dX5_readDates_140 (by unfold rI; omega) ?_
                    refine zz_lmul C dX5_readDates_141 ?_
                    refine zz_ladd C dX5_readDates_142 ?_
                    have hy8 : (0 + (((w9.tdiv (20 + plAt pd fR d9)) * 20) * (plYield pb fT b9 d9))) = lYf (plG pd fR) (plYield pb fT) pd b9 d9 := by refine rdw_step (G := plG pd fR) (f := plYield pb fT b9) hd9.1 hw8 ?_; first | (rw [show d9 - 1 = 0 by omega]; rfl) | exact hX2 b9 (d9 - 1) (by omega) (by omega) (by omega) (by omega)
                    refine zz_last (T := gX b9) (ws' := (wLot z vh vc vp vl vy vs vo vt vn rY rS rO vsc vch vat pd pb uC uP uL uT uN (zup2 gX b9 d9 (0 + (((w9.tdiv (20 + plAt pd fR d9)) * 20) * (plYield pb fT b9 d9)))) uS (zup2 gO 0 d9 (0 + (((w9.tdiv (20 + plAt pd fR d9)) * 20) * (plAt pd fP d9))))) ++ (wPlan z ph pa pr pt pd pb fP fR fT)) C (9 + b9.toNat) (zz_c5 (P := fun i9 => ((wLot z vh vc vp vl vy vs vo vt vn rY rS rO vsc vch vat pd pb uC uP uL uT uN gX uS (zup2 gO 0 d9 (0 + (((w9.tdiv (20 + plAt pd fR d9)) * 20) * (plAt pd fP d9))))) ++ (wPlan z ph pa pr pt pd pb fP fR fT) : va_W)[9 + i9.toNat]? = some (rY i9, lrow 5 (z.2.1 2) (gX i9))) rfl rfl rfl rfl rfl (by omega) (by omega)) (by omega) (by omega) (by decide) (zz_c5 (P := fun i9 => ((wLot z vh vc vp vl vy vs vo vt vn rY rS rO vsc vch vat pd pb uC uP uL uT uN gX uS (zup2 gO 0 d9 (0 + (((w9.tdiv (20 + plAt pd fR d9)) * 20) * (plAt pd fP d9))))) ++ (wPlan z ph pa pr pt pd pb fP fR fT) : va_W).set (9 + i9.toNat) (rY i9, lrow 5 (z.2.1 2) (zup (gX i9) d9 (0 + (((w9.tdiv (20 + plAt pd fR d9)) * 20) * (plYield pb fT b9 d9))))) = ((wLot z vh vc vp vl vy vs vo vt vn rY rS rO vsc vch vat pd pb uC uP uL uT uN (zup2 gX i9 d9 (0 + (((w9.tdiv (20 + plAt pd fR d9)) * 20) * (plYield pb fT b9 d9)))) uS (zup2 gO 0 d9 (0 + (((w9.tdiv (20 + plAt pd fR d9)) * 20) * (plAt pd fP d9))))) ++ (wPlan z ph pa pr pt pd pb fP fR fT))) rfl rfl rfl rfl rfl (by omega) (by omega)) dX5_readDates_143 ?_
                    refine zz_iinc (ls' := [(6, .int (iI (b9 + 1))), (7, .long (iL 0)), (0, .ref vh), (1, .ref ph), (2, .long (iL ((w9.tdiv (20 + plAt pd fR d9)) * 20))), (4, .int (iI d9)), (5, .int (iI (20 + plAt pd fR d9)))]) C 6 dX5_readDates_144 rfl (by decide) rfl ?_
                    refine zz_goto (tgt := 87) C dX5_readDates_147 (by decide) ?_
                    refine zz_loc (ls' := [(0, .ref vh), (1, .ref ph), (2, .long (iL ((w9.tdiv (20 + plAt pd fR d9)) * 20))), (4, .int (iI d9)), (5, .int (iI (20 + plAt pd fR d9))), (6, .int (iI (b9 + 1)))]) [2, 3, 4, 5, 6, 0] rfl ?_
                    exact ih87 (b9 + 1) (zup2 gX b9 d9 (0 + (((w9.tdiv (20 + plAt pd fR d9)) * 20) * (plYield pb fT b9 d9)))) (by omega) (fun b h0 h1 => by rcases (show b = b9 ∨ b < b9 by omega) with e9 | e9; (rw [e9, zup2_eq]; exact hy8); (rw [zup2_ne (by omega)]; exact hX1 b h0 e9)) (fun b d h0 h1 h2 h3 => by rw [zup2_ne (by omega)]; exact hX2 b d h0 h1 h2 h3) (by omega)
            refine zz_loc (ls' := [(0, .ref vh), (1, .ref ph), (2, .long (iL ((w9.tdiv (20 + plAt pd fR d9)) * 20))), (4, .int (iI d9)), (5, .int (iI (20 + plAt pd fR d9))), (6, .int (iI 0))]) [3, 4, 1, 5, 2, 0] rfl ?_
            exact Lp87 _ 0 gY (by omega) (fun b h0 h1 => by omega) hY (Nat.lt_succ_self _)
        · skip
          exfalso; omega
  refine zz_loc (ls' := [(0, .ref vh), (1, .ref ph), (2, .long (iL vsc)), (4, .int (iI 1))]) [2, 3, 1, 0] rfl ?_
  exact Lp8 _ 1 vsc uO uY (by omega) (by rw [hsc]; show _ = p20 0 * grw (plG pd fR) 0 pd; rw [p20_0, Int.one_mul]) (fun b d h0 h1 h2 h3 => by omega) (fun d h2 h3 => by omega) (Nat.lt_succ_self _)
abbrev po_X5_read (z : zC) (vh : Nat) (vc : Nat) (vp : Nat) (vl : Nat) (vy : Nat) (vs : Nat) (vo : Nat) (vt : Nat) (vn : Nat) (rY : Int → Nat) (rS : Int → Nat) (rO : Int → Nat) (vsc : Int) (vch : Int) (vat : Int) (vd : Int) (vb : Int) (uC : Int → Int) (uP : Int → Int) (uL : Int → Int) (uT : Int → Int) (uN : Int → Int) (uY : Int → Int → Int) (uS : Int → Int → Int) (uO : Int → Int → Int) (ph : Nat) (pa : Nat) (pr : Nat) (pt : Nat) (pd : Int) (pb : Int) (fP : Int → Int) (fR : Int → Int) (fT : Int → Int) : Option Value → va_W → Prop := fun v w => ∃ (gs : Int), ∃ (gP9 : Int → Int), ∃ (gL9 : Int → Int), ∃ (gN9 : Int → Int), ∃ (gY : Int → Int → Int), ∃ (gO : Int → Int → Int), ∃ (gS9 : Int → Int → Int), (rdOk pd pb fP fR fT gs gP9 gL9 gN9 gY gO) ∧ (∀ d : Int, 1 ≤ d → d ≤ pd → gS9 pb d = 0) ∧ v = none ∧ w = (wLot z vh vc vp vl vy vs vo vt vn rY rS rO gs vch vat pd pb uC gP9 gL9 uT gN9 gY gS9 gO) ++ (wPlan z ph pa pr pt pd pb fP fR fT)
abbrev rm_X5_read : Room := { frames := 5, cells := 0, slots := 0, locals := 136 }
set_option maxHeartbeats 4000000 in
set_option maxRecDepth 100000 in
theorem cc_X5_read (l : Launch) (z : zC) (vh : Nat) (vc : Nat) (vp : Nat) (vl : Nat) (vy : Nat) (vs : Nat) (vo : Nat) (vt : Nat) (vn : Nat) (rY : Int → Nat) (rS : Int → Nat) (rO : Int → Nat) (vsc : Int) (vch : Int) (vat : Int) (vd : Int) (vb : Int) (uC : Int → Int) (uP : Int → Int) (uL : Int → Int) (uT : Int → Int) (uN : Int → Int) (uY : Int → Int → Int) (uS : Int → Int → Int) (uO : Int → Int → Int) (ph : Nat) (pa : Nat) (pr : Nat) (pt : Nat) (pd : Int) (pb : Int) (fP : Int → Int) (fR : Int → Int) (fT : Int → Int) (hpd : 1 ≤ pd ∧ pd ≤ 4) (hpb : 0 ≤ pb ∧ pb ≤ 5) (hfP : ∀ i : Int, 0 ≤ fP i ∧ fP i ≤ 200) (hfR : ∀ i : Int, 0 ≤ fR i ∧ fR i ≤ 6) (hfT : ∀ i : Int, 0 ≤ fT i ∧ fT i ≤ 200) (hok : plOk pb fT) (hok2 : plOk2 pb fT) : zzMet l yX5_read cX5_read 4 none rm_X5_read z [.ref vh, .ref ph] ((wLot z vh vc vp vl vy vs vo vt vn rY rS rO vsc vch vat vd vb uC uP uL uT uN uY uS uO) ++ (wPlan z ph pa pr pt pd pb fP fR fT)) (po_X5_read z vh vc vp vl vy vs vo vt vn rY rS rO vsc vch vat vd vb uC uP uL uT uN uY uS uO ph pa pr pt pd pb fP fR fT) := by
  refine zzMet.of (own := RX5) (ls0 := [(0, .ref vh), (1, .ref ph)]) (by decide) rfl (Nat.le_of_ble_eq_true rfl) rfl ?_
  intro p e s m below meth c A C hr hnm
  have hg := plG_rng pd hfR
  refine zz_aload_n C 0 dX5_read_0 rfl rfl ?_
  refine zz_aload_n C 1 dX5_read_1 rfl rfl ?_
  refine zz_get C 26 (ci := 6) (k := 0) rfl rfl in_X6 (by decide) qw_295 rfl rfl dX5_read_2 ?_
  refine zz_put (ty := .int) (ws' := (wLot z vh vc vp vl vy vs vo vt vn rY rS rO vsc vch vat pd vb uC uP uL uT uN uY uS uO) ++ (wPlan z ph pa pr pt pd pb fP fR fT)) C 0 (ci := 5) (k := 4) rfl rfl in_X5 tyX5 tyX5_ok nmX5 (by decide) qw_223 rfl rfl (by decide +kernel) rfl rfl (Nat.le_of_ble_eq_true rfl) rfl dX5_read_5 ?_
  refine zz_aload_n C 0 dX5_read_8 rfl rfl ?_
  refine zz_aload_n C 1 dX5_read_9 rfl rfl ?_
  refine zz_get C 26 (ci := 6) (k := 1) rfl rfl in_X6 (by decide) qw_300 rfl rfl dX5_read_10 ?_
  refine zz_put (ty := .int) (ws' := (wLot z vh vc vp vl vy vs vo vt vn rY rS rO vsc vch vat pd pb uC uP uL uT uN uY uS uO) ++ (wPlan z ph pa pr pt pd pb fP fR fT)) C 0 (ci := 5) (k := 5) rfl rfl in_X5 tyX5 tyX5_ok nmX5 (by decide) qw_224 rfl rfl (by decide +kernel) rfl rfl (Nat.le_of_ble_eq_true rfl) rfl dX5_read_13 ?_
  refine zz_aload_n C 0 dX5_read_16 rfl rfl ?_
  refine zz_lconst (a := 1) C dX5_read_17 (by decide +kernel) ?_
  refine zz_put (ty := .long) (ws' := (wLot z vh vc vp vl vy vs vo vt vn rY rS rO 1 vch vat pd pb uC uP uL uT uN uY uS uO) ++ (wPlan z ph pa pr pt pd pb fP fR fT)) C 0 (ci := 5) (k := 0) rfl rfl in_X5 tyX5 tyX5_ok nmX5 (by decide) qw_215 rfl rfl (by decide +kernel) rfl rfl (Nat.le_of_ble_eq_true rfl) rfl dX5_read_18 ?_
  refine zz_iconst C dX5_read_21 ?_
  refine zz_istore_n (ls' := [(2, .int (iI 1)), (0, .ref vh), (1, .ref ph)]) C dX5_read_22 rfl (by decide) rfl ?_
  have Lp23 : ∀ (fu9 : Nat) (d9 : Int) (s9 : Int), (1 ≤ d9 ∧ d9 ≤ pd + 1) → (s9 = grw (plG pd fR) 0 (d9 - 1)) → (pd + 1 - d9).toNat < fu9 → zzW p l e rm_X5_read s m ([.ref vh, .ref ph] : List Value).toArray below meth c z A 4 (MQ below (zQ z A (po_X5_read z vh vc vp vl vy vs vo vt vn rY rS rO vsc vch vat vd vb uC uP uL uT uN uY uS uO ph pa pr pt pd pb fP fR fT)) ([.ref vh, .ref ph] : List Value).toArray s 0 0 A) 0 0 ((wLot z vh vc vp vl vy vs vo vt vn rY rS rO s9 vch vat pd pb uC uP uL uT uN uY uS uO) ++ (wPlan z ph pa pr pt pd pb fP fR fT)) [(0, .ref vh), (1, .ref ph), (2, .int (iI d9))] [] 23 := by
    intro fu9
    induction fu9 with
    | zero => intro d9 s9 hd9 hs9 h9; exact absurd h9 (Nat.not_lt_zero _)
    | succ fu9 ih23 =>
      intro d9 s9 hd9 hs9 hm23
      refine zz_iload_n C 2 dX5_read_23 rfl rfl ?_
      refine zz_aload_n C 0 dX5_read_24 rfl rfl ?_
      refine zz_get C 0 (ci := 5) (k := 4) rfl rfl in_X5 (by decide) qw_223 rfl rfl dX5_read_25 ?_
      refine zz_icmp_gt (tgt := 52) C dX5_read_28 (by decide) (by unfold rI; omega) (by unfold rI; omega) (fun c28 => ?_) (fun c28 => ?_)
      · skip
        have hse : s9 = grw (plG pd fR) 0 pd := by rw [hs9, show d9 - 1 = pd by omega]
        have hsr := lotW_rng hpd.2 hg (d := 0) (by omega) (by omega)
        refine zz_aload_n C 0 dX5_read_52 rfl rfl ?_
        refine zz_aload_n C 1 dX5_read_53 rfl rfl ?_
        refine zz_callV (wr := ([] : va_W)) (st := []) C (cc_X5_readDates l z vh vc vp vl vy vs vo vt vn rY rS rO s9 vch vat uC uP uL uT uN uY uS uO ph pa pr pt pd pb fP fR fT (by omega) (by omega) (by omega) (by omega) (by omega) (by omega) (by omega) hse) yk_X5_readDates qw_765 ⟨by decide, by decide⟩ [0, 1, 2, 3, 4, 5, 6, 7, 8, 9, 10, 11, 12, 13, 14, 15, 16, 17, 18, 19, 20, 21, 22, 23, 24, 25, 26, 27, 28, 29] [] rfl rfl rfl rfl (by decide) 0 5 rfl rfl rfl rfl (Nat.le_of_ble_eq_true rfl) dX5_read_54 ⟨by decide, by decide⟩ ?_
        rintro _ _ ⟨gY_54, gO_54, hgY_54, hgO_54, rfl, rfl⟩
        refine zz_st (st' := []) rfl (zz_ws (ws' := (wLot z vh vc vp vl vy vs vo vt vn rY rS rO s9 vch vat pd pb uC uP uL uT uN gY_54 uS gO_54) ++ (wPlan z ph pa pr pt pd pb fP fR fT)) rfl ?_)
        refine zz_iconst C dX5_read_57 ?_
        refine zz_istore_n (ls' := [(2, .int (iI 1)), (0, .ref vh), (1, .ref ph)]) C dX5_read_58 rfl (by decide) rfl ?_
        have Lp59 : ∀ (fu9 : Nat) (d8 : Int) (gS9 : Int → Int → Int), (1 ≤ d8 ∧ d8 ≤ pd + 1) → (∀ d : Int, 1 ≤ d → d < d8 → gS9 pb d = 0) → (pd + 1 - d8).toNat < fu9 → zzW p l e rm_X5_read s m ([.ref vh, .ref ph] : List Value).toArray below meth c z A 4 (MQ below (zQ z A (po_X5_read z vh vc vp vl vy vs vo vt vn rY rS rO vsc vch vat vd vb uC uP uL uT uN uY uS uO ph pa pr pt pd pb fP fR fT)) ([.ref vh, .ref ph] : List Value).toArray s 0 0 A) 0 0 ((wLot z vh vc vp vl vy vs vo vt vn rY rS rO s9 vch vat pd pb uC uP uL uT uN gY_54 gS9 gO_54) ++ (wPlan z ph pa pr pt pd pb fP fR fT)) [(0, .ref vh), (1, .ref ph), (2, .int (iI d8))] [] 59 := by
          intro fu9
          induction fu9 with
          | zero => intro d8 gS9 hd8 hS9 h9; exact absurd h9 (Nat.not_lt_zero _)
          | succ fu9 ih59 =>
            intro d8 gS9 hd8 hS9 hm59
            refine zz_iload_n C 2 dX5_read_59 rfl rfl ?_
            refine zz_aload_n C 0 dX5_read_60 rfl rfl ?_
            refine zz_get C 0 (ci := 5) (k := 4) rfl rfl in_X5 (by decide) qw_223 rfl rfl dX5_read_61 ?_
            refine zz_icmp_gt (tgt := 85) C dX5_read_64 (by decide) (by unfold rI; omega) (by unfold rI; omega) (fun c64 => ?_) (fun c64 => ?_)
            · skip
              refine zz_iconst C dX5_read_85 ?_
              refine zz_istore_n (ls' := [(2, .int (iI 0)), (0, .ref vh), (1, .ref ph)]) C dX5_read_86 rfl (by decide) rfl ?_
              have Lp87 : ∀ (fu9 : Nat) (b9 : Int) (gP9 : Int → Int) (gL9 : Int → Int) (gN9 : Int → Int), (0 ≤ b9 ∧ b9 ≤ pb) → (∀ b : Int, 0 ≤ b → b < b9 → gP9 b = lPf (plG pd fR) (fun b => plTerm pb fT b 3) pd b ∧ (gL9 b = if gP9 b < gY_54 b pd then plTerm pb fT b 4 else 0) ∧ gN9 b = 0) → (pb - b9).toNat < fu9 → zzW p l e rm_X5_read s m ([.ref vh, .ref ph] : List Value).toArray below meth c z A 4 (MQ below (zQ z A (po_X5_read z vh vc vp vl vy vs vo vt vn rY rS rO vsc vch vat vd vb uC uP uL uT uN uY uS uO ph pa pr pt pd pb fP fR fT)) ([.ref vh, .ref ph] : List Value).toArray s 0 0 A) 0 0 ((wLot z vh vc vp vl vy vs vo vt vn rY rS rO s9 vch vat pd pb uC gP9 gL9 uT gN9 gY_54 gS9 gO_54) ++ (wPlan z ph pa pr pt pd pb fP fR fT)) [(0, .ref vh), (1, .ref ph), (2, .int (iI b9))] [] 87 := by
                intro fu9
                induction fu9 with
                | zero => intro b9 gP9 gL9 gN9 hb9 hQ9 h9; exact absurd h9 (Nat.not_lt_zero _)
                | succ fu9 ih87 =>
                  intro b9 gP9 gL9 gN9 hb9 hQ9 hm87
                  refine zz_iload_n C 2 dX5_read_87 rfl rfl ?_
                  refine zz_aload_n C 0 dX5_read_88 rfl rfl ?_
                  refine zz_get C 0 (ci := 5) (k := 5) rfl rfl in_X5 (by decide) qw_224 rfl rfl dX5_read_89 ?_
                  refine zz_icmp_ge (tgt := 173) C dX5_read_92 (by decide) (by unfold rI; omega) (by unfold rI; omega) (fun c92 => ?_) (fun c92 => ?_)
                  · skip
                    exact zz_vret C hr dX5_read_173 ⟨s9, gP9, gL9, gN9, gY_54, gO_54, gS9, ⟨hse, fun b h0 h1 => hQ9 b h0 (by omega), fun b d h0 h1 h2 h3 => hgY_54 b d h0 h1 h2 (by omega), fun d h2 h3 => hgO_54 d h2 (by omega)⟩, fun d h2 h3 => hS9 d h2 (by omega), rfl, rfl⟩
                  · skip
                    refine zz_aload_n C 0 dX5_read_95 rfl rfl ?_
                    refine zz_get C 0 (ci := 5) (k := 6) rfl rfl in_X5 (by decide) qw_225 rfl rfl dX5_read_96 ?_
                    refine zz_iload_n C 2 dX5_read_99 rfl rfl ?_
                    refine zz_aload_n C 0 dX5_read_100 rfl rfl ?_
                    refine zz_get C 0 (ci := 5) (k := 0) rfl rfl in_X5 (by decide) qw_215 rfl rfl dX5_read_101 ?_
                    refine zz_aload_n C 1 dX5_read_104 rfl rfl ?_
                    refine zz_iload_n C 2 dX5_read_105 rfl rfl ?_
                    refine zz_iconst C dX5_read_106 ?_
                    refine zz_callV (wr := wLot z vh vc vp vl vy vs vo vt vn rY rS rO s9 vch vat pd pb uC gP9 gL9 uT gN9 gY_54 gS9 gO_54) (st := [.long (iL s9), .int (iI b9), .ref vp]) C (cc_X6_term l z ph pa pr pt pd pb fP fR fT b9 3 (by omega) (by omega) (by omega)) yk_X6_term qw_772 ⟨by decide, by decide⟩ [26, 27, 28, 29] [0, 1, 2, 3, 4, 5, 6, 7, 8, 9, 10, 11, 12, 13, 14, 15, 16, 17, 18, 19, 20, 21, 22, 23, 24, 25] rfl rfl rfl rfl (by decide) 0 6 rfl rfl rfl rfl (Nat.le_of_ble_eq_true rfl) dX5_read_107 ⟨by decide, by decide⟩ ?_
                    rintro _ _ ⟨rfl, rfl⟩
                    refine zz_st (st' := [.int (iI (plTerm pb fT b9 3)), .long (iL s9), .int (iI b9), .ref vp]) rfl (zz_ws (ws' := (wLot z vh vc vp vl vy vs vo vt vn rY rS rO s9 vch vat pd pb uC gP9 gL9 uT gN9 gY_54 gS9 gO_54) ++ (wPlan z ph pa pr pt pd pb fP fR fT)) rfl ?_)
                    have ht3 := plTerm_rng pb hfT b9 3
                    refine zz_i2l C dX5_read_110 (by unfold rI; omega) ?_
                    refine zz_lmul C dX5_read_111 ?_
                    refine zz_last (ws' := (wLot z vh vc vp vl vy vs vo vt vn rY rS rO s9 vch vat pd pb uC (zup gP9 b9 (s9 * (plTerm pb fT b9 3))) gL9 uT gN9 gY_54 gS9 gO_54) ++ (wPlan z ph pa pr pt pd pb fP fR fT)) C 2 rfl (by omega) (by omega) (by decide) rfl dX5_read_112 ?_
                    refine zz_aload_n C 0 dX5_read_113 rfl rfl ?_
                    refine zz_get C 0 (ci := 5) (k := 8) rfl rfl in_X5 (by decide) qw_227 rfl rfl dX5_read_114 ?_
                    refine zz_iload_n C 2 dX5_read_117 rfl rfl ?_
                    refine zz_qald C 4 rfl (by omega) (by omega) (by decide) dX5_read_118 ?_
                    refine zz_aload_n C 0 dX5_read_119 rfl rfl ?_
                    refine zz_get C 0 (ci := 5) (k := 4) rfl rfl in_X5 (by decide) qw_223 rfl rfl dX5_read_120 ?_
                    refine zz_lald (T := gY_54 b9) C (9 + b9.toNat) (zz_c5 (P := fun i9 => ((wLot z vh vc vp vl vy vs vo vt vn rY rS rO s9 vch vat pd pb uC (zup gP9 b9 (s9 * (plTerm pb fT b9 3))) gL9 uT gN9 gY_54 gS9 gO_54) ++ (wPlan z ph pa pr pt pd pb fP fR fT) : va_W)[9 + i9.toNat]? = some (rY i9, lrow 5 (z.2.1 2) (gY_54 i9))) rfl rfl rfl rfl rfl (by omega) (by omega)) (by omega) (by omega) (by decide) dX5_read_123 ?_
                    refine zz_aload_n C 0 dX5_read_124 rfl rfl ?_
                    refine zz_get C 0 (ci := 5) (k := 6) rfl rfl in_X5 (by decide) qw_225 rfl rfl dX5_read_125 ?_
                    refine zz_iload_n C 2 dX5_read_128 rfl rfl ?_
                    refine zz_lald C 2 rfl (by omega) (by omega) (by decide) dX5_read_129 ?_
                    have hy1 := lO_rng (O := plYield pb fT b9) hpd.2 hg (M := 60) (by omega) (fun d _ _ => ⟨(plY_60 hfT hok b9 d).1, (plY_60 hfT hok b9 d).2.1⟩) (d := pd) (by omega) (by omega)
                    have hy2 : gY_54 b9 pd = zsum (fun k => lotW (plG pd fR) pd (k + 1) * plYield pb fT b9 (k + 1)) pd := hgY_54 b9 pd (by omega) (by omega) (by omega) (by omega)
                    have hp1 := mul_pos_rng (a := s9) (A := 456976) (b := plTerm pb fT b9 3) (B := 200) (by omega) (plTerm_rng pb hfT b9 3)
                    have hpz : zup gP9 b9 (s9 * plTerm pb fT b9 3) b9 = s9 * plTerm pb fT b9 3 := zup_eq _ _ _
                    refine zz_lcmp_le (tgt := 138) C dX5_read_130 dX5_read_131 (by decide) (by unfold rL; omega) (by unfold rL; omega) (fun c130 => ?_) (fun c130 => ?_)
                    · skip
                      refine zz_iconst C dX5_read_138 ?_
                      refine zz_istore_n (ls' := [(3, .int (iI 0)), (0, .ref vh), (1, .ref ph), (2, .int (iI b9))]) C dX5_read_139 rfl (by decide) rfl ?_
                      refine zz_aload_n C 1 dX5_read_140 rfl rfl ?_
                      refine zz_get C 0 (ci := 5) (k := 7) rfl rfl in_X5 (by decide) qw_226 rfl rfl dX5_read_141 ?_
                      refine zz_iload_n C 3 dX5_read_144 rfl rfl ?_
                      refine zz_iload_n C 0 dX5_read_145 rfl rfl ?_
                      refine zz_if_eq (tgt := 158) C dX5_read_146 (by decide) (by unfold rI; omega) (fun c146 => ?_) (fun c146 => ?_)
                      · skip
                        refine zz_iconst C dX5_read_158 ?_
                        have hlm : 0 = if s9 * plTerm pb fT b9 3 < gY_54 b9 pd then plTerm pb fT b9 4 else 0 := by first | (exfalso; omega) | (rw [if_pos (by omega)]) | (rw [if_neg (by omega)])
                        refine zz_iast (ws' := (wLot z vh vc vp vl vy vs vo vt vn rY rS rO s9 vch vat pd pb uC (zup gP9 b9 (s9 * (plTerm pb fT b9 3))) (zup gL9 b9 0) uT gN9 gY_54 gS9 gO_54) ++ (wPlan z ph pa pr pt pd pb fP fR fT)) C 3 rfl (by omega) (by omega) (by decide) rfl dX5_read_159 ?_
                        refine zz_aload_n C 1 dX5_read_160 rfl rfl ?_
                        refine zz_get C 0 (ci := 5) (k := 12) rfl rfl in_X5 (by decide) qw_231 rfl rfl dX5_read_161 ?_
                        refine zz_iload_n C 3 dX5_read_164 rfl rfl ?_
                        refine zz_iconst C dX5_read_165 ?_
                        refine zz_iast (ws' := (wLot z vh vc vp vl vy vs vo vt vn rY rS rO s9 vch vat pd pb uC (zup gP9 b9 (s9 * (plTerm pb fT b9 3))) (zup gL9 b9 0) uT (zup gN9 b9 0) gY_54 gS9 gO_54) ++ (wPlan z ph pa pr pt pd pb fP fR fT)) C 8 rfl (by omega) (by omega) (by decide) rfl dX5_read_166 ?_
                        refine zz_iinc (ls' := [(2, .int (iI (b9 + 1))), (3, .int (iI 0)), (0, .ref vh), (1, .ref ph)]) C 3 dX5_read_167 rfl (by decide) rfl ?_
                        refine zz_goto (tgt := 87) C dX5_read_170 (by decide) ?_
                        refine zz_loc (ls' := [(0, .ref vh), (1, .ref ph), (2, .int (iI (b9 + 1)))]) [2, 3, 0] rfl ?_
                        exact ih87 (b9 + 1) (zup gP9 b9 (s9 * (plTerm pb fT b9 3))) (zup gL9 b9 0) (zup gN9 b9 0) (by omega) (rdp_step (G := plG pd fR) (T := pd) (pr := fun b => plTerm pb fT b 3) (mo := fun b => plTerm pb fT b 4) (y := gY_54) hQ9 (by rw [hse]; rfl) hlm) (by omega)
                      · skip
                        refine zz_aload_n C 2 dX5_read_149 rfl rfl ?_
                        refine zz_iload_n C 3 dX5_read_150 rfl rfl ?_
                        refine zz_iconst C dX5_read_151 ?_
                        refine zz_callV (wr := wLot z vh vc vp vl vy vs vo vt vn rY rS rO s9 vch vat pd pb uC (zup gP9 b9 (s9 * (plTerm pb fT b9 3))) gL9 uT gN9 gY_54 gS9 gO_54) (st := [.int (iI b9), .ref vl]) C (cc_X6_term l z ph pa pr pt pd pb fP fR fT b9 4 (by omega) (by omega) (by omega)) yk_X6_term qw_772 ⟨by decide, by decide⟩ [26, 27, 28, 29] [0, 1, 2, 3, 4, 5, 6, 7, 8, 9, 10, 11, 12, 13, 14, 15, 16, 17, 18, 19, 20, 21, 22, 23, 24, 25] rfl rfl rfl rfl (by decide) 0 6 rfl rfl rfl rfl (Nat.le_of_ble_eq_true rfl) dX5_read_152 ⟨by decide, by decide⟩ ?_
                        rintro _ _ ⟨rfl, rfl⟩
                        refine zz_st (st' := [.int (iI (plTerm pb fT b9 4)), .int (iI b9), .ref vl]) rfl (zz_ws (ws' := (wLot z vh vc vp vl vy vs vo vt vn rY rS rO s9 vch vat pd pb uC (zup gP9 b9 (s9 * (plTerm pb fT b9 3))) gL9 uT gN9 gY_54 gS9 gO_54) ++ (wPlan z ph pa pr pt pd pb fP fR fT)) rfl ?_)
                        have ht4 := plTerm_rng pb hfT b9 4
                        refine zz_goto (tgt := 159) C dX5_read_155 (by decide) ?_
                        have hlm : (plTerm pb fT b9 4) = if s9 * plTerm pb fT b9 3 < gY_54 b9 pd then plTerm pb fT b9 4 else 0 := by first | (exfalso; omega) | (rw [if_pos (by omega)]) | (rw [if_neg (by omega)])
                        refine zz_iast (ws' := (wLot z vh vc vp vl vy vs vo vt vn rY rS rO s9 vch vat pd pb uC (zup gP9 b9 (s9 * (plTerm pb fT b9 3))) (zup gL9 b9 (plTerm pb fT b9 4)) uT gN9 gY_54 gS9 gO_54) ++ (wPlan z ph pa pr pt pd pb fP fR fT)) C 3 rfl (by omega) (by omega) (by decide) rfl dX5_read_159 ?_
                        refine zz_aload_n C 1 dX5_read_160 rfl rfl ?_
                        refine zz_get C 0 (ci := 5) (k := 12) rfl rfl in_X5 (by decide) qw_231 rfl rfl dX5_read_161 ?_
                        refine zz_iload_n C 3 dX5_read_164 rfl rfl ?_
                        refine zz_iconst C dX5_read_165 ?_
                        refine zz_iast (ws' := (wLot z vh vc vp vl vy vs vo vt vn rY rS rO s9 vch vat pd pb uC (zup gP9 b9 (s9 * (plTerm pb fT b9 3))) (zup gL9 b9 (plTerm pb fT b9 4)) uT (zup gN9 b9 0) gY_54 gS9 gO_54) ++ (wPlan z ph pa pr pt pd pb fP fR fT)) C 8 rfl (by omega) (by omega) (by decide) rfl dX5_read_166 ?_
                        refine zz_iinc (ls' := [(2, .int (iI (b9 + 1))), (3, .int (iI 0)), (0, .ref vh), (1, .ref ph)]) C 3 dX5_read_167 rfl (by decide) rfl ?_
                        refine zz_goto (tgt := 87) C dX5_read_170 (by decide) ?_
                        refine zz_loc (ls' := [(0, .ref vh), (1, .ref ph), (2, .int (iI (b9 + 1)))]) [2, 3, 0] rfl ?_
                        exact ih87 (b9 + 1) (zup gP9 b9 (s9 * (plTerm pb fT b9 3))) (zup gL9 b9 (plTerm pb fT b9 4)) (zup gN9 b9 0) (by omega) (rdp_step (G := plG pd fR) (T := pd) (pr := fun b => plTerm pb fT b 3) (mo := fun b => plTerm pb fT b 4) (y := gY_54) hQ9 (by rw [hse]; rfl) hlm) (by omega)
                    · skip
                      refine zz_iconst C dX5_read_134 ?_
                      refine zz_goto (tgt := 139) C dX5_read_135 (by decide) ?_
                      refine zz_istore_n (ls' := [(3, .int (iI 1)), (0, .ref vh), (1, .ref ph), (2, .int (iI b9))]) C dX5_read_139 rfl (by decide) rfl ?_
                      refine zz_aload_n C 1 dX5_read_140 rfl rfl ?_
                      refine zz_get C 0 (ci := 5) (k := 7) rfl rfl in_X5 (by decide) qw_226 rfl rfl dX5_read_141 ?_
                      refine zz_iload_n C 3 dX5_read_144 rfl rfl ?_
                      refine zz_iload_n C 0 dX5_read_145 rfl rfl ?_
                      refine zz_if_eq (tgt := 158) C dX5_read_146 (by decide) (by unfold rI; omega) (fun c146 => ?_) (fun c146 => ?_)
                      · skip
                        refine zz_iconst C dX5_read_158 ?_
                        have hlm : 0 = if s9 * plTerm pb fT b9 3 < gY_54 b9 pd then plTerm pb fT b9 4 else 0 := by first | (exfalso; omega) | (rw [if_pos (by omega)]) | (rw [if_neg (by omega)])
                        refine zz_iast (ws' := (wLot z vh vc vp vl vy vs vo vt vn rY rS rO s9 vch vat pd pb uC (zup gP9 b9 (s9 * (plTerm pb fT b9 3))) (zup gL9 b9 0) uT gN9 gY_54 gS9 gO_54) ++ (wPlan z ph pa pr pt pd pb fP fR fT)) C 3 rfl (by omega) (by omega) (by decide) rfl dX5_read_159 ?_
                        refine zz_aload_n C 1 dX5_read_160 rfl rfl ?_
                        refine zz_get C 0 (ci := 5) (k := 12) rfl rfl in_X5 (by decide) qw_231 rfl rfl dX5_read_161 ?_
                        refine zz_iload_n C 3 dX5_read_164 rfl rfl ?_
                        refine zz_iconst C dX5_read_165 ?_
                        refine zz_iast (ws' := (wLot z vh vc vp vl vy vs vo vt vn rY rS rO s9 vch vat pd pb uC (zup gP9 b9 (s9 * (plTerm pb fT b9 3))) (zup gL9 b9 0) uT (zup gN9 b9 0) gY_54 gS9 gO_54) ++ (wPlan z ph pa pr pt pd pb fP fR fT)) C 8 rfl (by omega) (by omega) (by decide) rfl dX5_read_166 ?_
                        refine zz_iinc (ls' := [(2, .int (iI (b9 + 1))), (3, .int (iI 1)), (0, .ref vh), (1, .ref ph)]) C 3 dX5_read_167 rfl (by decide) rfl ?_
                        refine zz_goto (tgt := 87) C dX5_read_170 (by decide) ?_
                        refine zz_loc (ls' := [(0, .ref vh), (1, .ref ph), (2, .int (iI (b9 + 1)))]) [2, 3, 0] rfl ?_
                        exact ih87 (b9 + 1) (zup gP9 b9 (s9 * (plTerm pb fT b9 3))) (zup gL9 b9 0) (zup gN9 b9 0) (by omega) (rdp_step (G := plG pd fR) (T := pd) (pr := fun b => plTerm pb fT b 3) (mo := fun b => plTerm pb fT b 4) (y := gY_54) hQ9 (by rw [hse]; rfl) hlm) (by omega)
                      · skip
                        refine zz_aload_n C 2 dX5_read_149 rfl rfl ?_
                        refine zz_iload_n C 3 dX5_read_150 rfl rfl ?_
                        refine zz_iconst C dX5_read_151 ?_
                        refine zz_callV (wr := wLot z vh vc vp vl vy vs vo vt vn rY rS rO s9 vch vat pd pb uC (zup gP9 b9 (s9 * (plTerm pb fT b9 3))) gL9 uT gN9 gY_54 gS9 gO_54) (st := [.int (iI b9), .ref vl]) C (cc_X6_term l z ph pa pr pt pd pb fP fR fT b9 4 (by omega) (by omega) (by omega)) yk_X6_term qw_772 ⟨by decide, by decide⟩ [26, 27, 28, 29] [0, 1, 2, 3, 4, 5, 6, 7, 8, 9, 10, 11, 12, 13, 14, 15, 16, 17, 18, 19, 20, 21, 22, 23, 24, 25] rfl rfl rfl rfl (by decide) 0 6 rfl rfl rfl rfl (Nat.le_of_ble_eq_true rfl) dX5_read_152 ⟨by decide, by decide⟩ ?_
                        rintro _ _ ⟨rfl, rfl⟩
                        refine zz_st (st' := [.int (iI (plTerm pb fT b9 4)), .int (iI b9), .ref vl]) rfl (zz_ws (ws' := (wLot z vh vc vp vl vy vs vo vt vn rY rS rO s9 vch vat pd pb uC (zup gP9 b9 (s9 * (plTerm pb fT b9 3))) gL9 uT gN9 gY_54 gS9 gO_54) ++ (wPlan z ph pa pr pt pd pb fP fR fT)) rfl ?_)
                        have ht4 := plTerm_rng pb hfT b9 4
                        refine zz_goto (tgt := 159) C dX5_read_155 (by decide) ?_
                        have hlm : (plTerm pb fT b9 4) = if s9 * plTerm pb fT b9 3 < gY_54 b9 pd then plTerm pb fT b9 4 else 0 := by first | (exfalso; omega) | (rw [if_pos (by omega)]) | (rw [if_neg (by omega)])
                        refine zz_iast (ws' := (wLot z vh vc vp vl vy vs vo vt vn rY rS rO s9 vch vat pd pb uC (zup gP9 b9 (s9 * (plTerm pb fT b9 3))) (zup gL9 b9 (plTerm pb fT b9 4)) uT gN9 gY_54 gS9 gO_54) ++ (wPlan z ph pa pr pt pd pb fP fR fT)) C 3 rfl (by omega) (by omega) (by decide) rfl dX5_read_159 ?_
                        refine zz_aload_n C 1 dX5_read_160 rfl rfl ?_
                        refine zz_get C 0 (ci := 5) (k := 12) rfl rfl in_X5 (by decide) qw_231 rfl rfl dX5_read_161 ?_
                        refine zz_iload_n C 3 dX5_read_164 rfl rfl ?_
                        refine zz_iconst C dX5_read_165 ?_
                        refine zz_iast (ws' := (wLot z vh vc vp vl vy vs vo vt vn rY rS rO s9 vch vat pd pb uC (zup gP9 b9 (s9 * (plTerm pb fT b9 3))) (zup gL9 b9 (plTerm pb fT b9 4)) uT (zup gN9 b9 0) gY_54 gS9 gO_54) ++ (wPlan z ph pa pr pt pd pb fP fR fT)) C 8 rfl (by omega) (by omega) (by decide) rfl dX5_read_166 ?_
                        refine zz_iinc (ls' := [(2, .int (iI (b9 + 1))), (3, .int (iI 1)), (0, .ref vh), (1, .ref ph)]) C 3 dX5_read_167 rfl (by decide) rfl ?_
                        refine zz_goto (tgt := 87) C dX5_read_170 (by decide) ?_
                        refine zz_loc (ls' := [(0, .ref vh), (1, .ref ph), (2, .int (iI (b9 + 1)))]) [2, 3, 0] rfl ?_
                        exact ih87 (b9 + 1) (zup gP9 b9 (s9 * (plTerm pb fT b9 3))) (zup gL9 b9 (plTerm pb fT b9 4)) (zup gN9 b9 0) (by omega) (rdp_step (G := plG pd fR) (T := pd) (pr := fun b => plTerm pb fT b 3) (mo := fun b => plTerm pb fT b 4) (y := gY_54) hQ9 (by rw [hse]; rfl) hlm) (by omega)
              refine zz_loc (ls' := [(0, .ref vh), (1, .ref ph), (2, .int (iI 0))]) [1, 2, 0] rfl ?_
              exact Lp87 _ 0 uP uL uN (by omega) (fun b h2 h3 => by omega) (Nat.lt_succ_self _)
            · skip
              refine zz_aload_n C 0 dX5_read_67 rfl rfl ?_
              refine zz_get C 0 (ci := 5) (k := 9) rfl rfl in_X5 (by decide) qw_228 rfl rfl dX5_read_68 ?_
              refine zz_aload_n C 0 dX5_read_71 rfl rfl ?_
              refine zz_get C 0 (ci := 5) (k := 5) rfl rfl in_X5 (by decide) qw_224 rfl rfl dX5_read_72 ?_
              refine zz_qald C 5 rfl (by omega) (by omega) (by decide) dX5_read_75 ?_
              refine zz_iload_n C 2 dX5_read_76 rfl rfl ?_
              refine zz_lconst (a := 0) C dX5_read_77 (by decide +kernel) ?_
              refine zz_last (T := gS9 pb) (ws' := (wLot z vh vc vp vl vy vs vo vt vn rY rS rO s9 vch vat pd pb uC uP uL uT uN gY_54 (zup2 gS9 pb d8 0) gO_54) ++ (wPlan z ph pa pr pt pd pb fP fR fT)) C (14 + pb.toNat) (zz_c6 (P := fun i9 => ((wLot z vh vc vp vl vy vs vo vt vn rY rS rO s9 vch vat pd pb uC uP uL uT uN gY_54 gS9 gO_54) ++ (wPlan z ph pa pr pt pd pb fP fR fT) : va_W)[14 + i9.toNat]? = some (rS i9, lrow 5 (z.2.1 2) (gS9 i9))) rfl rfl rfl rfl rfl rfl (by omega) (by omega)) (by omega) (by omega) (by decide) (zz_c6 (P := fun i9 => ((wLot z vh vc vp vl vy vs vo vt vn rY rS rO s9 vch vat pd pb uC uP uL uT uN gY_54 gS9 gO_54) ++ (wPlan z ph pa pr pt pd pb fP fR fT) : va_W).set (14 + i9.toNat) (rS i9, lrow 5 (z.2.1 2) (zup (gS9 i9) d8 0)) = ((wLot z vh vc vp vl vy vs vo vt vn rY rS rO s9 vch vat pd pb uC uP uL uT uN gY_54 (zup2 gS9 i9 d8 0) gO_54) ++ (wPlan z ph pa pr pt pd pb fP fR fT))) rfl rfl rfl rfl rfl rfl (by omega) (by omega)) dX5_read_78 ?_
              refine zz_iinc (ls' := [(2, .int (iI (d8 + 1))), (0, .ref vh), (1, .ref ph)]) C 2 dX5_read_79 rfl (by decide) rfl ?_
              refine zz_goto (tgt := 59) C dX5_read_82 (by decide) ?_
              refine zz_loc (ls' := [(0, .ref vh), (1, .ref ph), (2, .int (iI (d8 + 1)))]) [1, 2, 0] rfl ?_
              exact ih59 (d8 + 1) (zup2 gS9 pb d8 0) (by omega) (fun d h2 h3 => by rcases (show d = d8 ∨ d < d8 by omega) with e9 | e9; (rw [e9, zup2_eq]); (rw [zup2_ne (by omega)]; exact hS9 d h2 e9)) (by omega)
        refine zz_loc (ls' := [(0, .ref vh), (1, .ref ph), (2, .int (iI 1))]) [1, 2, 0] rfl ?_
        exact Lp59 _ 1 uS (by omega) (fun d h2 h3 => by omega) (Nat.lt_succ_self _)
      · skip
        refine zz_aload_n C 0 dX5_read_31 rfl rfl ?_
        refine zz_dup C dX5_read_32 rfl ?_
        refine zz_get C 0 (ci := 5) (k := 0) rfl rfl in_X5 (by decide) qw_215 rfl rfl dX5_read_33 ?_
        refine zz_aload_n C 1 dX5_read_36 rfl rfl ?_
        refine zz_iload_n C 2 dX5_read_37 rfl rfl ?_
        refine zz_callV (wr := wLot z vh vc vp vl vy vs vo vt vn rY rS rO s9 vch vat pd pb uC uP uL uT uN uY uS uO) (st := [.long (iL s9), .ref vh]) C (cc_X6_growth l z ph pa pr pt pd pb fP fR fT d9 (by omega) (by omega) (by omega)) yk_X6_growth qw_764 ⟨by decide, by decide⟩ [26, 27, 28, 29] [0, 1, 2, 3, 4, 5, 6, 7, 8, 9, 10, 11, 12, 13, 14, 15, 16, 17, 18, 19, 20, 21, 22, 23, 24, 25] rfl rfl rfl rfl (by decide) 0 6 rfl rfl rfl rfl (Nat.le_of_ble_eq_true rfl) dX5_read_38 ⟨by decide, by decide⟩ ?_
        rintro _ _ ⟨rfl, rfl⟩
        refine zz_st (st' := [.int (iI (20 + plAt pd fR d9)), .long (iL s9), .ref vh]) rfl (zz_ws (ws' := (wLot z vh vc vp vl vy vs vo vt vn rY rS rO s9 vch vat pd pb uC uP uL uT uN uY uS uO) ++ (wPlan z ph pa pr pt pd pb fP fR fT)) rfl ?_)
        have hg9 := hg d9
        have hge : plG pd fR d9 = 20 + plAt pd fR d9 := rfl
        refine zz_i2l C dX5_read_41 (by unfold rI; omega) ?_
        refine zz_lmul C dX5_read_42 ?_
        refine zz_put (ty := .long) (ws' := (wLot z vh vc vp vl vy vs vo vt vn rY rS rO (s9 * (20 + plAt pd fR d9)) vch vat pd pb uC uP uL uT uN uY uS uO) ++ (wPlan z ph pa pr pt pd pb fP fR fT)) C 0 (ci := 5) (k := 0) rfl rfl in_X5 tyX5 tyX5_ok nmX5 (by decide) qw_215 rfl rfl (by decide +kernel) rfl rfl (Nat.le_of_ble_eq_true rfl) rfl dX5_read_43 ?_
        refine zz_iinc (ls' := [(2, .int (iI (d9 + 1))), (0, .ref vh), (1, .ref ph)]) C 2 dX5_read_46 rfl (by decide) rfl ?_
        refine zz_goto (tgt := 23) C dX5_read_49 (by decide) ?_
        refine zz_loc (ls' := [(0, .ref vh), (1, .ref ph), (2, .int (iI (d9 + 1)))]) [1, 2, 0] rfl ?_
        exact ih23 (d9 + 1) (s9 * (20 + plAt pd fR d9)) (by omega) (by rw [show d9 + 1 - 1 = d9 - 1 + 1 by omega, grw_succ _ (by omega), hs9, show d9 - 1 + 1 = d9 by omega]; rfl) (by omega)
  refine zz_loc (ls' := [(0, .ref vh), (1, .ref ph), (2, .int (iI 1))]) [1, 2, 0] rfl ?_
  exact Lp23 _ 1 1 (by omega) rfl (Nat.lt_succ_self _)
abbrev po_X5_findFor (z : zC) (vh : Nat) (vc : Nat) (vp : Nat) (vl : Nat) (vy : Nat) (vs : Nat) (vo : Nat) (vt : Nat) (vn : Nat) (rY : Int → Nat) (rS : Int → Nat) (rO : Int → Nat) (vsc : Int) (vch : Int) (vat : Int) (vd : Int) (vb : Int) (uC : Int → Int) (uP : Int → Int) (uL : Int → Int) (uT : Int → Int) (uN : Int → Int) (uY : Int → Int → Int) (uS : Int → Int → Int) (uO : Int → Int → Int) (ph : Nat) (pa : Nat) (pr : Nat) (pt : Nat) (pd : Int) (pb : Int) (fP : Int → Int) (fR : Int → Int) (fT : Int → Int) : Option Value → va_W → Prop := fun v w => ∃ (gs : Int), ∃ (gh9 : Int), ∃ (ga9 : Int), ∃ (gC : Int → Int), ∃ (gP9 : Int → Int), ∃ (gL9 : Int → Int), ∃ (gT : Int → Int), ∃ (gN9 : Int → Int), ∃ (gY : Int → Int → Int), ∃ (gS9 : Int → Int → Int), ∃ (gO : Int → Int → Int), (lotOk pd pb fP fR fT gs gh9 ga9 gC) ∧ (gT 0 = 0) ∧ v = none ∧ w = (wLot z vh vc vp vl vy vs vo vt vn rY rS rO gs gh9 ga9 pd pb gC gP9 gL9 gT gN9 gY gS9 gO) ++ (wPlan z ph pa pr pt pd pb fP fR fT)
abbrev rm_X5_findFor : Room := { frames := 9, cells := 0, slots := 0, locals := 241 }
set_option maxHeartbeats 4000000 in
set_option maxRecDepth 100000 in
theorem cc_X5_findFor (l : Launch) (z : zC) (vh : Nat) (vc : Nat) (vp : Nat) (vl : Nat) (vy : Nat) (vs : Nat) (vo : Nat) (vt : Nat) (vn : Nat) (rY : Int → Nat) (rS : Int → Nat) (rO : Int → Nat) (vsc : Int) (vch : Int) (vat : Int) (vd : Int) (vb : Int) (uC : Int → Int) (uP : Int → Int) (uL : Int → Int) (uT : Int → Int) (uN : Int → Int) (uY : Int → Int → Int) (uS : Int → Int → Int) (uO : Int → Int → Int) (ph : Nat) (pa : Nat) (pr : Nat) (pt : Nat) (pd : Int) (pb : Int) (fP : Int → Int) (fR : Int → Int) (fT : Int → Int) (hpd : 1 ≤ pd ∧ pd ≤ 4) (hpb : 0 ≤ pb ∧ pb ≤ 5) (hfP : ∀ i : Int, 0 ≤ fP i ∧ fP i ≤ 200) (hfR : ∀ i : Int, 0 ≤ fR i ∧ fR i ≤ 6) (hfT : ∀ i : Int, 0 ≤ fT i ∧ fT i ≤ 200) (hok : plOk pb fT) (hok2 : plOk2 pb fT) (hu0 : uT 0 = 0) : zzMet l yX5_findFor cX5_findFor 6 none rm_X5_findFor z [.ref vh, .ref ph] ((wLot z vh vc vp vl vy vs vo vt vn rY rS rO vsc vch vat vd vb uC uP uL uT uN uY uS uO) ++ (wPlan z ph pa pr pt pd pb fP fR fT)) (po_X5_findFor z vh vc vp vl vy vs vo vt vn rY rS rO vsc vch vat vd vb uC uP uL uT uN uY uS uO ph pa pr pt pd pb fP fR fT) := by
  refine zzMet.of (own := RX5) (ls0 := [(0, .ref vh), (1, .ref ph)]) (by decide) rfl (Nat.le_of_ble_eq_true rfl) rfl ?_
  intro p e s m below meth c A C hr hnm
  refine zz_aload_n C 0 dX5_findFor_0 rfl rfl ?_
  refine zz_aload_n C 1 dX5_findFor_1 rfl rfl ?_
  refine zz_callV (wr := ([] : va_W)) (st := []) C (cc_X5_read l z vh vc vp vl vy vs vo vt vn rY rS rO vsc vch vat vd vb uC uP uL uT uN uY uS uO ph pa pr pt pd pb fP fR fT (by omega) (by omega) (by omega) (by omega) (by omega) (by omega) (by omega)) yk_X5_read qw_760 ⟨by decide, by decide⟩ [0, 1, 2, 3, 4, 5, 6, 7, 8, 9, 10, 11, 12, 13, 14, 15, 16, 17, 18, 19, 20, 21, 22, 23, 24, 25, 26, 27, 28, 29] [] rfl rfl rfl rfl (by decide) 0 5 rfl rfl rfl rfl (Nat.le_of_ble_eq_true rfl) dX5_findFor_2 ⟨by decide, by decide⟩ ?_
  rintro _ _ ⟨gs_2, gP9_2, gL9_2, gN9_2, gY_2, gO_2, gS9_2, hrd_2, hsv_2, rfl, rfl⟩
  refine zz_st (st' := []) rfl (zz_ws (ws' := (wLot z vh vc vp vl vy vs vo vt vn rY rS rO gs_2 vch vat pd pb uC gP9_2 gL9_2 uT gN9_2 gY_2 gS9_2 gO_2) ++ (wPlan z ph pa pr pt pd pb fP fR fT)) rfl ?_)
  refine zz_aload_n C 0 dX5_findFor_5 rfl rfl ?_
  refine zz_get C 0 (ci := 5) (k := 5) rfl rfl in_X5 (by decide) qw_224 rfl rfl dX5_findFor_6 ?_
  refine zz_iconst C dX5_findFor_9 ?_
  refine zz_isub C dX5_findFor_10 ?_
  refine zz_istore_n (ls' := [(2, .int (iI (pb - 1))), (0, .ref vh), (1, .ref ph)]) C dX5_findFor_11 rfl (by decide) rfl ?_
  have Lp12 : ∀ (fu9 : Nat) (k : Int) (gS8 : Int → Int → Int), (-1 ≤ k ∧ k < pb) → ((∀ d : Int, 1 ≤ d → d ≤ pd → gS8 pb d = 0) ∧ (∀ b d : Int, k < b → b < pb → 1 ≤ d → d ≤ pd → gS8 b d = gS8 (b + 1) d + gL9_2 b * max 0 (gY_2 b d - gP9_2 b)) ∧ ∀ d : Int, 1 ≤ d → d < 1 → gS8 k d = gS8 (k + 1) d + gL9_2 k * max 0 (gY_2 k d - gP9_2 k)) → (k + 1).toNat < fu9 → zzW p l e rm_X5_findFor s m ([.ref vh, .ref ph] : List Value).toArray below meth c z A 6 (MQ below (zQ z A (po_X5_findFor z vh vc vp vl vy vs vo vt vn rY rS rO vsc vch vat vd vb uC uP uL uT uN uY uS uO ph pa pr pt pd pb fP fR fT)) ([.ref vh, .ref ph] : List Value).toArray s 0 0 A) 0 0 ((wLot z vh vc vp vl vy vs vo vt vn rY rS rO gs_2 vch vat pd pb uC gP9_2 gL9_2 uT gN9_2 gY_2 gS8 gO_2) ++ (wPlan z ph pa pr pt pd pb fP fR fT)) [(0, .ref vh), (1, .ref ph), (2, .int (iI k))] [] 12 := by
    intro fu9
    induction fu9 with
    | zero => intro k gS8 hk hS8 h9; exact absurd h9 (Nat.not_lt_zero _)
    | succ fu9 ih12 =>
      intro k gS8 hk hS8 hm12
      refine zz_iload_n C 2 dX5_findFor_12 rfl rfl ?_
      refine zz_if_lt (tgt := 88) C dX5_findFor_13 (by decide) (by unfold rI; omega) (fun c13 => ?_) (fun c13 => ?_)
      · skip
        have hsR : savR pd pb gP9_2 gL9_2 gY_2 gS8 := ⟨hS8.1, fun b d h0 h1 h2 h3 => hS8.2.1 b d (by omega) h1 h2 h3⟩
        have hlS := rd_lSt hpd hpb hfP hfR hfT hok hok2 hrd_2 hsR
        have hT8 : uT 0 = spF gP9_2 gN9_2 0 := hu0
        have hO8 : ∀ d : Int, 1 ≤ d → d ≤ pd → gO_2 0 d = owF (lOf (plG pd fR) (plAt pd fP) pd) gY_2 gN9_2 0 d := fun d h0 h1 => by rw [hrd_2.2.2.2 d h0 h1]; unfold owF; rw [zsum_0]; omega
        have hx8 : bxd 0 gL9_2 gN9_2 := fun c h0 h1 => by omega
        have hlr := lst_rng hlS (b := 0) (m := gN9_2) (by omega) (by omega) hx8
        refine zz_aload_n C 0 dX5_findFor_88 rfl rfl ?_
        refine zz_ldc2 (a := 9223372036854775807) C qw_776 (by decide +kernel) dX5_findFor_89 ?_
        refine zz_put (ty := .long) (ws' := (wLot z vh vc vp vl vy vs vo vt vn rY rS rO gs_2 9223372036854775807 vat pd pb uC gP9_2 gL9_2 uT gN9_2 gY_2 gS8 gO_2) ++ (wPlan z ph pa pr pt pd pb fP fR fT)) C 0 (ci := 5) (k := 1) rfl rfl in_X5 tyX5 tyX5_ok nmX5 (by decide) qw_217 rfl rfl (by decide +kernel) rfl rfl (Nat.le_of_ble_eq_true rfl) rfl dX5_findFor_92 ?_
        refine zz_aload_n C 0 dX5_findFor_95 rfl rfl ?_
        refine zz_iconst C dX5_findFor_96 ?_
        rcases (show pb = 0 ∨ pb = 1 ∨ pb = 2 ∨ pb = 3 ∨ pb = 4 ∨ pb = 5 by omega) with e9 | e9 | e9 | e9 | e9 | e9
        · skip
          refine zz_callV (wr := wPlan z ph pa pr pt pd pb fP fR fT) (st := []) C (cc_X5_search_0 l z vh vc vp vl vy vs vo vt vn rY rS rO gs_2 9223372036854775807 vat pd pb uC gP9_2 gL9_2 uT gN9_2 gY_2 gS8 gO_2 (lOf (plG pd fR) (plAt pd fP) pd) 0 hlS (by omega) hT8 hO8 hx8 (by omega) (by omega)) yk_X5_search qw_777 ⟨by decide, by decide⟩ [0, 1, 2, 3, 4, 5, 6, 7, 8, 9, 10, 11, 12, 13, 14, 15, 16, 17, 18, 19, 20, 21, 22, 23, 24, 25] [26, 27, 28, 29] rfl rfl rfl rfl (by decide) 0 5 rfl rfl rfl rfl (Nat.le_of_ble_eq_true rfl) dX5_findFor_97 ⟨by decide, by decide⟩ ?_
          rintro _ _ ⟨gh9_97, ga9_97, gC_97, gN_97, gT_97, gO_97, hfr_97, hgh_97, hres_97, rfl, rfl⟩
          refine zz_st (st' := []) rfl (zz_ws (ws' := (wPlan z ph pa pr pt pd pb fP fR fT) ++ (wLot z vh vc vp vl vy vs vo vt vn rY rS rO gs_2 gh9_97 ga9_97 pd pb gC_97 gP9_2 gL9_2 gT_97 gN_97 gY_2 gS8 gO_97)) rfl ?_)
          refine zz_sub (ws' := (wLot z vh vc vp vl vy vs vo vt vn rY rS rO gs_2 gh9_97 ga9_97 pd pb gC_97 gP9_2 gL9_2 gT_97 gN_97 gY_2 gS8 gO_97) ++ (wPlan z ph pa pr pt pd pb fP fR fT)) [4, 5, 6, 7, 8, 9, 10, 11, 12, 13, 14, 15, 16, 17, 18, 19, 20, 21, 22, 23, 24, 25, 26, 27, 28, 29, 0, 1, 2, 3] rfl rfl ?_
          exact zz_vret C hr dX5_findFor_100 ⟨_, _, _, _, _, _, _, _, _, _, _, lot_end hpd hpb hfP hfR hfT hok hok2 hrd_2 hsR rfl hres_97, by rw [hfr_97.2.1 0 (by omega) (by omega)]; exact hu0, rfl, rfl⟩
        · skip
          refine zz_callV (wr := wPlan z ph pa pr pt pd pb fP fR fT) (st := []) C (cc_X5_search_1 l z vh vc vp vl vy vs vo vt vn rY rS rO gs_2 9223372036854775807 vat pd pb uC gP9_2 gL9_2 uT gN9_2 gY_2 gS8 gO_2 (lOf (plG pd fR) (plAt pd fP) pd) 0 hlS (by omega) hT8 hO8 hx8 (by omega) (by omega)) yk_X5_search qw_777 ⟨by decide, by decide⟩ [0, 1, 2, 3, 4, 5, 6, 7, 8, 9, 10, 11, 12, 13, 14, 15, 16, 17, 18, 19, 20, 21, 22, 23, 24, 25] [26, 27, 28, 29] rfl rfl rfl rfl (by decide) 0 5 rfl rfl rfl rfl (Nat.le_of_ble_eq_true rfl) dX5_findFor_97 ⟨by decide, by decide⟩ ?_
          rintro _ _ ⟨gh9_97, ga9_97, gC_97, gN_97, gT_97, gO_97, hfr_97, hgh_97, hres_97, rfl, rfl⟩
          refine zz_st (st' := []) rfl (zz_ws (ws' := (wPlan z ph pa pr pt pd pb fP fR fT) ++ (wLot z vh vc vp vl vy vs vo vt vn rY rS rO gs_2 gh9_97 ga9_97 pd pb gC_97 gP9_2 gL9_2 gT_97 gN_97 gY_2 gS8 gO_97)) rfl ?_)
          refine zz_sub (ws' := (wLot z vh vc vp vl vy vs vo vt vn rY rS rO gs_2 gh9_97 ga9_97 pd pb gC_97 gP9_2 gL9_2 gT_97 gN_97 gY_2 gS8 gO_97) ++ (wPlan z ph pa pr pt pd pb fP fR fT)) [4, 5, 6, 7, 8, 9, 10, 11, 12, 13, 14, 15, 16, 17, 18, 19, 20, 21, 22, 23, 24, 25, 26, 27, 28, 29, 0, 1, 2, 3] rfl rfl ?_
          exact zz_vret C hr dX5_findFor_100 ⟨_, _, _, _, _, _, _, _, _, _, _, lot_end hpd hpb hfP hfR hfT hok hok2 hrd_2 hsR rfl hres_97, by rw [hfr_97.2.1 0 (by omega) (by omega)]; exact hu0, rfl, rfl⟩
        · skip
          refine zz_callV (wr := wPlan z ph pa pr pt pd pb fP fR fT) (st := []) C (cc_X5_search_2 l z vh vc vp vl vy vs vo vt vn rY rS rO gs_2 9223372036854775807 vat pd pb uC gP9_2 gL9_2 uT gN9_2 gY_2 gS8 gO_2 (lOf (plG pd fR) (plAt pd fP) pd) 0 hlS (by omega) hT8 hO8 hx8 (by omega) (by omega)) yk_X5_search qw_777 ⟨by decide, by decide⟩ [0, 1, 2, 3, 4, 5, 6, 7, 8, 9, 10, 11, 12, 13, 14, 15, 16, 17, 18, 19, 20, 21, 22, 23, 24, 25] [26, 27, 28, 29] rfl rfl rfl rfl (by decide) 0 5 rfl rfl rfl rfl (Nat.le_of_ble_eq_true rfl) dX5_findFor_97 ⟨by decide, by decide⟩ ?_
          rintro _ _ ⟨gh9_97, ga9_97, gC_97, gN_97, gT_97, gO_97, hfr_97, hgh_97, hres_97, rfl, rfl⟩
          refine zz_st (st' := []) rfl (zz_ws (ws' := (wPlan z ph pa pr pt pd pb fP fR fT) ++ (wLot z vh vc vp vl vy vs vo vt vn rY rS rO gs_2 gh9_97 ga9_97 pd pb gC_97 gP9_2 gL9_2 gT_97 gN_97 gY_2 gS8 gO_97)) rfl ?_)
          refine zz_sub (ws' := (wLot z vh vc vp vl vy vs vo vt vn rY rS rO gs_2 gh9_97 ga9_97 pd pb gC_97 gP9_2 gL9_2 gT_97 gN_97 gY_2 gS8 gO_97) ++ (wPlan z ph pa pr pt pd pb fP fR fT)) [4, 5, 6, 7, 8, 9, 10, 11, 12, 13, 14, 15, 16, 17, 18, 19, 20, 21, 22, 23, 24, 25, 26, 27, 28, 29, 0, 1, 2, 3] rfl rfl ?_
          exact zz_vret C hr dX5_findFor_100 ⟨_, _, _, _, _, _, _, _, _, _, _, lot_end hpd hpb hfP hfR hfT hok hok2 hrd_2 hsR rfl hres_97, by rw [hfr_97.2.1 0 (by omega) (by omega)]; exact hu0, rfl, rfl⟩
        · skip
          refine zz_callV (wr := wPlan z ph pa pr pt pd pb fP fR fT) (st := []) C (cc_X5_search_3 l z vh vc vp vl vy vs vo vt vn rY rS rO gs_2 9223372036854775807 vat pd pb uC gP9_2 gL9_2 uT gN9_2 gY_2 gS8 gO_2 (lOf (plG pd fR) (plAt pd fP) pd) 0 hlS (by omega) hT8 hO8 hx8 (by omega) (by omega)) yk_X5_search qw_777 ⟨by decide, by decide⟩ [0, 1, 2, 3, 4, 5, 6, 7, 8, 9, 10, 11, 12, 13, 14, 15, 16, 17, 18, 19, 20, 21, 22, 23, 24, 25] [26, 27, 28, 29] rfl rfl rfl rfl (by decide) 0 5 rfl rfl rfl rfl (Nat.le_of_ble_eq_true rfl) dX5_findFor_97 ⟨by decide, by decide⟩ ?_
          rintro _ _ ⟨gh9_97, ga9_97, gC_97, gN_97, gT_97, gO_97, hfr_97, hgh_97, hres_97, rfl, rfl⟩
          refine zz_st (st' := []) rfl (zz_ws (ws' := (wPlan z ph pa pr pt pd pb fP fR fT) ++ (wLot z vh vc vp vl vy vs vo vt vn rY rS rO gs_2 gh9_97 ga9_97 pd pb gC_97 gP9_2 gL9_2 gT_97 gN_97 gY_2 gS8 gO_97)) rfl ?_)
          refine zz_sub (ws' := (wLot z vh vc vp vl vy vs vo vt vn rY rS rO gs_2 gh9_97 ga9_97 pd pb gC_97 gP9_2 gL9_2 gT_97 gN_97 gY_2 gS8 gO_97) ++ (wPlan z ph pa pr pt pd pb fP fR fT)) [4, 5, 6, 7, 8, 9, 10, 11, 12, 13, 14, 15, 16, 17, 18, 19, 20, 21, 22, 23, 24, 25, 26, 27, 28, 29, 0, 1, 2, 3] rfl rfl ?_
          exact zz_vret C hr dX5_findFor_100 ⟨_, _, _, _, _, _, _, _, _, _, _, lot_end hpd hpb hfP hfR hfT hok hok2 hrd_2 hsR rfl hres_97, by rw [hfr_97.2.1 0 (by omega) (by omega)]; exact hu0, rfl, rfl⟩
        · skip
          refine zz_callV (wr := wPlan z ph pa pr pt pd pb fP fR fT) (st := []) C (cc_X5_search_4 l z vh vc vp vl vy vs vo vt vn rY rS rO gs_2 9223372036854775807 vat pd pb uC gP9_2 gL9_2 uT gN9_2 gY_2 gS8 gO_2 (lOf (plG pd fR) (plAt pd fP) pd) 0 hlS (by omega) hT8 hO8 hx8 (by omega) (by omega)) yk_X5_search qw_777 ⟨by decide, by decide⟩ [0, 1, 2, 3, 4, 5, 6, 7, 8, 9, 10, 11, 12, 13, 14, 15, 16, 17, 18, 19, 20, 21, 22, 23, 24, 25] [26, 27, 28, 29] rfl rfl rfl rfl (by decide) 0 5 rfl rfl rfl rfl (Nat.le_of_ble_eq_true rfl) dX5_findFor_97 ⟨by decide, by decide⟩ ?_
          rintro _ _ ⟨gh9_97, ga9_97, gC_97, gN_97, gT_97, gO_97, hfr_97, hgh_97, hres_97, rfl, rfl⟩
          refine zz_st (st' := []) rfl (zz_ws (ws' := (wPlan z ph pa pr pt pd pb fP fR fT) ++ (wLot z vh vc vp vl vy vs vo vt vn rY rS rO gs_2 gh9_97 ga9_97 pd pb gC_97 gP9_2 gL9_2 gT_97 gN_97 gY_2 gS8 gO_97)) rfl ?_)
          refine zz_sub (ws' := (wLot z vh vc vp vl vy vs vo vt vn rY rS rO gs_2 gh9_97 ga9_97 pd pb gC_97 gP9_2 gL9_2 gT_97 gN_97 gY_2 gS8 gO_97) ++ (wPlan z ph pa pr pt pd pb fP fR fT)) [4, 5, 6, 7, 8, 9, 10, 11, 12, 13, 14, 15, 16, 17, 18, 19, 20, 21, 22, 23, 24, 25, 26, 27, 28, 29, 0, 1, 2, 3] rfl rfl ?_
          exact zz_vret C hr dX5_findFor_100 ⟨_, _, _, _, _, _, _, _, _, _, _, lot_end hpd hpb hfP hfR hfT hok hok2 hrd_2 hsR rfl hres_97, by rw [hfr_97.2.1 0 (by omega) (by omega)]; exact hu0, rfl, rfl⟩
        · skip
          refine zz_callV (wr := wPlan z ph pa pr pt pd pb fP fR fT) (st := []) C (cc_X5_search_5 l z vh vc vp vl vy vs vo vt vn rY rS rO gs_2 9223372036854775807 vat pd pb uC gP9_2 gL9_2 uT gN9_2 gY_2 gS8 gO_2 (lOf (plG pd fR) (plAt pd fP) pd) 0 hlS (by omega) hT8 hO8 hx8 (by omega) (by omega)) yk_X5_search qw_777 ⟨by decide, by decide⟩ [0, 1, 2, 3, 4, 5, 6, 7, 8, 9, 10, 11, 12, 13, 14, 15, 16, 17, 18, 19, 20, 21, 22, 23, 24, 25] [26, 27, 28, 29] rfl rfl rfl rfl (by decide) 0 5 rfl rfl rfl rfl (Nat.le_of_ble_eq_true rfl) dX5_findFor_97 ⟨by decide, by decide⟩ ?_
          rintro _ _ ⟨gh9_97, ga9_97, gC_97, gN_97, gT_97, gO_97, hfr_97, hgh_97, hres_97, rfl, rfl⟩
          refine zz_st (st' := []) rfl (zz_ws (ws' := (wPlan z ph pa pr pt pd pb fP fR fT) ++ (wLot z vh vc vp vl vy vs vo vt vn rY rS rO gs_2 gh9_97 ga9_97 pd pb gC_97 gP9_2 gL9_2 gT_97 gN_97 gY_2 gS8 gO_97)) rfl ?_)
          refine zz_sub (ws' := (wLot z vh vc vp vl vy vs vo vt vn rY rS rO gs_2 gh9_97 ga9_97 pd pb gC_97 gP9_2 gL9_2 gT_97 gN_97 gY_2 gS8 gO_97) ++ (wPlan z ph pa pr pt pd pb fP fR fT)) [4, 5, 6, 7, 8, 9, 10, 11, 12, 13, 14, 15, 16, 17, 18, 19, 20, 21, 22, 23, 24, 25, 26, 27, 28, 29, 0, 1, 2, 3] rfl rfl ?_
          exact zz_vret C hr dX5_findFor_100 ⟨_, _, _, _, _, _, _, _, _, _, _, lot_end hpd hpb hfP hfR hfT hok hok2 hrd_2 hsR rfl hres_97, by rw [hfr_97.2.1 0 (by omega) (by omega)]; exact hu0, rfl, rfl⟩
      · skip
        refine zz_iconst C dX5_findFor_16 ?_
        refine zz_istore_n (ls' := [(3, .int (iI 1)), (0, .ref vh), (1, .ref ph), (2, .int (iI k))]) C dX5_findFor_17 rfl (by decide) rfl ?_
        have Lp18 : ∀ (fu9 : Nat) (j : Int) (gS7 : Int → Int → Int), (1 ≤ j ∧ j ≤ pd + 1) → ((∀ d : Int, 1 ≤ d → d ≤ pd → gS7 pb d = 0) ∧ (∀ b d : Int, k < b → b < pb → 1 ≤ d → d ≤ pd → gS7 b d = gS7 (b + 1) d + gL9_2 b * max 0 (gY_2 b d - gP9_2 b)) ∧ ∀ d : Int, 1 ≤ d → d < j → gS7 k d = gS7 (k + 1) d + gL9_2 k * max 0 (gY_2 k d - gP9_2 k)) → (pd + 1 - j).toNat < fu9 → zzW p l e rm_X5_findFor s m ([.ref vh, .ref ph] : List Value).toArray below meth c z A 6 (MQ below (zQ z A (po_X5_findFor z vh vc vp vl vy vs vo vt vn rY rS rO vsc vch vat vd vb uC uP uL uT uN uY uS uO ph pa pr pt pd pb fP fR fT)) ([.ref vh, .ref ph] : List Value).toArray s 0 0 A) 0 0 ((wLot z vh vc vp vl vy vs vo vt vn rY rS rO gs_2 vch vat pd pb uC gP9_2 gL9_2 uT gN9_2 gY_2 gS7 gO_2) ++ (wPlan z ph pa pr pt pd pb fP fR fT)) [(0, .ref vh), (1, .ref ph), (2, .int (iI k)), (3, .int (iI j))] [] 18 := by
          intro fu9
          induction fu9 with
          | zero => intro j gS7 hj hS7 h9; exact absurd h9 (Nat.not_lt_zero _)
          | succ fu9 ih18 =>
            intro j gS7 hj hS7 hm18
            refine zz_iload_n C 3 dX5_findFor_18 rfl rfl ?_
            refine zz_aload_n C 0 dX5_findFor_19 rfl rfl ?_
            refine zz_get C 0 (ci := 5) (k := 4) rfl rfl in_X5 (by decide) qw_223 rfl rfl dX5_findFor_20 ?_
            refine zz_icmp_gt (tgt := 82) C dX5_findFor_23 (by decide) (by unfold rI; omega) (by unfold rI; omega) (fun c23 => ?_) (fun c23 => ?_)
            · skip
              refine zz_iinc (ls' := [(2, .int (iI (k + (-1)))), (0, .ref vh), (1, .ref ph), (3, .int (iI j))]) C 2 dX5_findFor_82 rfl (by decide) rfl ?_
              refine zz_goto (tgt := 12) C dX5_findFor_85 (by decide) ?_
              refine zz_loc (ls' := [(0, .ref vh), (1, .ref ph), (2, .int (iI (k + (-1))))]) [1, 2, 0] rfl ?_
              exact ih12 (k + (-1)) gS7 (by omega) ⟨hS7.1, fun b d h0 h1 h2 h3 => by rcases (show b = k ∨ k < b by omega) with e9 | e9; (rw [e9]; exact hS7.2.2 d h2 (by omega)); exact hS7.2.1 b d e9 h1 h2 h3, fun d h0 h1 => by omega⟩ (by omega)
            · skip
              have hr1 := rd_k hpd hpb hfP hfR hfT hok hok2 hrd_2 (b := k) (d := j) (by omega) (by omega) (by omega) (by omega)
              refine zz_lconst (a := 0) C dX5_findFor_26 (by decide +kernel) ?_
              refine zz_aload_n C 0 dX5_findFor_27 rfl rfl ?_
              refine zz_get C 0 (ci := 5) (k := 8) rfl rfl in_X5 (by decide) qw_227 rfl rfl dX5_findFor_28 ?_
              refine zz_iload_n C 2 dX5_findFor_31 rfl rfl ?_
              refine zz_qald C 4 rfl (by omega) (by omega) (by decide) dX5_findFor_32 ?_
              refine zz_iload_n C 3 dX5_findFor_33 rfl rfl ?_
              refine zz_lald (T := gY_2 k) C (9 + k.toNat) (zz_c5 (P := fun i9 => ((wLot z vh vc vp vl vy vs vo vt vn rY rS rO gs_2 vch vat pd pb uC gP9_2 gL9_2 uT gN9_2 gY_2 gS7 gO_2) ++ (wPlan z ph pa pr pt pd pb fP fR fT) : va_W)[9 + i9.toNat]? = some (rY i9, lrow 5 (z.2.1 2) (gY_2 i9))) rfl rfl rfl rfl rfl (by omega) (by omega)) (by omega) (by omega) (by decide) dX5_findFor_34 ?_
              refine zz_aload_n C 0 dX5_findFor_35 rfl rfl ?_
              refine zz_get C 0 (ci := 5) (k := 6) rfl rfl in_X5 (by decide) qw_225 rfl rfl dX5_findFor_36 ?_
              refine zz_iload_n C 2 dX5_findFor_39 rfl rfl ?_
              refine zz_lald C 2 rfl (by omega) (by omega) (by decide) dX5_findFor_40 ?_
              refine zz_lsub C dX5_findFor_41 ?_
              refine zz_mmax C qw_773 (by unfold rL; omega) (by unfold rL; omega) ⟨by decide, by decide⟩ ⟨by decide, by decide⟩ dX5_findFor_42 ?_
              refine zz_lstore (ls' := [(4, .long (iL (max 0 ((gY_2 k j) - (gP9_2 k))))), (0, .ref vh), (1, .ref ph), (2, .int (iI k)), (3, .int (iI j))]) C dX5_findFor_45 (by decide) rfl ?_
              refine zz_aload_n C 1 dX5_findFor_47 rfl rfl ?_
              refine zz_get C 0 (ci := 5) (k := 9) rfl rfl in_X5 (by decide) qw_228 rfl rfl dX5_findFor_48 ?_
              refine zz_iload_n C 3 dX5_findFor_51 rfl rfl ?_
              refine zz_qald C 5 rfl (by omega) (by omega) (by decide) dX5_findFor_52 ?_
              refine zz_iload_n C 4 dX5_findFor_53 rfl rfl ?_
              refine zz_aload_n C 1 dX5_findFor_54 rfl rfl ?_
              refine zz_get C 0 (ci := 5) (k := 9) rfl rfl in_X5 (by decide) qw_228 rfl rfl dX5_findFor_55 ?_
              refine zz_iload_n C 3 dX5_findFor_58 rfl rfl ?_
              refine zz_iconst C dX5_findFor_59 ?_
              refine zz_iadd C dX5_findFor_60 ?_
              refine zz_qald C 5 rfl (by omega) (by omega) (by decide) dX5_findFor_61 ?_
              refine zz_iload_n C 4 dX5_findFor_62 rfl rfl ?_
              refine zz_lald (T := gS7 (k + 1)) C (14 + (k + 1).toNat) (zz_c6 (P := fun i9 => ((wLot z vh vc vp vl vy vs vo vt vn rY rS rO gs_2 vch vat pd pb uC gP9_2 gL9_2 uT gN9_2 gY_2 gS7 gO_2) ++ (wPlan z ph pa pr pt pd pb fP fR fT) : va_W)[14 + i9.toNat]? = some (rS i9, lrow 5 (z.2.1 2) (gS7 i9))) rfl rfl rfl rfl rfl rfl (by omega) (by omega)) (by omega) (by omega) (by decide) dX5_findFor_63 ?_
              refine zz_aload_n C 1 dX5_findFor_64 rfl rfl ?_
              refine zz_get C 0 (ci := 5) (k := 7) rfl rfl in_X5 (by decide) qw_226 rfl rfl dX5_findFor_65 ?_
              refine zz_iload_n C 3 dX5_findFor_68 rfl rfl ?_
              refine zz_iald C 3 rfl (by omega) (by omega) (by decide) dX5_findFor_69 ?_
              refine zz_i2l C dX5_findFor_70 (by unfold rI; omega) ?_
              refine zz_lload C 0 dX5_findFor_71 rfl ?_
              refine zz_lmul C dX5_findFor_73 ?_
              refine zz_ladd C dX5_findFor_74 ?_
              refine zz_last (T := gS7 k) (ws' := (wLot z vh vc vp vl vy vs vo vt vn rY rS rO gs_2 vch vat pd pb uC gP9_2 gL9_2 uT gN9_2 gY_2 (zup2 gS7 k j ((gS7 (k + 1) j) + ((gL9_2 k) * (max 0 ((gY_2 k j) - (gP9_2 k)))))) gO_2) ++ (wPlan z ph pa pr pt pd pb fP fR fT)) C (14 + k.toNat) (zz_c6 (P := fun i9 => ((wLot z vh vc vp vl vy vs vo vt vn rY rS rO gs_2 vch vat pd pb uC gP9_2 gL9_2 uT gN9_2 gY_2 gS7 gO_2) ++ (wPlan z ph pa pr pt pd pb fP fR fT) : va_W)[14 + i9.toNat]? = some (rS i9, lrow 5 (z.2.1 2) (gS7 i9))) rfl rfl rfl rfl rfl rfl (by omega) (by omega)) (by omega) (by omega) (by decide) (zz_c6 (P := fun i9 => ((wLot z vh vc vp vl vy vs vo vt vn rY rS rO gs_2 vch vat pd pb uC gP9_2 gL9_2 uT gN9_2 gY_2 gS7 gO_2) ++ (wPlan z ph pa pr pt pd pb fP fR fT) : va_W).set (14 + i9.toNat) (rS i9, lrow 5 (z.2.1 2) (zup (gS7 i9) j ((gS7 (k + 1) j) + ((gL9_2 k) * (max 0 ((gY_2 k j) - (gP9_2 k))))))) = ((wLot z vh vc vp vl vy vs vo vt vn rY rS rO gs_2 vch vat pd pb uC gP9_2 gL9_2 uT gN9_2 gY_2 (zup2 gS7 i9 j ((gS7 (k + 1) j) + ((gL9_2 k) * (max 0 ((gY_2 k j) - (gP9_2 k)))))) gO_2) ++ (wPlan z ph pa pr pt pd pb fP fR fT))) rfl rfl rfl rfl rfl rfl (by omega) (by omega)) dX5_findFor_75 ?_
              refine zz_iinc (ls' := [(3, .int (iI (j + 1))), (4, .long (iL (max 0 ((gY_2 k j) - (gP9_2 k))))), (0, .ref vh), (1, .ref ph), (2, .int (iI k))]) C 4 dX5_findFor_76 rfl (by decide) rfl ?_
              refine zz_goto (tgt := 18) C dX5_findFor_79 (by decide) ?_
              refine zz_loc (ls' := [(0, .ref vh), (1, .ref ph), (2, .int (iI k)), (3, .int (iI (j + 1)))]) [2, 3, 4, 0] rfl ?_
              exact ih18 (j + 1) (zup2 gS7 k j ((gS7 (k + 1) j) + ((gL9_2 k) * (max 0 ((gY_2 k j) - (gP9_2 k)))))) (by omega) (sav_step (s := gS7) hS7 (by omega) rfl) (by omega)
        refine zz_loc (ls' := [(0, .ref vh), (1, .ref ph), (2, .int (iI k)), (3, .int (iI 1))]) [1, 2, 3, 0] rfl ?_
        exact Lp18 _ 1 gS8 (by omega) hS8 (Nat.lt_succ_self _)
  refine zz_loc (ls' := [(0, .ref vh), (1, .ref ph), (2, .int (iI (pb - 1)))]) [1, 2, 0] rfl ?_
  exact Lp12 _ (pb - 1) gS9_2 (by omega) ⟨hsv_2, fun b d h0 h1 => by omega, fun d h0 h1 => by omega⟩ (Nat.lt_succ_self _)
