theorem grw_split (G : Int → Int) {d T : Int} (d0 : 0 ≤ d) (d1 : d ≤ T) : grw G 0 T = grw G 0 d * grw G d T := by
  have key : ∀ n : Nat, (n : Int) ≤ T → grw G 0 T = grw G 0 (n : Int) * grw G (n : Int) T := by
    intro n
    induction n with
    | zero => intro _; show grw G 0 T = grw G 0 0 * grw G 0 T; rw [grw_self, Int.one_mul]
    | succ n ih =>
      intro hn
      rw [ih (by omega), grw_head G (a := (n : Int)) (b := T) (by omega), show ((n + 1 : Nat) : Int) = (n : Int) + 1 by omega, grw_succ _ (by omega), Int.mul_assoc]
  have := key d.toNat (by omega)
  rwa [Int.toNat_of_nonneg d0] at this
/-- what lots need at first, by the reference -/
def mlO (kT : Int → Int) : Int → Int := lOf (mG kT) (fun d => kT (2 + d)) (kT 0)
def mlY (kT : Int → Int) : Int → Int → Int := lYf (mG kT) (mYield kT) (kT 0)
def mlP (kT : Int → Int) : Int → Int := lPf (mG kT) (fun b => kT (27 + b)) (kT 0)
def mlC (kT m : Int → Int) : Int := cstF (kT 0) (kT 1) (mlP kT) (mlO kT) (mlY kT) m
def mlN (kT m : Int → Int) : Int := mx (fun d => owF (mlO kT) (mlY kT) m (kT 1) d) (kT 0)
def mlS (kT : Int → Int) : Int := grw (mG kT) 0 (kT 0)
theorem bal_n {kT m : Int → Int} (hT : 0 ≤ kT 0) {d : Int} (d0 : 0 ≤ d) (d1 : d ≤ kT 0) : mlS kT * -(mBal kT m 0 d) = grw (mG kT) 0 d * owF (mlO kT) (mlY kT) m (kT 1) d := by
  have key : ∀ n : Nat, (n : Int) ≤ kT 0 → mlS kT * -(mBal kT m 0 (n : Int)) = grw (mG kT) 0 (n : Int) * owF (mlO kT) (mlY kT) m (kT 1) (n : Int) := by
    intro n
    induction n with
    | zero =>
      intro _
      have e : owF (mlO kT) (mlY kT) m (kT 1) ((0 : Nat) : Int) = 0 := by
        unfold owF
        rw [zsum_zero (fun c _ _ => by show m c * mlY kT c 0 = 0; have : mlY kT c 0 = 0 := rfl; rw [this, Int.mul_zero])]
        show mlO kT 0 - 0 = 0
        have : mlO kT 0 = 0 := rfl
        omega
      rw [e, Int.mul_zero]
      show mlS kT * -(0 : Int) = 0
      omega
    | succ n ih =>
      intro hn
      have a := ih (by omega)
      rw [show ((n + 1 : Nat) : Int) = (n : Int) + 1 by omega]
      have e1 : mBal kT m 0 ((n : Int) + 1) = mBal kT m 0 n * mG kT ((n : Int) + 1) + p20 ((n : Int) + 1) * mNet kT m ((n : Int) + 1) := bal_succ _ _ _ (by omega)
      have e2 := grw_succ (mG kT) (a := 0) (b := (n : Int)) (by omega)
      have e3 := grw_split (mG kT) (d := (n : Int) + 1) (T := kT 0) (by omega) (by omega)
      have e4 : owF (mlO kT) (mlY kT) m (kT 1) ((n : Int) + 1) = owF (mlO kT) (mlY kT) m (kT 1) n - lotW (mG kT) (kT 0) ((n : Int) + 1) * mNet kT m ((n : Int) + 1) := by
        unfold owF mNet
        have o1 : mlO kT ((n : Int) + 1) = mlO kT n + lotW (mG kT) (kT 0) ((n : Int) + 1) * kT (2 + ((n : Int) + 1)) := zsum_succ _ (by omega)
        have y1 : zsum (fun c => m c * mlY kT c ((n : Int) + 1)) (kT 1) = zsum (fun c => m c * mlY kT c n) (kT 1) + lotW (mG kT) (kT 0) ((n : Int) + 1) * zsum (fun b => m b * mYield kT b ((n : Int) + 1)) (kT 1) := by
          rw [← zsum_mull, ← zsum_add]
          refine zsum_congr (fun c _ _ => ?_)
          have : mlY kT c ((n : Int) + 1) = mlY kT c n + lotW (mG kT) (kT 0) ((n : Int) + 1) * mYield kT c ((n : Int) + 1) := zsum_succ _ (by omega)
          show m c * mlY kT c ((n : Int) + 1) = m c * mlY kT c n + lotW (mG kT) (kT 0) ((n : Int) + 1) * (m c * mYield kT c ((n : Int) + 1))
          rw [this]
          grind
        rw [o1, y1]
        grind
      rw [e1, e4]
      have e5 : mlS kT = grw (mG kT) 0 n * mG kT ((n : Int) + 1) * grw (mG kT) ((n : Int) + 1) (kT 0) := by unfold mlS; rw [e3, e2]
      have e6 : lotW (mG kT) (kT 0) ((n : Int) + 1) = p20 ((n : Int) + 1) * grw (mG kT) ((n : Int) + 1) (kT 0) := rfl
      rw [e2, e6]
      generalize grw (mG kT) 0 (n : Int) = x1 at *
      generalize mG kT ((n : Int) + 1) = x2 at *
      generalize grw (mG kT) ((n : Int) + 1) (kT 0) = x3 at *
      generalize p20 ((n : Int) + 1) = x4 at *
      generalize mNet kT m ((n : Int) + 1) = x5 at *
      generalize mBal kT m 0 (n : Int) = x6 at *
      generalize owF (mlO kT) (mlY kT) m (kT 1) (n : Int) = x7 at *
      generalize mlS kT = x8 at *
      have : x8 * -(x6 * x2 + x4 * x5) = x2 * (x8 * -x6) - x8 * x4 * x5 := by grind
      rw [this, a, e5]
      grind
  have := key d.toNat (by omega)
  rwa [Int.toNat_of_nonneg d0] at this
theorem mG_rng {kT : Int → Int} (h : mOk kT) (h2 : mOk2 kT) {d : Int} (d0 : 1 ≤ d) (d1 : d ≤ kT 0) : 20 ≤ mG kT d ∧ mG kT d ≤ 26 := by
  have := h2 d d0 (by have := h.1; omega)
  unfold mG
  omega
theorem mlA_pos {kT : Int → Int} (h : mOk kT) (h2 : mOk2 kT) {d : Int} (d0 : 0 ≤ d) (d1 : d ≤ kT 0) : 1 ≤ grw (mG kT) 0 d ∧ grw (mG kT) 0 d ≤ 456976 := by
  have := mCar_rng h h2 (a := 0) (j := d) (by omega) d0 d1
  unfold mCar at this
  rwa [p20_0, Int.one_mul] at this
theorem need_x {kT m : Int → Int} {qn qd : Int} (h : mOk kT) (h2 : mOk2 kT) (hl : isLack (mBal kT m 0) (mCar kT 0) 0 (kT 0) qn qd) : qn * mlS kT = mlN kT m * qd := by
  obtain ⟨l1, l2, l3, l4⟩ := hl
  have k1 := h.1
  have sp := mlA_pos h h2 (d := kT 0) (by omega) (by omega)
  have hS : mlS kT = grw (mG kT) 0 (kT 0) := rfl
  have ca : ∀ d : Int, mCar kT 0 d = grw (mG kT) 0 d := fun d => by unfold mCar; rw [p20_0, Int.one_mul]
  have up : mlN kT m * qd ≤ qn * mlS kT := by
    have p0 : 0 ≤ qn * mlS kT := Int.mul_nonneg l1 (by omega)
    rcases (mx_spec (fun d => owF (mlO kT) (mlY kT) m (kT 1) d) (kT 0)).2.2 with e | ⟨d, d0, d1, e⟩
    · have : mlN kT m = 0 := e
      rw [this, Int.zero_mul]; exact p0
    · have e' : mlN kT m = owF (mlO kT) (mlY kT) m (kT 1) d := e
      rw [e']
      have a := l3 d (by omega) d1
      rw [ca d] at a
      have b := bal_n (m := m) (by omega) (d := d) (by omega) d1
      have ap := mlA_pos h h2 (d := d) (by omega) d1
      have c := Int.mul_le_mul_of_nonneg_left a (show 0 ≤ mlS kT by omega)
      have f : grw (mG kT) 0 d * (owF (mlO kT) (mlY kT) m (kT 1) d * qd) ≤ grw (mG kT) 0 d * (qn * mlS kT) := by
        rw [← Int.mul_assoc, ← b]
        rw [Int.mul_assoc]
        have : grw (mG kT) 0 d * (qn * mlS kT) = mlS kT * (qn * grw (mG kT) 0 d) := by grind
        rw [this]
        exact c
      exact Int.le_of_mul_le_mul_left f (by omega)
  have dn : qn * mlS kT ≤ mlN kT m * qd := by
    have ms := mx_spec (fun d => owF (mlO kT) (mlY kT) m (kT 1) d) (kT 0)
    have m0 : 0 ≤ mlN kT m := ms.1
    rcases l4 with ⟨rfl, rfl⟩ | ⟨j, j0, j1, e1, e2⟩
    · rw [Int.zero_mul]; omega
    · have b := bal_n (m := m) (by omega) (d := j) j0 j1
      rw [e1, e2, ca j, Int.mul_comm, b, Int.mul_comm]
      have ap := mlA_pos h h2 (d := j) j0 j1
      refine Int.mul_le_mul_of_nonneg_right ?_ (by omega)
      by_cases z : j = 0
      · have e : owF (mlO kT) (mlY kT) m (kT 1) j = 0 := by
          rw [z]
          unfold owF
          rw [zsum_zero (fun c _ _ => by show m c * mlY kT c 0 = 0; have : mlY kT c 0 = 0 := rfl; rw [this, Int.mul_zero])]
          have : mlO kT 0 = 0 := rfl
          omega
        omega
      · exact ms.2.1 j (by omega) j1
  omega
theorem mlC_eq (kT m : Int → Int) : mlC kT m = spF (mlP kT) m (kT 1) + mlN kT m := rfl
theorem cost_l {kT m : Int → Int} {qn qd c : Int} (hq : qn * mlS kT = mlN kT m * qd) (hc : c = qn + zsum (fun b => m b * kT (27 + b) * qd) (kT 1)) : c * mlS kT = mlC kT m * qd := by
  rw [hc, Int.add_mul, hq, mlC_eq, Int.add_mul, zsum_mulr]
  have : spF (mlP kT) m (kT 1) = zsum (fun b => m b * kT (27 + b)) (kT 1) * mlS kT := by
    unfold spF
    rw [← zsum_mulr]
    refine zsum_congr (fun b _ _ => ?_)
    show m b * (grw (mG kT) 0 (kT 0) * kT (27 + b)) = m b * kT (27 + b) * grw (mG kT) 0 (kT 0)
    grind
  rw [this]
  grind
def mlF (kT : Int → Int) (fo lu ll ln : Int) (kE : Int → Int) : Prop := (fo = 0 ∨ fo = 1) ∧ (fo = 1 → lu * mlS kT = mlC kT kE * ll ∧ ln * mlS kT = mlN kT kE * ll ∧ (1 ≤ ll ∧ ll ≤ 456976) ∧ (0 ≤ lu ∧ lu ≤ 2000000000000) ∧ (0 ≤ ln ∧ ln ≤ 800 * ll))
theorem mlN_800 {kT m : Int → Int} (h : mOk kT) (h2 : mOk2 kT) (hm : ∀ b : Int, 0 ≤ b → b < kT 1 → 0 ≤ m b) : 0 ≤ mlN kT m ∧ mlN kT m ≤ 800 * mlS kT := by
  have k1 := h.1
  have k2 := h.2.1
  refine ⟨(mx_spec _ _).1, mx_le (by have := mlA_pos h h2 (d := kT 0) (by omega) (by omega); have : mlS kT = grw (mG kT) 0 (kT 0) := rfl; omega) (fun d d0 d1 => ?_)⟩
  -- the growth beyond the last date does not count
  have cg : ∀ e : Int, 1 ≤ e → e ≤ kT 0 → lotW (mG kT) (kT 0) e = lotW (fun i => if 1 ≤ i ∧ i ≤ kT 0 then mG kT i else 20) (kT 0) e := fun e e0 e1 => by
    unfold lotW
    rw [grw_congr (g := mG kT) (g' := fun i => if 1 ≤ i ∧ i ≤ kT 0 then mG kT i else 20) (n := kT 0) (fun i a b => (if_pos (show 1 ≤ i ∧ i ≤ kT 0 from ⟨by omega, b⟩)).symm) e1 (by omega)]
  have cs : mlS kT = grw (fun i => if 1 ≤ i ∧ i ≤ kT 0 then mG kT i else 20) 0 (kT 0) := grw_congr (n := kT 0) (fun i a b => (if_pos (show 1 ≤ i ∧ i ≤ kT 0 from ⟨by omega, b⟩)).symm) (by omega) (by omega)
  have gg : ∀ i : Int, 20 ≤ (if 1 ≤ i ∧ i ≤ kT 0 then mG kT i else 20) ∧ (if 1 ≤ i ∧ i ≤ kT 0 then mG kT i else 20) ≤ 26 := fun i => by
    split
    · rename_i q; exact mG_rng h h2 q.1 q.2
    · omega
  have a := lO_rng (O := fun d => kT (2 + d)) k1.2 gg (M := 200) (by omega) (fun d a b => h.2.2 (2 + d) (by omega) (by omega)) (d := d) (by omega) d1
  have e : mlO kT d = zsum (fun k => lotW (fun i => if 1 ≤ i ∧ i ≤ kT 0 then mG kT i else 20) (kT 0) (k + 1) * kT (2 + (k + 1))) d := zsum_congr (fun k a b => by show lotW (mG kT) (kT 0) (k + 1) * kT (2 + (k + 1)) = _; rw [cg (k + 1) (by omega) (by omega)])
  have yp : 0 ≤ zsum (fun c => m c * mlY kT c d) (kT 1) := by
    have key : ∀ n : Nat, (n : Int) ≤ kT 1 → 0 ≤ sumN (fun c => m c * mlY kT c d) n := by
      intro n
      induction n with
      | zero => intro _; show (0 : Int) ≤ 0; omega
      | succ n ih =>
        intro hn
        have u := ih (by omega)
        have v : 0 ≤ mlY kT n d := by
          have w := lO_rng (O := mYield kT n) k1.2 gg (M := 400) (by omega) (fun d a b => mYield_rng h (by omega) d) (d := d) (by omega) d1
          have e' : mlY kT n d = zsum (fun k => lotW (fun i => if 1 ≤ i ∧ i ≤ kT 0 then mG kT i else 20) (kT 0) (k + 1) * mYield kT n (k + 1)) d := zsum_congr (fun k a b => by show lotW (mG kT) (kT 0) (k + 1) * mYield kT n (k + 1) = _; rw [cg (k + 1) (by omega) (by omega)])
          rw [e']; exact w.1
        have x := Int.mul_nonneg (hm n (by omega) (by omega)) v
        exact Int.add_nonneg u x
    exact key (kT 1).toNat (by omega)
  show mlO kT d - zsum (fun c => m c * mlY kT c d) (kT 1) ≤ _
  rw [e, cs]
  omega
theorem ln_800 {S q d N : Int} (hS : 1 ≤ S) (h : q * S = N * d) (hN : N ≤ 800 * S) (hd : 1 ≤ d) : q ≤ 800 * d := by
  have : q * S ≤ 800 * d * S := by
    rw [h]
    have := Int.mul_le_mul_of_nonneg_right hN (show 0 ≤ d by omega)
    have e : 800 * S * d = 800 * d * S := Int.mul_right_comm _ _ _
    omega
  exact Int.le_of_mul_le_mul_right this (by omega)
theorem cmp_l {S c d lu ll a b r : Int} (hS : 0 < S) (hd : 0 < d) (h1 : c * S = a * d) (h2 : lu * S = b * ll) (hl : 0 < ll) (h : isCmp c d lu ll r) : r < 0 ↔ a < b := by
  have e : c * ll < lu * d ↔ a < b := by
    have x1 : c * ll * S = a * (d * ll) := by rw [Int.mul_right_comm, h1]; grind
    have x2 : lu * d * S = b * (d * ll) := by rw [Int.mul_right_comm, h2]; grind
    have pp : 0 < d * ll := Int.mul_pos hd hl
    constructor
    · intro q
      have := Int.mul_lt_mul_of_pos_right q hS
      rw [x1, x2] at this
      exact Int.lt_of_mul_lt_mul_right this (by omega)
    · intro q
      have := Int.mul_lt_mul_of_pos_right q pp
      rw [← x1, ← x2] at this
      exact Int.lt_of_mul_lt_mul_right this (by omega)
  rw [← e]
  rcases h with ⟨h, q⟩ | ⟨h, q⟩ | ⟨h, q⟩ <;> omega
/-- all rows that were tried -/
def mLs (kT l : Int → Int) (Q : (Int → Int) → Prop) (fo : Int) (C : Int → Int) : Prop := (fo = 0 ∧ ∀ m, bxd (kT 1) l m → ¬ Q m) ∨ (fo = 1 ∧ bxd (kT 1) l C ∧ Q C ∧ ∀ m, bxd (kT 1) l m → Q m → mlC kT C ≤ mlC kT m ∧ (lxL 0 (kT 1) m C → mlC kT C < mlC kT m))
theorem mlC_agr {kT m m' : Int → Int} (h : agr (kT 1) m m') : mlC kT m = mlC kT m' ∧ mlN kT m = mlN kT m' := by
  refine ⟨(cstF_m h).1, mx_congr (fun d _ _ => owF_agr h)⟩
theorem mLs_try {kT l m0 C C' : Int → Int} {fo go : Int} {Q' : (Int → Int) → Prop} (h : mLs kT l (fun m => lxL 0 (kT 1) m m0) fo C) (hb : bxd (kT 1) l m0) (hq : ∀ m, bxd (kT 1) l m → (Q' m ↔ lxL 0 (kT 1) m m0 ∨ agr (kT 1) m m0)) (hc : (go = 1 ∧ agr (kT 1) C' m0 ∧ (fo = 0 ∨ mlC kT m0 < mlC kT C)) ∨ (go = fo ∧ C' = C ∧ fo = 1 ∧ mlC kT C ≤ mlC kT m0)) : mLs kT l Q' go C' := by
  have bt : ∀ a b, bxd (kT 1) l a → agr (kT 1) b a → bxd (kT 1) l b := fun a b ha e c c0 c1 => by rw [e c c0 c1]; exact ha c c0 c1
  rcases hc with ⟨rfl, e, d⟩ | ⟨rfl, rfl, d1, d2⟩
  · refine Or.inr ⟨rfl, bt m0 C' hb e, (hq C' (bt m0 C' hb e)).mpr (Or.inr e), fun m bm qm => ?_⟩
    rw [(mlC_agr e).1]
    rcases (hq m bm).mp qm with q | q
    · rcases h with ⟨h1, h2⟩ | ⟨h1, h2, h3, h4⟩
      · exact absurd q (h2 m bm)
      · have x := (h4 m bm q).1
        rcases d with d | d
        · omega
        · exact ⟨by omega, fun _ => by omega⟩
    · rw [(mlC_agr q).1]
      refine ⟨Int.le_refl _, fun x => ?_⟩
      exact (lxL_irr x (fun c c0 c1 => (q c c0 c1).trans (e c c0 c1).symm)).elim
  · rcases h with ⟨h1, -⟩ | ⟨h1, h2, h3, h4⟩
    · omega
    · refine Or.inr ⟨h1, h2, (hq C' h2).mpr (Or.inl h3), fun m bm qm => ?_⟩
      rcases (hq m bm).mp qm with q | q
      · exact h4 m bm q
      · rw [(mlC_agr q).1]
        refine ⟨d2, fun x => ?_⟩
        have x' : lxL 0 (kT 1) m0 C' := by
          obtain ⟨j, j0, j1, j2, j3⟩ := x
          exact ⟨j, j0, j1, fun c c0 c1 => (q c c0 (by omega)).symm.trans (j2 c c0 c1), by rw [← q j j0 j1]; exact j3⟩
        exact (lxL_irr (lxL_trans h3 x') (fun _ _ _ => rfl)).elim
/-- the next row of lots -/
theorem odo {B b : Int} {l m m' : Int → Int} (hb : 0 ≤ b ∧ b < B) (hm : bxd B l m) (h1 : ∀ c : Int, 0 ≤ c → c < b → m' c = m c) (h2 : m' b = m b + 1) (h3 : ∀ c : Int, b < c → c < B → m' c = 0 ∧ m c = l c) : ∀ x, bxd B l x → (lxL 0 B x m' ↔ lxL 0 B x m ∨ agr B x m) := by
  intro x hx
  constructor
  · rintro ⟨j, j0, j1, j2, j3⟩
    rcases Int.lt_trichotomy j b with q | q | q
    · exact Or.inl ⟨j, j0, j1, fun c c0 c1 => by rw [← h1 c c0 (by omega)]; exact j2 c c0 c1, by rw [← h1 j j0 q]; exact j3⟩
    · subst q
      have e : ∀ c : Int, 0 ≤ c → c < j → x c = m c := fun c c0 c1 => by rw [← h1 c c0 c1]; exact j2 c c0 c1
      rcases lxL_tri B x m with w | w | w
      · exact Or.inl w
      · exact Or.inr w
      · exfalso
        obtain ⟨i, i0, i1, i2, i3⟩ := w
        rcases Int.lt_trichotomy i j with z | z | z
        · have := e i i0 z; omega
        · rw [z] at i3; omega
        · have a := (h3 i z i1).2
          have b := (hx i i0 i1).2
          omega
    · have a := j2 b hb.1 q
      have c := (h3 j q j1).1
      have d := (hx j j0 j1).1
      omega
  · rintro (⟨j, j0, j1, j2, j3⟩ | e)
    · rcases Int.lt_trichotomy j b with q | q | q
      · exact ⟨j, j0, j1, fun c c0 c1 => by rw [h1 c c0 (by omega)]; exact j2 c c0 c1, by rw [h1 j j0 q]; exact j3⟩
      · subst q
        exact ⟨j, j0, j1, fun c c0 c1 => by rw [h1 c c0 c1]; exact j2 c c0 c1, by omega⟩
      · exact ⟨b, hb.1, hb.2, fun c c0 c1 => by rw [h1 c c0 c1]; exact j2 c c0 (by omega), by rw [j2 b hb.1 q]; omega⟩
    · exact ⟨b, hb.1, hb.2, fun c c0 c1 => by rw [h1 c c0 c1]; exact e c c0 (by omega), by rw [e b hb.1 hb.2]; omega⟩
theorem odo_end {B : Int} {l m : Int → Int} (hm : ∀ c : Int, 0 ≤ c → c < B → m c = l c) : ∀ x, bxd B l x → lxL 0 B x m ∨ agr B x m := by
  intro x hx
  rcases lxL_tri B x m with w | w | w
  · exact Or.inl w
  · exact Or.inr w
  · exfalso
    obtain ⟨i, i0, i1, i2, i3⟩ := w
    have a := hm i i0 i1
    have b := (hx i i0 i1).2
    omega
theorem odo_0 {B : Int} {l m x : Int → Int} (hm : ∀ c : Int, 0 ≤ c → c < B → m c = 0) (hx : bxd B l x) : ¬ lxL 0 B x m := by
  rintro ⟨i, i0, i1, i2, i3⟩
  have a := hm i i0 i1
  have b := (hx i i0 i1).1
  omega
def wl (m : Int → Int) : Int := (((m 0 * 13 + m 1) * 13 + m 2) * 13 + m 3) * 13 + m 4
def lotM (kT : Int → Int) (lu ll ln : Int) (C : Int → Int) : Prop := lotO (kT 0) (kT 1) (mlP kT) (fun b => kT (32 + b)) (mlO kT) (mlY kT) C ∧ lu * mlS kT = mlC kT C * ll ∧ ln * mlS kT = mlN kT C * ll ∧ (1 ≤ ll ∧ ll ≤ 456976) ∧ (0 ≤ lu ∧ lu ≤ 2000000000000) ∧ (0 ≤ ln ∧ ln ≤ 800 * ll)
theorem mLs_end {kT C : Int → Int} {fo lu ll ln : Int} (hl : ∀ b : Int, 0 ≤ b → b < kT 1 → 0 ≤ kT (32 + b)) (h : mLs kT (fun b => kT (32 + b)) (fun _ => True) fo C) (hf : mlF kT fo lu ll ln C) : lotM kT lu ll ln C := by
  rcases h with ⟨-, a⟩ | ⟨a, b, -, c⟩
  · exact absurd trivial (a (fun _ => 0) (fun b b0 b1 => ⟨by show (0 : Int) ≤ 0; omega, hl b b0 b1⟩))
  · obtain ⟨f1, f2, f3, f4, f5⟩ := hf.2 a
    exact ⟨⟨b, fun m bm => c m bm trivial⟩, f1, f2, f3, f4, f5⟩
theorem mLs_eq {kT l C : Int → Int} {fo : Int} {Q Q' : (Int → Int) → Prop} (h : mLs kT l Q fo C) (hq : ∀ m, bxd (kT 1) l m → (Q m ↔ Q' m)) : mLs kT l Q' fo C := by
  rcases h with ⟨a, b⟩ | ⟨a, b, c, d⟩
  · exact Or.inl ⟨a, fun m bm q => b m bm ((hq m bm).mpr q)⟩
  · exact Or.inr ⟨a, b, (hq C b).mp c, fun m bm q => d m bm ((hq m bm).mpr q)⟩
