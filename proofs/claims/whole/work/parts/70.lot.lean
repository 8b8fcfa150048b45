/-- the most of f 1 .. f n and 0 -/
def mxN (f : Int → Int) : Nat → Int
  | 0 => 0
  | n + 1 => max (mxN f n) (f ((n : Int) + 1))
def mx (f : Int → Int) (n : Int) : Int := mxN f n.toNat
theorem mx_0 (f : Int → Int) : mx f 0 = 0 := rfl
theorem mx_succ (f : Int → Int) {k : Int} (h : 0 ≤ k) : mx f (k + 1) = max (mx f k) (f (k + 1)) := by
  unfold mx
  rw [show (k + 1).toNat = k.toNat + 1 by omega]
  show max (mxN f k.toNat) (f (((k.toNat : Nat) : Int) + 1)) = _
  rw [Int.toNat_of_nonneg h]
theorem mx_spec (f : Int → Int) (n : Int) : 0 ≤ mx f n ∧ (∀ d : Int, 1 ≤ d → d ≤ n → f d ≤ mx f n) ∧ (mx f n = 0 ∨ ∃ d : Int, 1 ≤ d ∧ d ≤ n ∧ mx f n = f d) := by
  have key : ∀ m : Nat, 0 ≤ mxN f m ∧ (∀ d : Int, 1 ≤ d → d ≤ (m : Int) → f d ≤ mxN f m) ∧ (mxN f m = 0 ∨ ∃ d : Int, 1 ≤ d ∧ d ≤ (m : Int) ∧ mxN f m = f d) := by
    intro m
    induction m with
    | zero => exact ⟨by show (0 : Int) ≤ 0; omega, fun d a b => by omega, Or.inl rfl⟩
    | succ m ih =>
      obtain ⟨a, b, c⟩ := ih
      show 0 ≤ max (mxN f m) (f ((m : Int) + 1)) ∧ _
      refine ⟨by omega, fun d d0 d1 => ?_, ?_⟩
      · show f d ≤ max (mxN f m) (f ((m : Int) + 1))
        by_cases e : d = (m : Int) + 1
        · rw [e]; omega
        · have := b d d0 (by omega); omega
      · show max (mxN f m) (f ((m : Int) + 1)) = 0 ∨ _
        by_cases q : f ((m : Int) + 1) ≤ mxN f m
        · rcases c with c | ⟨d, d0, d1, e⟩
          · left; omega
          · right; exact ⟨d, d0, by omega, by show max _ _ = _; omega⟩
        · right; exact ⟨(m : Int) + 1, by omega, by omega, by show max _ _ = _; omega⟩
  by_cases h : 0 ≤ n
  · have := key n.toNat
    rw [Int.toNat_of_nonneg h] at this
    exact this
  · have e : mx f n = 0 := by unfold mx; rw [show n.toNat = 0 by omega]; rfl
    rw [e]
    exact ⟨by omega, fun d a b => by omega, Or.inl rfl⟩
theorem mx_le {f : Int → Int} {n x : Int} (h0 : 0 ≤ x) (h : ∀ d : Int, 1 ≤ d → d ≤ n → f d ≤ x) : mx f n ≤ x := by
  rcases (mx_spec f n).2.2 with e | ⟨d, a, b, e⟩
  · omega
  · rw [e]; exact h d a b
theorem mx_congr {f g : Int → Int} {n : Int} (h : ∀ d : Int, 1 ≤ d → d ≤ n → f d = g d) : mx f n = mx g n := by
  have a := mx_le (f := f) (n := n) (mx_spec g n).1 (fun d d0 d1 => by rw [h d d0 d1]; exact (mx_spec g n).2.1 d d0 d1)
  have b := mx_le (f := g) (n := n) (mx_spec f n).1 (fun d d0 d1 => by rw [← h d d0 d1]; exact (mx_spec f n).2.1 d d0 d1)
  omega
/-- what lots cost: p prices, y yields up to a date, o what is owed up to it -/
def spF (p m : Int → Int) (b : Int) : Int := zsum (fun c => m c * p c) b
def owF (o : Int → Int) (y : Int → Int → Int) (m : Int → Int) (b d : Int) : Int := o d - zsum (fun c => m c * y c d) b
def lstF (T : Int) (p o : Int → Int) (y s : Int → Int → Int) (m : Int → Int) (b : Int) : Int := spF p m b + mx (fun d => owF o y m b d - s b d) T
def cstF (T B : Int) (p o : Int → Int) (y : Int → Int → Int) (m : Int → Int) : Int := spF p m B + mx (fun d => owF o y m B d) T
def agr (b : Int) (m m' : Int → Int) : Prop := ∀ c : Int, 0 ≤ c → c < b → m c = m' c
def bxd (B : Int) (l m : Int → Int) : Prop := ∀ c : Int, 0 ≤ c → c < B → 0 ≤ m c ∧ m c ≤ l c
def savR (T B : Int) (p l : Int → Int) (y s : Int → Int → Int) : Prop := (∀ d : Int, 1 ≤ d → d ≤ T → s B d = 0) ∧ ∀ b d : Int, 0 ≤ b → b < B → 1 ≤ d → d ≤ T → s b d = s (b + 1) d + l b * max 0 (y b d - p b)
theorem spF_agr {p m m' : Int → Int} {b : Int} (h : agr b m m') : spF p m b = spF p m' b := zsum_congr (fun c a d => by show m c * p c = m' c * p c; rw [h c a d])
theorem owF_agr {o : Int → Int} {y : Int → Int → Int} {m m' : Int → Int} {b d : Int} (h : agr b m m') : owF o y m b d = owF o y m' b d := by unfold owF; rw [zsum_congr (g := fun c => m' c * y c d) (fun c a e => by show m c * y c d = m' c * y c d; rw [h c a e])]
theorem lstF_agr {T : Int} {p o : Int → Int} {y s : Int → Int → Int} {m m' : Int → Int} {b : Int} (h : agr b m m') : lstF T p o y s m b = lstF T p o y s m' b := by
  unfold lstF
  rw [spF_agr h, mx_congr (fun d _ _ => by rw [owF_agr h])]
theorem lst_step {T B : Int} {p l o : Int → Int} {y s : Int → Int → Int} {m : Int → Int} {b : Int} (hs : savR T B p l y s) (hp : 0 ≤ p b) (b0 : 0 ≤ b) (b1 : b < B) (hm : 0 ≤ m b ∧ m b ≤ l b) : lstF T p o y s m b ≤ lstF T p o y s m (b + 1) := by
  unfold lstF
  have e1 : spF p m (b + 1) = spF p m b + m b * p b := zsum_succ _ b0
  have hmp : 0 ≤ m b * p b := Int.mul_nonneg hm.1 hp
  rw [e1]
  have k : mx (fun d => owF o y m b d - s b d) T ≤ m b * p b + mx (fun d => owF o y m (b + 1) d - s (b + 1) d) T := by
    have sp := mx_spec (fun d => owF o y m (b + 1) d - s (b + 1) d) T
    refine mx_le (by omega) (fun d d0 d1 => ?_)
    have a := sp.2.1 d d0 d1
    have e2 : owF o y m (b + 1) d = owF o y m b d - m b * y b d := by
      unfold owF
      rw [zsum_succ _ b0]
      omega
    have e3 := hs.2 b d b0 b1 d0 d1
    have e4 : m b * (y b d - p b) ≤ l b * max 0 (y b d - p b) := by
      by_cases q : 0 ≤ y b d - p b
      · rw [Int.max_eq_right q]; exact Int.mul_le_mul_of_nonneg_right hm.2 q
      · rw [Int.max_eq_left (by omega), Int.mul_zero]
        have := Int.mul_nonneg hm.1 (show 0 ≤ -(y b d - p b) by omega)
        rw [Int.mul_neg] at this
        omega
    rw [Int.mul_sub] at e4
    show owF o y m b d - s b d ≤ _
    omega
  omega
theorem lst_cost {T B : Int} {p l o : Int → Int} {y s : Int → Int → Int} {m : Int → Int} (hs : savR T B p l y s) : lstF T p o y s m B = cstF T B p o y m := by
  unfold lstF cstF
  rw [mx_congr (fun d d0 d1 => by show owF o y m B d - s B d = owF o y m B d; rw [hs.1 d d0 d1]; omega)]
theorem lst_le {T B : Int} {p l o : Int → Int} {y s : Int → Int → Int} {m : Int → Int} {b : Int} (hs : savR T B p l y s) (hp : ∀ c : Int, 0 ≤ c → c < B → 0 ≤ p c) (b0 : 0 ≤ b) (b1 : b ≤ B) (hm : bxd B l m) : lstF T p o y s m b ≤ cstF T B p o y m := by
  have key : ∀ k : Nat, ∀ b : Int, 0 ≤ b → b ≤ B → B - b = (k : Int) → lstF T p o y s m b ≤ cstF T B p o y m := by
    intro k
    induction k with
    | zero => intro b a c e; rw [show b = B by omega, lst_cost hs]; omega
    | succ k ih =>
      intro b a c e
      have := lst_step (o := o) hs (hp b a (by omega)) a (by omega) (hm b a (by omega))
      have := ih (b + 1) (by omega) (by omega) (by omega)
      omega
  exact key (B - b).toNat b b0 b1 (by omega)
/-- it is convex in one lot -/
theorem mx_conv {T : Int} {a y : Int → Int} {n k : Int} (hk : 0 ≤ k) : (k + 1) * mx (fun d => a d - n * y d) T ≤ k * mx (fun d => a d - (n - 1) * y d) T + mx (fun d => a d - (n + k) * y d) T := by
  have s1 := mx_spec (fun d => a d - (n - 1) * y d) T
  have s2 := mx_spec (fun d => a d - (n + k) * y d) T
  have p1 := Int.mul_nonneg hk s1.1
  rcases (mx_spec (fun d => a d - n * y d) T).2.2 with e | ⟨d, d0, d1, e⟩
  · rw [e, Int.mul_zero]; omega
  · rw [e]
    have a1 := Int.mul_le_mul_of_nonneg_left (s1.2.1 d d0 d1) hk
    have a2 := s2.2.1 d d0 d1
    have e1 : (k + 1) * (a d - n * y d) = k * (a d - (n - 1) * y d) + (a d - (n + k) * y d) := by grind
    show (k + 1) * (a d - n * y d) ≤ _
    rw [e1]
    have a1' : k * (a d - (n - 1) * y d) ≤ k * mx (fun d => a d - (n - 1) * y d) T := a1
    have a2' : a d - (n + k) * y d ≤ mx (fun d => a d - (n + k) * y d) T := a2
    omega
def fN (T : Int) (p o : Int → Int) (y s : Int → Int → Int) (m : Int → Int) (b n : Int) : Int := lstF T p o y s (zup m b n) (b + 1)
theorem agr_zup {m : Int → Int} {b n : Int} : agr b (zup m b n) m := fun c _ d => zup_ne (by omega)
theorem fN_eq {T : Int} {p o : Int → Int} {y s : Int → Int → Int} {m : Int → Int} {b n : Int} (b0 : 0 ≤ b) : fN T p o y s m b n = spF p m b + n * p b + mx (fun d => (owF o y m b d - s (b + 1) d) - n * y b d) T := by
  unfold fN lstF
  have e1 : spF p (zup m b n) (b + 1) = spF p m b + n * p b := by
    have : spF p (zup m b n) (b + 1) = spF p (zup m b n) b + zup m b n b * p b := zsum_succ _ b0
    rw [this, spF_agr agr_zup, zup_eq]
  rw [e1]
  congr 1
  refine mx_congr (fun d _ _ => ?_)
  have : owF o y (zup m b n) (b + 1) d = owF o y (zup m b n) b d - zup m b n b * y b d := by
    unfold owF
    rw [zsum_succ _ b0]
    omega
  rw [this, owF_agr agr_zup, zup_eq]
  omega
theorem fN_up {T : Int} {p o : Int → Int} {y s : Int → Int → Int} {m : Int → Int} {b n n' : Int} (b0 : 0 ≤ b) (h : fN T p o y s m b (n - 1) ≤ fN T p o y s m b n) (hn : n ≤ n') : fN T p o y s m b n ≤ fN T p o y s m b n' := by
  have k := mx_conv (T := T) (a := fun d => owF o y m b d - s (b + 1) d) (y := fun d => y b d) (n := n) (k := n' - n) (by omega)
  rw [show n + (n' - n) = n' by omega] at k
  rw [fN_eq b0] at h ⊢
  rw [fN_eq b0] at h ⊢
  generalize spF p m b = S at *
  generalize mx (fun d => (owF o y m b d - s (b + 1) d) - n * y b d) T = M1 at *
  generalize mx (fun d => (owF o y m b d - s (b + 1) d) - (n - 1) * y b d) T = M0 at *
  generalize mx (fun d => (owF o y m b d - s (b + 1) d) - n' * y b d) T = M2 at *
  generalize p b = P at *
  rw [Int.sub_mul, Int.one_mul] at h
  have h2 : M0 ≤ M1 + P := by omega
  have h3 := Int.mul_le_mul_of_nonneg_left h2 (show 0 ≤ n' - n by omega)
  rw [Int.mul_add] at h3
  rw [Int.add_mul, Int.one_mul] at k
  have e : n' * P = n * P + (n' - n) * P := by rw [Int.sub_mul]; omega
  omega
/-- rows of lots in their order -/
def lxL (lo hi : Int) (m m' : Int → Int) : Prop := ∃ j : Int, lo ≤ j ∧ j < hi ∧ (∀ c : Int, lo ≤ c → c < j → m c = m' c) ∧ m j < m' j
theorem lxL_tri (B : Int) (m m' : Int → Int) : lxL 0 B m m' ∨ agr B m m' ∨ lxL 0 B m' m := by
  have key : ∀ n : Nat, lxL 0 (n : Int) m m' ∨ agr (n : Int) m m' ∨ lxL 0 (n : Int) m' m := by
    intro n
    induction n with
    | zero => exact Or.inr (Or.inl (fun c a b => by omega))
    | succ n ih =>
      rcases ih with ⟨j, a, b, c, d⟩ | h | ⟨j, a, b, c, d⟩
      · exact Or.inl ⟨j, a, by omega, c, d⟩
      · rcases Int.lt_trichotomy (m n) (m' n) with q | q | q
        · exact Or.inl ⟨n, by omega, by omega, fun c a b => h c a b, q⟩
        · refine Or.inr (Or.inl (fun c a b => ?_))
          by_cases e : c = (n : Int)
          · rw [e]; exact q
          · exact h c a (by omega)
        · exact Or.inr (Or.inr ⟨n, by omega, by omega, fun c a b => (h c a b).symm, q⟩)
      · exact Or.inr (Or.inr ⟨j, a, by omega, c, d⟩)
  by_cases h : 0 ≤ B
  · have := key B.toNat
    rwa [Int.toNat_of_nonneg h] at this
  · exact Or.inr (Or.inl (fun c a b => by omega))
theorem lxL_trans {lo hi : Int} {a b c : Int → Int} (h : lxL lo hi a b) (k : lxL lo hi b c) : lxL lo hi a c := by
  obtain ⟨j, j0, j1, j2, j3⟩ := h
  obtain ⟨i, i0, i1, i2, i3⟩ := k
  rcases Int.lt_trichotomy j i with q | q | q
  · exact ⟨j, j0, j1, fun x x0 x1 => (j2 x x0 x1).trans (i2 x x0 (by omega)), by rw [← i2 j j0 q]; exact j3⟩
  · subst q
    exact ⟨j, j0, j1, fun x x0 x1 => (j2 x x0 x1).trans (i2 x x0 x1), by omega⟩
  · exact ⟨i, i0, i1, fun x x0 x1 => (j2 x x0 (by omega)).trans (i2 x x0 x1), by rw [j2 i i0 q]; exact i3⟩
theorem lxL_irr {lo hi : Int} {a b : Int → Int} (h : lxL lo hi a b) (e : ∀ c : Int, lo ≤ c → c < hi → a c = b c) : False := by
  obtain ⟨j, j0, j1, -, j3⟩ := h
  have := e j j0 j1
  omega
/-- what a search makes of the cheapest -/
def sOk (b B : Int) (l m0 m : Int → Int) : Prop := agr b m m0 ∧ bxd B l m
def sRes (T b B : Int) (p l o : Int → Int) (y : Int → Int → Int) (m0 : Int → Int) (Q : (Int → Int) → Prop) (ch at' : Int) (C : Int → Int) (ch' at'' : Int) (C' : Int → Int) : Prop :=
  (ch' = ch ∧ at'' = at' ∧ C' = C ∧ ∀ m, sOk b B l m0 m → Q m → ch ≤ cstF T B p o y m) ∨ (ch' < ch ∧ ∃ m, sOk b B l m0 m ∧ Q m ∧ ch' = cstF T B p o y m ∧ at'' = cstF T B p o y m - spF p m B ∧ agr B C' m ∧ ∀ m', sOk b B l m0 m' → Q m' → ch' ≤ cstF T B p o y m' ∧ (lxL b B m' m → ch' < cstF T B p o y m'))
theorem sRes_0 {T b B : Int} {p l o : Int → Int} {y : Int → Int → Int} {m0 : Int → Int} {ch at' : Int} {C : Int → Int} : sRes T b B p l o y m0 (fun m => m b < 0) ch at' C ch at' C ∨ ¬ (0 ≤ b ∧ b < B) := by
  by_cases h : 0 ≤ b ∧ b < B
  · refine Or.inl (Or.inl ⟨rfl, rfl, rfl, fun m a q => ?_⟩)
    have := a.2 b h.1 h.2
    omega
  · exact Or.inr h
theorem sRes_eq {T b B : Int} {p l o : Int → Int} {y : Int → Int → Int} {m0 : Int → Int} {Q Q' : (Int → Int) → Prop} {ch at' : Int} {C : Int → Int} {ch' at'' : Int} {C' : Int → Int} (h : sRes T b B p l o y m0 Q ch at' C ch' at'' C') (hq : ∀ m, sOk b B l m0 m → (Q m ↔ Q' m)) : sRes T b B p l o y m0 Q' ch at' C ch' at'' C' := by
  rcases h with ⟨h1, h2, h3, h4⟩ | ⟨h1, m, h2, h3, h4, h5, h6, h7⟩
  · exact Or.inl ⟨h1, h2, h3, fun m a q => h4 m a ((hq m a).mpr q)⟩
  · exact Or.inr ⟨h1, m, h2, (hq m h2).mp h3, h4, h5, h6, fun m' a q => h7 m' a ((hq m' a).mpr q)⟩
/-- one more lot: none of them is cheaper -/
theorem sRes_keep {T b B n : Int} {p l o : Int → Int} {y : Int → Int → Int} {m0 : Int → Int} {ch at' : Int} {C : Int → Int} {ch' at'' : Int} {C' : Int → Int} (h : sRes T b B p l o y m0 (fun m => m b < n) ch at' C ch' at'' C') (hb : 0 ≤ b ∧ b < B) (Q' : (Int → Int) → Prop) (hq : ∀ m, sOk b B l m0 m → Q' m → m b < n ∨ ch' ≤ cstF T B p o y m) (hq2 : ∀ m, sOk b B l m0 m → m b < n → Q' m) (hq3 : ∀ m, sOk b B l m0 m → Q' m → ¬ m b < n → n ≤ m b) : sRes T b B p l o y m0 Q' ch at' C ch' at'' C' := by
  rcases h with ⟨h1, h2, h3, h4⟩ | ⟨h1, m, h2, h3, h4, h5, h6, h7⟩
  · refine Or.inl ⟨h1, h2, h3, fun m a q => ?_⟩
    rcases hq m a q with w | w
    · exact h4 m a w
    · omega
  · refine Or.inr ⟨h1, m, h2, hq2 m h2 h3, h4, h5, h6, fun m' a q => ?_⟩
    rcases hq m' a q with w | w
    · exact h7 m' a w
    · by_cases z : m' b < n
      · exact h7 m' a z
      · refine ⟨w, fun x => ?_⟩
        have := hq3 m' a q z
        have h3' : m b < n := h3
        obtain ⟨j, j0, j1, j2, j3⟩ := x
        by_cases e : j = b
        · rw [e] at j3; omega
        · have := j2 b (by omega) (by omega); omega
/-- one more lot, looked through -/
theorem sRes_join {T b B n : Int} {p l o : Int → Int} {y : Int → Int → Int} {m0 mN : Int → Int} {ch at' : Int} {C : Int → Int} {ch1 at1 : Int} {C1 : Int → Int} {ch2 at2 : Int} {C2 : Int → Int} (h : sRes T b B p l o y m0 (fun m => m b < n) ch at' C ch1 at1 C1) (hb : 0 ≤ b ∧ b < B) (hN : agr b mN m0 ∧ mN b = n) (k : sRes T (b + 1) B p l o y mN (fun _ => True) ch1 at1 C1 ch2 at2 C2) : sRes T b B p l o y m0 (fun m => m b < n + 1) ch at' C ch2 at2 C2 := by
  have up : ∀ m, sOk b B l m0 m → m b = n → sOk (b + 1) B l mN m := fun m a e => ⟨fun c c0 c1 => by
    by_cases z : c = b
    · rw [z, e, hN.2]
    · rw [a.1 c c0 (by omega), hN.1 c c0 (by omega)], a.2⟩
  have dn : ∀ m, sOk (b + 1) B l mN m → sOk b B l m0 m ∧ m b = n := fun m a => ⟨⟨fun c c0 c1 => (a.1 c c0 (by omega)).trans (hN.1 c c0 c1), a.2⟩, (a.1 b hb.1 (by omega)).trans hN.2⟩
  rcases k with ⟨k1, k2, k3, k4⟩ | ⟨k1, m, k2, -, k4, k5, k6, k7⟩
  · subst k1; subst k2; subst k3
    refine sRes_keep h hb (fun m => m b < n + 1) (fun m a q => ?_) (fun m a q => ?_) (fun m a q z => ?_)
    · by_cases z : m b < n
      · exact Or.inl z
      · exact Or.inr (k4 m (up m a (by have : m b < n + 1 := q; omega)) trivial)
    · show m b < n + 1; omega
    · omega
  · have old : ∀ m', sOk b B l m0 m' → m' b < n → ch2 < cstF T B p o y m' := fun m' a z => by
      rcases h with ⟨h1, h2, h3, h4⟩ | ⟨h1, m1, h2, h3, h4, h5, h6, h7⟩
      · have := h4 m' a z; omega
      · have := (h7 m' a z).1; omega
    have lt : ch2 < ch := by
      rcases h with ⟨h1, -⟩ | ⟨h1, -⟩ <;> omega
    have dm := dn m k2
    refine Or.inr ⟨lt, m, dm.1, by show m b < n + 1; omega, k4, k5, k6, fun m' a q => ?_⟩
    by_cases z : m' b < n
    · have := old m' a z
      exact ⟨by omega, fun _ => this⟩
    · have q' : m' b < n + 1 := q
      have u := k7 m' (up m' a (by omega)) trivial
      refine ⟨u.1, fun x => u.2 ?_⟩
      obtain ⟨j, j0, j1, j2, j3⟩ := x
      have : ¬ j = b := fun e => by rw [e] at j3; omega
      exact ⟨j, by omega, j1, fun c c0 c1 => j2 c (by omega) c1, j3⟩
/-- the cheapest row of all, the first of several -/
def lotO (T B : Int) (p l o : Int → Int) (y : Int → Int → Int) (m : Int → Int) : Prop := bxd B l m ∧ ∀ m', bxd B l m' → cstF T B p o y m ≤ cstF T B p o y m' ∧ (lxL 0 B m' m → cstF T B p o y m < cstF T B p o y m')
theorem lotO_one {T B : Int} {p l o : Int → Int} {y : Int → Int → Int} {m m' : Int → Int} (h : lotO T B p l o y m) (h' : lotO T B p l o y m') : agr B m m' := by
  rcases lxL_tri B m m' with q | q | q
  · have a := (h'.2 m h.1).2 q
    have b := (h.2 m' h'.1).1
    omega
  · exact q
  · have a := (h.2 m' h'.1).2 q
    have b := (h'.2 m h.1).1
    omega
/-- bonds that do not pay can be left -/
def pays (T : Int) (p : Int → Int) (y : Int → Int → Int) (b : Int) : Prop := p b < y b T
theorem lotO_pays {T B : Int} {p l l' o : Int → Int} {y : Int → Int → Int} {m : Int → Int} (hT : 1 ≤ T) (hl : ∀ b : Int, 0 ≤ b → b < B → 0 ≤ l b ∧ ((pays T p y b ∧ l' b = l b) ∨ (¬ pays T p y b ∧ l' b = 0))) (hp : ∀ b : Int, 0 ≤ b → b < B → 0 ≤ p b) (hy : ∀ b d : Int, 0 ≤ b → b < B → 1 ≤ d → d ≤ T → y b d ≤ y b T) (h : lotO T B p l' o y m) : lotO T B p l o y m := by
  have sm : ∀ m', bxd B l m' → ∃ m2, bxd B l' m2 ∧ cstF T B p o y m2 ≤ cstF T B p o y m' ∧ ∀ c : Int, 0 ≤ c → c < B → m2 c ≤ m' c := by
    intro m' hm
    refine ⟨fun c => if p c < y c T then m' c else 0, fun c c0 c1 => ?_, ?_, fun c c0 c1 => ?_⟩
    · have a := hm c c0 c1
      show 0 ≤ (if p c < y c T then m' c else 0) ∧ (if p c < y c T then m' c else 0) ≤ l' c
      rcases (hl c c0 c1).2 with ⟨q, e⟩ | ⟨q, e⟩
      · rw [if_pos (show p c < y c T from q), e]; exact a
      · rw [if_neg (show ¬ p c < y c T from q), e]; omega
    · unfold cstF
      have e1 : ∀ d : Int, 1 ≤ d → d ≤ T → zsum (fun c => m' c * y c d) B - zsum (fun c => (if p c < y c T then m' c else 0) * y c d) B ≤ spF p m' B - spF p (fun c => if p c < y c T then m' c else 0) B := fun d d0 d1 => by
        have a1 : zsum (fun c => m' c * y c d) B - zsum (fun c => (if p c < y c T then m' c else 0) * y c d) B = zsum (fun c => (if p c < y c T then 0 else m' c * y c d)) B := by
          rw [Int.sub_eq_add_neg, ← zsum_neg, ← zsum_add]
          refine zsum_congr (fun c _ _ => ?_)
          show m' c * y c d + -((if p c < y c T then m' c else 0) * y c d) = _
          split <;> omega
        have a2 : spF p m' B - spF p (fun c => if p c < y c T then m' c else 0) B = zsum (fun c => (if p c < y c T then 0 else m' c * p c)) B := by
          unfold spF
          rw [Int.sub_eq_add_neg, ← zsum_neg, ← zsum_add]
          refine zsum_congr (fun c _ _ => ?_)
          show m' c * p c + -((if p c < y c T then m' c else 0) * p c) = _
          split <;> omega
        rw [a1, a2]
        have pw : ∀ c : Int, 0 ≤ c → c < B → (if p c < y c T then 0 else m' c * y c d) ≤ (if p c < y c T then 0 else m' c * p c) := fun c c0 c1 => by
          split
          · omega
          · rename_i q
            exact Int.mul_le_mul_of_nonneg_left (by have := hy c d c0 c1 d0 d1; omega) (hm c c0 c1).1
        have key : ∀ k : Nat, (k : Int) ≤ B → sumN (fun c => (if p c < y c T then 0 else m' c * y c d)) k ≤ sumN (fun c => (if p c < y c T then 0 else m' c * p c)) k := by
          intro k
          induction k with
          | zero => intro _; show (0 : Int) ≤ 0; omega
          | succ k ih =>
            intro hk
            have a := ih (by omega)
            have b := pw k (by omega) (by omega)
            exact Int.add_le_add a b
        by_cases hB : 0 ≤ B
        · exact key B.toNat (by omega)
        · unfold zsum; rw [show B.toNat = 0 by omega]; show (0 : Int) ≤ 0; omega
      have e2 : spF p (fun c => if p c < y c T then m' c else 0) B ≤ spF p m' B := by
        have key : ∀ k : Nat, (k : Int) ≤ B → sumN (fun c => (if p c < y c T then m' c else 0) * p c) k ≤ sumN (fun c => m' c * p c) k := by
          intro k
          induction k with
          | zero => intro _; show (0 : Int) ≤ 0; omega
          | succ k ih =>
            intro hk
            have a := ih (by omega)
            have b : (if p (k : Int) < y k T then m' k else 0) * p k ≤ m' k * p k := by
              have := Int.mul_nonneg (hm k (by omega) (by omega)).1 (hp k (by omega) (by omega))
              split
              · omega
              · omega
            exact Int.add_le_add a b
        by_cases hB : 0 ≤ B
        · exact key B.toNat (by omega)
        · unfold spF zsum; rw [show B.toNat = 0 by omega]; show (0 : Int) ≤ 0; omega
      have e3 : mx (fun d => owF o y (fun c => if p c < y c T then m' c else 0) B d) T ≤ mx (fun d => owF o y m' B d) T + (spF p m' B - spF p (fun c => if p c < y c T then m' c else 0) B) := by
        have s := mx_spec (fun d => owF o y m' B d) T
        refine mx_le (by omega) (fun d d0 d1 => ?_)
        have a := s.2.1 d d0 d1
        have b := e1 d d0 d1
        show owF o y (fun c => if p c < y c T then m' c else 0) B d ≤ _
        have a' : o d - zsum (fun c => m' c * y c d) B ≤ mx (fun d => owF o y m' B d) T := a
        unfold owF at a' ⊢
        show o d - zsum (fun c => (if p c < y c T then m' c else 0) * y c d) B ≤ _
        omega
      omega
    · have a := hm c c0 c1
      show (if p c < y c T then m' c else 0) ≤ m' c
      split <;> omega
  refine ⟨fun c c0 c1 => ?_, fun m' hm => ?_⟩
  · have a := h.1 c c0 c1
    rcases (hl c c0 c1).2 with ⟨-, e⟩ | ⟨-, e⟩
    · omega
    · have := (hl c c0 c1).1; omega
  · obtain ⟨m2, a, b, c⟩ := sm m' hm
    have q := h.2 m2 a
    refine ⟨by omega, fun x => ?_⟩
    have : lxL 0 B m2 m := by
      obtain ⟨j, j0, j1, j2, j3⟩ := x
      -- the first place where m2 differs from m is at j or before
      rcases lxL_tri (j + 1) m2 m with w | w | w
      · obtain ⟨i, i0, i1, i2, i3⟩ := w; exact ⟨i, i0, by omega, i2, i3⟩
      · have := w j j0 (by omega); have := c j j0 j1; omega
      · obtain ⟨i, i0, i1, i2, i3⟩ := w
        have u := c i i0 (by omega)
        by_cases e : i = j
        · rw [e] at i3 u; omega
        · have := j2 i i0 (by omega); omega
    have := q.2 this
    omega
