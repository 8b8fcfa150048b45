/-- the bytes of a text -/
def blk (x : Int) : Bool := decide (x = 32 ∨ x = 10)
def ltr (x : Int) : Bool := decide (97 ≤ x ∧ x ≤ 122)
def dgt (x : Int) : Bool := decide (48 ≤ x ∧ x ≤ 57)
theorem blk_iff {x : Int} : blk x = true ↔ x = 32 ∨ x = 10 := decide_eq_true_iff
theorem ltr_iff {x : Int} : ltr x = true ↔ 97 ≤ x ∧ x ≤ 122 := decide_eq_true_iff
theorem dgt_iff {x : Int} : dgt x = true ↔ 48 ≤ x ∧ x ≤ 57 := decide_eq_true_iff
/-- the end of a run of bytes -/
def rnN (P : Int → Bool) (f : Int → Int) (n : Int) : Nat → Int → Int
  | 0, a => a
  | k + 1, a => if a < n ∧ P (f a) = true then rnN P f n k (a + 1) else a
def rn (P : Int → Bool) (f : Int → Int) (n a : Int) : Int := rnN P f n (n - a).toNat a
theorem rnN_eq {P : Int → Bool} {f : Int → Int} {n p : Int} (h1 : p ≤ n) (h3 : p = n ∨ ¬ P (f p) = true) : ∀ (k : Nat) (a : Int), a ≤ p → (p - a).toNat ≤ k → (∀ i : Int, a ≤ i → i < p → P (f i) = true) → rnN P f n k a = p := by
  intro k
  induction k with
  | zero => intro a h0 hk _; show a = p; omega
  | succ k ih =>
    intro a h0 hk h2
    by_cases e : a = p
    · show (if a < n ∧ P (f a) = true then rnN P f n k (a + 1) else a) = p
      rw [if_neg (fun h => by rcases h3 with h3 | h3; omega; exact h3 (e ▸ h.2))]
      exact e
    · show (if a < n ∧ P (f a) = true then rnN P f n k (a + 1) else a) = p
      rw [if_pos ⟨by omega, h2 a (by omega) (by omega)⟩]
      exact ih (a + 1) (by omega) (by omega) (fun i i0 i1 => h2 i (by omega) i1)
theorem rn_eq {P : Int → Bool} {f : Int → Int} {n a p : Int} (h0 : a ≤ p) (h1 : p ≤ n) (h2 : ∀ i : Int, a ≤ i → i < p → P (f i) = true) (h3 : p = n ∨ ¬ P (f p) = true) : rn P f n a = p := rnN_eq h1 h3 _ a h0 (by omega) h2
theorem rn_ex {P : Int → Bool} {f : Int → Int} {n a : Int} (h : a ≤ n) : ∃ p : Int, a ≤ p ∧ p ≤ n ∧ (∀ i : Int, a ≤ i → i < p → P (f i) = true) ∧ (p = n ∨ ¬ P (f p) = true) := by
  have key : ∀ (k : Nat) (a : Int), a ≤ n → (n - a).toNat = k → ∃ p : Int, a ≤ p ∧ p ≤ n ∧ (∀ i : Int, a ≤ i → i < p → P (f i) = true) ∧ (p = n ∨ ¬ P (f p) = true) := by
    intro k
    induction k with
    | zero => intro a h hk; exact ⟨a, by omega, h, fun i i0 i1 => by omega, Or.inl (by omega)⟩
    | succ k ih =>
      intro a h hk
      by_cases q : P (f a) = true
      · obtain ⟨p, p1, p2, p3, p4⟩ := ih (a + 1) (by omega) (by omega)
        exact ⟨p, by omega, p2, fun i i0 i1 => by by_cases e : i = a; rw [e]; exact q; exact p3 i (by omega) i1, p4⟩
      · exact ⟨a, by omega, h, fun i i0 i1 => by omega, Or.inr q⟩
  exact key _ a h rfl
theorem rn_spec (P : Int → Bool) (f : Int → Int) {n a : Int} (h : a ≤ n) : a ≤ rn P f n a ∧ rn P f n a ≤ n ∧ (∀ i : Int, a ≤ i → i < rn P f n a → P (f i) = true) ∧ (rn P f n a = n ∨ ¬ P (f (rn P f n a)) = true) := by
  obtain ⟨p, p1, p2, p3, p4⟩ := rn_ex (P := P) (f := f) h
  rw [rn_eq p1 p2 p3 p4]
  exact ⟨p1, p2, p3, p4⟩
def sk (f : Int → Int) (n a : Int) : Int := rn blk f n a
theorem sk_idem {f : Int → Int} {n a : Int} (h : a ≤ n) : sk f n (sk f n a) = sk f n a := by
  have s := rn_spec blk f h
  exact rn_eq (Int.le_refl _) s.2.1 (fun i i0 i1 => by unfold sk at i0 i1; omega) s.2.2.2
/-- a number of digits -/
def numN (f : Int → Int) (p : Int) : Nat → Int
  | 0 => 0
  | k + 1 => 10 * numN f p k + (f (p + (k : Int)) - 48)
def num (f : Int → Int) (p e : Int) : Int := numN f p (e - p).toNat
theorem num_0 (f : Int → Int) (p : Int) : num f p p = 0 := by unfold num; rw [show (p - p).toNat = 0 by omega]; rfl
theorem num_succ (f : Int → Int) {p e : Int} (h : p ≤ e) : num f p (e + 1) = 10 * num f p e + (f e - 48) := by
  unfold num
  rw [show (e + 1 - p).toNat = (e - p).toNat + 1 by omega]
  show 10 * numN f p (e - p).toNat + (f (p + (((e - p).toNat : Nat) : Int)) - 48) = _
  rw [show p + (((e - p).toNat : Nat) : Int) = e by omega]
theorem num_rng {f : Int → Int} {p e : Int} (h : p ≤ e) (h4 : e - p ≤ 4) (hd : ∀ i : Int, p ≤ i → i < e → dgt (f i) = true) : 0 ≤ num f p e ∧ num f p e ≤ 9999 := by
  have d : ∀ i : Int, p ≤ i → i < e → 48 ≤ f i ∧ f i ≤ 57 := fun i a b => dgt_iff.mp (hd i a b)
  rcases (show e = p ∨ e = p + 1 ∨ e = p + 1 + 1 ∨ e = p + 1 + 1 + 1 ∨ e = p + 1 + 1 + 1 + 1 by omega) with q | q | q | q | q <;> subst q
  · rw [num_0]; omega
  · have := d p (by omega) (by omega); rw [num_succ _ (by omega), num_0]; omega
  · have := d p (by omega) (by omega); have := d (p + 1) (by omega) (by omega); rw [num_succ _ (by omega), num_succ _ (by omega), num_0]; omega
  · have := d p (by omega) (by omega); have := d (p + 1) (by omega) (by omega); have := d (p + 1 + 1) (by omega) (by omega); rw [num_succ _ (by omega), num_succ _ (by omega), num_succ _ (by omega), num_0]; omega
  · have := d p (by omega) (by omega); have := d (p + 1) (by omega) (by omega); have := d (p + 1 + 1) (by omega) (by omega); have := d (p + 1 + 1 + 1) (by omega) (by omega); rw [num_succ _ (by omega), num_succ _ (by omega), num_succ _ (by omega), num_succ _ (by omega), num_0]; omega
/-- places of numbers one behind the other -/
def psN (f : Int → Int) (n a : Int) : Nat → Int
  | 0 => a
  | i + 1 => rn dgt f n (sk f n (psN f n a i))
def ps (f : Int → Int) (n a i : Int) : Int := psN f n a i.toNat
def nb (f : Int → Int) (n a i : Int) : Int := sk f n (ps f n a i)
def nv (f : Int → Int) (n a i : Int) : Int := num f (nb f n a i) (ps f n a (i + 1))
theorem ps_0 (f : Int → Int) (n a : Int) : ps f n a 0 = a := rfl
theorem ps_succ (f : Int → Int) (n a : Int) {i : Int} (h : 0 ≤ i) : ps f n a (i + 1) = rn dgt f n (nb f n a i) := by
  unfold ps nb
  rw [show (i + 1).toNat = i.toNat + 1 by omega]
  rfl
theorem ps_rng {f : Int → Int} {n a : Int} (h : a ≤ n) {i : Int} (h0 : 0 ≤ i) : a ≤ ps f n a i ∧ ps f n a i ≤ n := by
  have key : ∀ k : Nat, a ≤ psN f n a k ∧ psN f n a k ≤ n := by
    intro k
    induction k with
    | zero => exact ⟨Int.le_refl _, h⟩
    | succ k ih =>
      have s1 := rn_spec blk f ih.2
      have s2 := rn_spec dgt f (n := n) (a := sk f n (psN f n a k)) s1.2.1
      show a ≤ rn dgt f n (sk f n (psN f n a k)) ∧ rn dgt f n (sk f n (psN f n a k)) ≤ n
      unfold sk at *
      omega
  exact key i.toNat
theorem nb_rng {f : Int → Int} {n a : Int} (h : a ≤ n) {i : Int} (h0 : 0 ≤ i) : a ≤ nb f n a i ∧ nb f n a i ≤ n := by
  have s := ps_rng (f := f) h h0
  have s1 := rn_spec blk f s.2
  unfold nb sk
  omega
def nOk (f : Int → Int) (n T B k a i : Int) : Prop := (nb f n a i < n ∧ dgt (f (nb f n a i)) = true ∧ ps f n a (i + 1) - nb f n a i ≤ 4) ∧ plFits T B (zROLES (k * 4 + i).toNat) (nv f n a i)
def nWr (f : Int → Int) (n a i w : Int) : Prop := ((nb f n a i < n ∧ dgt (f (nb f n a i)) = true ∧ ps f n a (i + 1) - nb f n a i ≤ 4) ∧ w = 2 + 8 * nb f n a i) ∨ (¬ (nb f n a i < n ∧ dgt (f (nb f n a i)) = true ∧ ps f n a (i + 1) - nb f n a i ≤ 4) ∧ w = 1 + 8 * nb f n a i)
theorem nWr_uniq {f : Int → Int} {n a i w w' : Int} (h : nWr f n a i w) (h' : nWr f n a i w') : w = w' := by
  rcases h with ⟨a, b⟩ | ⟨a, b⟩ <;> rcases h' with ⟨c, d⟩ | ⟨c, d⟩
  · omega
  · exact absurd a c
  · exact absurd c a
  · omega
/-- words -/
abbrev wd0 (f : Int → Int) (p e : Int) : Prop := e - p = 5 ∧ f p = 100 ∧ f (p + 1) = 97 ∧ f (p + 2) = 116 ∧ f (p + 3) = 101 ∧ f (p + 4) = 115
abbrev wd1 (f : Int → Int) (p e : Int) : Prop := e - p = 3 ∧ f p = 112 ∧ f (p + 1) = 97 ∧ f (p + 2) = 121
abbrev wd2 (f : Int → Int) (p e : Int) : Prop := e - p = 4 ∧ f p = 114 ∧ f (p + 1) = 97 ∧ f (p + 2) = 116 ∧ f (p + 3) = 101
abbrev wd3 (f : Int → Int) (p e : Int) : Prop := e - p = 4 ∧ f p = 98 ∧ f (p + 1) = 111 ∧ f (p + 2) = 110 ∧ f (p + 3) = 100
abbrev wd4 (f : Int → Int) (p e : Int) : Prop := e - p = 4 ∧ f p = 109 ∧ f (p + 1) = 111 ∧ f (p + 2) = 115 ∧ f (p + 3) = 116
def wkd (f : Int → Int) (p e : Int) : Int := if wd0 f p e then 0 else if wd1 f p e then 1 else if wd2 f p e then 2 else if wd3 f p e then 3 else if wd4 f p e then 4 else -1
theorem wkd_rng (f : Int → Int) (p e : Int) : -1 ≤ wkd f p e ∧ wkd f p e ≤ 4 := by unfold wkd; (repeat' split) <;> omega
theorem wkd_same (f : Int → Int) (p : Int) : wkd f p p = -1 := by unfold wkd; rw [if_neg (by omega), if_neg (by omega), if_neg (by omega), if_neg (by omega), if_neg (by omega)]
def isW (f : Int → Int) (p e : Int) (wi : Nat) : Prop := e - p = kLen wi ∧ ∀ i : Int, 0 ≤ i → i < kLen wi → f (p + i) = kCh wi i
theorem isW0 {f : Int → Int} {p e : Int} : isW f p e 0 ↔ wd0 f p e := by
  unfold isW
  rw [show kLen 0 = 5 by decide]
  constructor
  · rintro ⟨a, b⟩
    have b0 := b 0 (by omega) (by omega); rw [show kCh 0 0 = 100 by decide, Int.add_zero] at b0
    have b1 := b 1 (by omega) (by omega); rw [show kCh 0 1 = 97 by decide] at b1
    have b2 := b 2 (by omega) (by omega); rw [show kCh 0 2 = 116 by decide] at b2
    have b3 := b 3 (by omega) (by omega); rw [show kCh 0 3 = 101 by decide] at b3
    have b4 := b 4 (by omega) (by omega); rw [show kCh 0 4 = 115 by decide] at b4
    exact ⟨a, b0, b1, b2, b3, b4⟩
  · rintro ⟨a, b0, b1, b2, b3, b4⟩
    refine ⟨a, fun i i0 i1 => ?_⟩
    rcases (show i = 0 ∨ i = 1 ∨ i = 2 ∨ i = 3 ∨ i = 4 by omega) with e | e | e | e | e <;> subst e
    · rw [Int.add_zero, b0]; decide
    · rw [b1]; decide
    · rw [b2]; decide
    · rw [b3]; decide
    · rw [b4]; decide
theorem isW1 {f : Int → Int} {p e : Int} : isW f p e 1 ↔ wd1 f p e := by
  unfold isW
  rw [show kLen 1 = 3 by decide]
  constructor
  · rintro ⟨a, b⟩
    have b0 := b 0 (by omega) (by omega); rw [show kCh 1 0 = 112 by decide, Int.add_zero] at b0
    have b1 := b 1 (by omega) (by omega); rw [show kCh 1 1 = 97 by decide] at b1
    have b2 := b 2 (by omega) (by omega); rw [show kCh 1 2 = 121 by decide] at b2
    exact ⟨a, b0, b1, b2⟩
  · rintro ⟨a, b0, b1, b2⟩
    refine ⟨a, fun i i0 i1 => ?_⟩
    rcases (show i = 0 ∨ i = 1 ∨ i = 2 by omega) with e | e | e <;> subst e
    · rw [Int.add_zero, b0]; decide
    · rw [b1]; decide
    · rw [b2]; decide
theorem isW2 {f : Int → Int} {p e : Int} : isW f p e 2 ↔ wd2 f p e := by
  unfold isW
  rw [show kLen 2 = 4 by decide]
  constructor
  · rintro ⟨a, b⟩
    have b0 := b 0 (by omega) (by omega); rw [show kCh 2 0 = 114 by decide, Int.add_zero] at b0
    have b1 := b 1 (by omega) (by omega); rw [show kCh 2 1 = 97 by decide] at b1
    have b2 := b 2 (by omega) (by omega); rw [show kCh 2 2 = 116 by decide] at b2
    have b3 := b 3 (by omega) (by omega); rw [show kCh 2 3 = 101 by decide] at b3
    exact ⟨a, b0, b1, b2, b3⟩
  · rintro ⟨a, b0, b1, b2, b3⟩
    refine ⟨a, fun i i0 i1 => ?_⟩
    rcases (show i = 0 ∨ i = 1 ∨ i = 2 ∨ i = 3 by omega) with e | e | e | e <;> subst e
    · rw [Int.add_zero, b0]; decide
    · rw [b1]; decide
    · rw [b2]; decide
    · rw [b3]; decide
theorem isW3 {f : Int → Int} {p e : Int} : isW f p e 3 ↔ wd3 f p e := by
  unfold isW
  rw [show kLen 3 = 4 by decide]
  constructor
  · rintro ⟨a, b⟩
    have b0 := b 0 (by omega) (by omega); rw [show kCh 3 0 = 98 by decide, Int.add_zero] at b0
    have b1 := b 1 (by omega) (by omega); rw [show kCh 3 1 = 111 by decide] at b1
    have b2 := b 2 (by omega) (by omega); rw [show kCh 3 2 = 110 by decide] at b2
    have b3 := b 3 (by omega) (by omega); rw [show kCh 3 3 = 100 by decide] at b3
    exact ⟨a, b0, b1, b2, b3⟩
  · rintro ⟨a, b0, b1, b2, b3⟩
    refine ⟨a, fun i i0 i1 => ?_⟩
    rcases (show i = 0 ∨ i = 1 ∨ i = 2 ∨ i = 3 by omega) with e | e | e | e <;> subst e
    · rw [Int.add_zero, b0]; decide
    · rw [b1]; decide
    · rw [b2]; decide
    · rw [b3]; decide
theorem isW4 {f : Int → Int} {p e : Int} : isW f p e 4 ↔ wd4 f p e := by
  unfold isW
  rw [show kLen 4 = 4 by decide]
  constructor
  · rintro ⟨a, b⟩
    have b0 := b 0 (by omega) (by omega); rw [show kCh 4 0 = 109 by decide, Int.add_zero] at b0
    have b1 := b 1 (by omega) (by omega); rw [show kCh 4 1 = 111 by decide] at b1
    have b2 := b 2 (by omega) (by omega); rw [show kCh 4 2 = 115 by decide] at b2
    have b3 := b 3 (by omega) (by omega); rw [show kCh 4 3 = 116 by decide] at b3
    exact ⟨a, b0, b1, b2, b3⟩
  · rintro ⟨a, b0, b1, b2, b3⟩
    refine ⟨a, fun i i0 i1 => ?_⟩
    rcases (show i = 0 ∨ i = 1 ∨ i = 2 ∨ i = 3 by omega) with e | e | e | e <;> subst e
    · rw [Int.add_zero, b0]; decide
    · rw [b1]; decide
    · rw [b2]; decide
    · rw [b3]; decide
/-- one statement behind place a -/
def sP (f : Int → Int) (n a : Int) : Int := sk f n a
def sE (f : Int → Int) (n a : Int) : Int := rn ltr f n (sk f n a)
def sK (f : Int → Int) (n a : Int) : Int := wkd f (sP f n a) (sE f n a)
def sC (f : Int → Int) (n a : Int) : Int := zNUMBERS (sK f n a).toNat
def sR (f : Int → Int) (n a : Int) : Int := sk f n (ps f n (sE f n a) (sC f n a))
def sA (f : Int → Int) (n a i : Int) : Int := nv f n (sE f n a) i
def stOk (f : Int → Int) (n T B a : Int) : Prop := (¬ sK f n a = -1) ∧ (¬ (sK f n a = 3 ∧ B = 5)) ∧ (∀ i : Int, 0 ≤ i → i < sC f n a → nOk f n T B (sK f n a) (sE f n a) i) ∧ (sR f n a < n ∧ f (sR f n a) = 59)
def sWr (f : Int → Int) (n T B a w : Int) : Prop := (sK f n a = -1 ∧ w = 1 + 8 * sP f n a) ∨ (sK f n a = 3 ∧ B = 5 ∧ w = 3 + 8 * sP f n a) ∨ ((¬ sK f n a = -1) ∧ (¬ (sK f n a = 3 ∧ B = 5)) ∧ ∃ i : Int, (0 ≤ i ∧ i < sC f n a) ∧ (∀ j : Int, 0 ≤ j → j < i → nOk f n T B (sK f n a) (sE f n a) j) ∧ ¬ nOk f n T B (sK f n a) (sE f n a) i ∧ nWr f n (sE f n a) i w) ∨ ((¬ sK f n a = -1) ∧ (¬ (sK f n a = 3 ∧ B = 5)) ∧ (∀ i : Int, 0 ≤ i → i < sC f n a → nOk f n T B (sK f n a) (sE f n a) i) ∧ ¬ (sR f n a < n ∧ f (sR f n a) = 59) ∧ w = 1 + 8 * sR f n a)
theorem stOk_Wr {f : Int → Int} {n T B a w : Int} (h : stOk f n T B a) (h' : sWr f n T B a w) : False := by
  obtain ⟨h1, h2, h3, h4⟩ := h
  rcases h' with ⟨g, -⟩ | ⟨g, g2, -⟩ | ⟨-, -, i, gi, -, g, -⟩ | ⟨-, -, -, g, -⟩
  · exact h1 g
  · exact h2 ⟨g, g2⟩
  · exact g (h3 i gi.1 gi.2)
  · exact g h4
theorem sWr_uniq {f : Int → Int} {n T B a w w' : Int} (h : sWr f n T B a w) (h' : sWr f n T B a w') : w = w' := by
  rcases h with ⟨g, e⟩ | ⟨g, g2, e⟩ | ⟨g, g2, i, gi, g3, g4, e⟩ | ⟨g, g2, g3, g4, e⟩ <;> rcases h' with ⟨k, e'⟩ | ⟨k, k2, e'⟩ | ⟨k, k2, j, kj, k3, k4, e'⟩ | ⟨k, k2, k3, k4, e'⟩
  · omega
  · omega
  · exact absurd g k
  · exact absurd g k
  · omega
  · omega
  · exact absurd ⟨g, g2⟩ k2
  · exact absurd ⟨g, g2⟩ k2
  · exact absurd k g
  · exact absurd ⟨k, k2⟩ g2
  · rcases Int.lt_trichotomy i j with q | q | q
    · exact absurd (k3 i gi.1 q) g4
    · subst q; exact nWr_uniq e e'
    · exact absurd (g3 j kj.1 q) k4
  · exact absurd (k3 i gi.1 gi.2) g4
  · exact absurd k g
  · exact absurd ⟨k, k2⟩ g2
  · exact absurd (g3 j kj.1 kj.2) k4
  · omega
/-- plans of both sides, and what a statement does to them -/
abbrev plT : Type := Int × Int × (Int → Int) × (Int → Int) × (Int → Int)
def zero5 (g : Int → Int) : Int → Int := fun i => if 0 ≤ i ∧ i < 5 then 0 else g i
def plNew (pb : Int) (fT : Int → Int) (v1 v2 v3 v4 : Int) : Int → Int := zup (zup (zup (zup (zup (zup (zup fT (pb * 7 + 0) v1) (pb * 7 + 1) v2) (pb * 7 + 2) v3) (pb * 7 + 3) v4) (pb * 7 + 4) 10) (pb * 7 + 5) 0) (pb * 7 + 6) 0
def opC (k v0 v1 v2 v3 : Int) (S : plT) : plT :=
  if k = 0 then (v0, 0, zero5 S.2.2.1, zero5 S.2.2.2.1, S.2.2.2.2)
  else if k = 1 then (S.1, S.2.1, zup S.2.2.1 v0 v1, S.2.2.2.1, S.2.2.2.2)
  else if k = 2 then (S.1, S.2.1, S.2.2.1, zup S.2.2.2.1 v0 v1, S.2.2.2.2)
  else if k = 3 then (S.1, S.2.1 + 1, S.2.2.1, S.2.2.2.1, plNew S.2.1 S.2.2.2.2 v0 v1 v2 v3)
  else (S.1, S.2.1, S.2.2.1, S.2.2.2.1, zup S.2.2.2.2 (v0 * 7 + 4) v1)
def opM (k v0 v1 v2 v3 : Int) (D : Int → Int) : Int → Int :=
  if k = 0 then mDates v0 else if k = 1 then zup D (2 + v0) v1 else if k = 2 then zup D (7 + v0) v1 else if k = 3 then mLaid D v0 v1 v2 v3 else zup D (32 + v0) v1
def clN (f : Int → Int) (n : Int) (S : plT) : Nat → Int × plT
  | 0 => (0, S)
  | j + 1 => (sR f n (clN f n S j).1 + 1, opC (sK f n (clN f n S j).1) (sA f n (clN f n S j).1 0) (sA f n (clN f n S j).1 1) (sA f n (clN f n S j).1 2) (sA f n (clN f n S j).1 3) (clN f n S j).2)
def moN (f : Int → Int) (n : Int) (D : Int → Int) : Nat → Int × (Int → Int)
  | 0 => (0, D)
  | j + 1 => (sR f n (moN f n D j).1 + 1, opM (sK f n (moN f n D j).1) (sA f n (moN f n D j).1 0) (sA f n (moN f n D j).1 1) (sA f n (moN f n D j).1 2) (sA f n (moN f n D j).1 3) (moN f n D j).2)
