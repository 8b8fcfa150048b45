/-- masks of rising rows of columns -/
theorem bit_hi {x c b : Int} {n : Nat} (hx : 0 ≤ x ∧ x < 2 ^ n) (c0 : 0 ≤ c) (c1 : c < (n : Int)) : bitZ (x + 2 ^ n * b) c = bitZ x c := by
  unfold bitZ
  have e : (2 : Int) ^ n = 2 ^ c.toNat * (2 ^ (n - c.toNat - 1) * 2) := by
    rw [← Int.pow_succ, ← Int.pow_add]
    congr 1
    omega
  rw [e, Int.mul_assoc, Int.add_mul_ediv_left _ _ (by have : (0 : Int) < 2 ^ c.toNat := Int.pow_pos (by omega); omega)]
  generalize (2 : Int) ^ (n - c.toNat - 1) = y
  have : y * 2 * b = 2 * (y * b) := by grind
  rw [this]
  omega
theorem mask_ex (S : Int → Prop) [DecidablePred S] : ∀ n : Nat, ∃ m : Int, 0 ≤ m ∧ m < 2 ^ n ∧ ∀ c : Int, 0 ≤ c → c < (n : Int) → bitZ m c = if S c then 1 else 0
  | 0 => ⟨0, by omega, by decide, fun c a b => by omega⟩
  | n + 1 => by
    obtain ⟨m, a, b, h⟩ := mask_ex S n
    have hp : (2 : Int) ^ (n + 1) = 2 ^ n * 2 := Int.pow_succ ..
    have hp0 : (0 : Int) < 2 ^ n := Int.pow_pos (by omega)
    have key : ∀ x : Int, (x = 0 ∨ x = 1) → x = (if S (n : Int) then 1 else 0) → ∃ m : Int, 0 ≤ m ∧ m < 2 ^ (n + 1) ∧ ∀ c : Int, 0 ≤ c → c < ((n + 1 : Nat) : Int) → bitZ m c = if S c then 1 else 0 := by
      intro x hx hS
      refine ⟨m + 2 ^ n * x, ?_, ?_, fun c c0 c1 => ?_⟩
      · rcases hx with rfl | rfl <;> omega
      · rcases hx with rfl | rfl <;> omega
      · by_cases e : c = (n : Int)
        · rw [e, ← hS]
          unfold bitZ
          rw [Int.toNat_natCast, Int.add_mul_ediv_left _ _ (by omega), Int.ediv_eq_zero_of_lt a b]
          rcases hx with rfl | rfl <;> rfl
        · rw [bit_hi ⟨a, b⟩ c0 (by omega)]
          exact h c c0 (by omega)
    by_cases q : S (n : Int)
    · exact key 1 (Or.inr rfl) (by rw [if_pos q])
    · exact key 0 (Or.inl rfl) (by rw [if_neg q])
/-- the row of columns of a mask -/
def isMsk (T n : Int) (m : Int) (g : Int → Int) : Prop := cntB m n = T ∧ ∀ i : Int, 0 ≤ i → i < T → bitZ m (g i) = 1 ∧ cntB m (g i) = i
def rk (T : Int) (g : Int → Int) (c : Int) : Int := (if g 0 < c then 1 else 0) + (if 1 < T ∧ g 1 < c then 1 else 0) + (if 2 < T ∧ g 2 < c then 1 else 0) + (if 3 < T ∧ g 3 < c then 1 else 0)
theorem srt_msk {T n : Int} {g : Int → Int} (h1 : 1 ≤ T) (h4 : T ≤ 4) (hn : 0 ≤ n) (hg : inB T n g) (hs : srt T g) : ∃ m : Int, 0 ≤ m ∧ m < 2 ^ n.toNat ∧ isMsk T n m g := by
  have s0 := hs 0 (by omega)
  have s1 := hs 1 (by omega)
  have s2 := hs 2 (by omega)
  simp only [show (0 : Int) + 1 = 1 by rfl, show (1 : Int) + 1 = 2 by rfl, show (2 : Int) + 1 = 3 by rfl] at s0 s1 s2
  have g0 := hg 0 (by omega) (by omega)
  have g1 := hg 1 (by omega)
  have g2 := hg 2 (by omega)
  have g3 := hg 3 (by omega)
  obtain ⟨m, a, b, h⟩ := mask_ex (fun c => c = g 0 ∨ (1 < T ∧ c = g 1) ∨ (2 < T ∧ c = g 2) ∨ (3 < T ∧ c = g 3)) n.toNat
  rw [Int.toNat_of_nonneg hn] at h
  have key : ∀ c : Nat, (c : Int) ≤ n → cntB m (c : Int) = rk T g (c : Int) := by
    intro c
    induction c with
    | zero => intro _; show (0 : Int) = _; unfold rk; (repeat' split) <;> omega
    | succ c ih =>
      intro hc
      rw [show ((c + 1 : Nat) : Int) = (c : Int) + 1 by omega, cntB_succ m (by omega), ih (by omega), h c (by omega) (by omega)]
      unfold rk
      (repeat' split) <;> omega
  have key2 : ∀ c : Int, 0 ≤ c → c ≤ n → cntB m c = rk T g c := fun c c0 c1 => by
    have := key c.toNat (by omega)
    rwa [Int.toNat_of_nonneg c0] at this
  refine ⟨m, a, b, ?_, fun i i0 i1 => ?_⟩
  · rw [key2 n hn (by omega)]
    unfold rk
    (repeat' split) <;> omega
  · have gi := hg i i0 i1
    rw [h (g i) gi.1 gi.2, key2 (g i) gi.1 (by omega)]
    rcases (show i = 0 ∨ i = 1 ∨ i = 2 ∨ i = 3 by omega) with rfl | rfl | rfl | rfl
    · refine ⟨by rw [if_pos (Or.inl rfl)], by unfold rk; (repeat' split) <;> omega⟩
    · refine ⟨by rw [if_pos (Or.inr (Or.inl ⟨i1, rfl⟩))], by unfold rk; (repeat' split) <;> omega⟩
    · refine ⟨by rw [if_pos (Or.inr (Or.inr (Or.inl ⟨i1, rfl⟩)))], by unfold rk; (repeat' split) <;> omega⟩
    · refine ⟨by rw [if_pos (Or.inr (Or.inr (Or.inr ⟨i1, rfl⟩)))], by unfold rk; (repeat' split) <;> omega⟩
theorem isMsk_eq {T n m : Int} {g gC : Int → Int} (h : isMsk T n m g) (hg : inB T n g) (hC : ∀ c9 : Int, 0 ≤ c9 → c9 < n → bitZ m c9 = 1 → gC (cntB m c9) = c9) : ∀ i : Int, 0 ≤ i → i < T → g i = gC i := by
  intro i i0 i1
  have a := h.2 i i0 i1
  have b := hg i i0 i1
  have c := hC (g i) b.1 b.2 a.1
  rw [a.2] at c
  exact c.symm
theorem dB_congr {T : Int} {E : Int → Int → Int} {g g' : Int → Int} (h : ∀ i : Int, 0 ≤ i → i < T → g i = g' i) : dB T E g = dB T E g' := by
  have e : ∀ i : Int, 0 ≤ i → pcol T E g i = pcol T E g' i := fun i i0 => by
    funext r
    unfold pcol
    by_cases q : i < T
    · rw [if_pos q, if_pos q, h i i0 q]
    · rw [if_neg q, if_neg q]
  unfold dB
  rw [e 0 (by omega), e 1 (by omega), e 2 (by omega), e 3 (by omega)]
theorem cand_congr {T n D : Int} {E : Int → Int → Int} {O g g' V : Int → Int} (h : ∀ i : Int, 0 ≤ i → i < T → g i = g' i) (hc : cand T n E O g D V) : cand T n E O g' D V :=
  ⟨fun i a b => by rw [← h i a b]; exact hc.1 i a b, by rw [← dB_congr h]; exact hc.2.1, hc.2.2.1, fun c a b q => by obtain ⟨i, i0, i1, e⟩ := hc.2.2.2 c a b q; exact ⟨i, i0, i1, by rw [← h i i0 i1]; exact e⟩⟩
/-- no bits above -/
theorem cntB_top {m n k : Int} (h0 : 0 ≤ m) (hn : 0 ≤ n) (h1 : m < 2 ^ n.toNat) (hk : n ≤ k) : cntB m k = cntB m n := by
  have key : ∀ j : Nat, cntB m (n + (j : Int)) = cntB m n := by
    intro j
    induction j with
    | zero => simp
    | succ j ih =>
      rw [show n + ((j + 1 : Nat) : Int) = n + (j : Int) + 1 by omega, cntB_succ m (by omega), ih]
      have : bitZ m (n + (j : Int)) = 0 := by
        unfold bitZ
        have e : (2 : Int) ^ n.toNat ≤ 2 ^ (n + (j : Int)).toNat := by
          rw [show (n + (j : Int)).toNat = n.toNat + j by omega, Int.pow_add]
          have p1 : (0 : Int) < 2 ^ n.toNat := Int.pow_pos (by omega)
          have p2 : (0 : Int) < 2 ^ j := Int.pow_pos (by omega)
          have := Int.mul_le_mul_of_nonneg_left (show (1 : Int) ≤ 2 ^ j by omega) (show (0 : Int) ≤ 2 ^ n.toNat by omega)
          omega
        rw [Int.ediv_eq_zero_of_lt h0 (by omega)]
        rfl
      omega
  have := key (k - n).toNat
  rwa [show n + ((k - n).toNat : Int) = k by omega] at this
/-- the rows that a mask's choice makes -/
theorem gC_srt {T n m : Int} {gC : Int → Int} (hn : 0 ≤ n) (hT : cntB m n = T) (hC : ∀ c9 : Int, 0 ≤ c9 → c9 < n → bitZ m c9 = 1 → gC (cntB m c9) = c9) : srt T gC := by
  intro i i0 i1
  obtain ⟨x, x0, x1, x2, x3⟩ := cntB_hit2 (m := m) hn i0 (by rw [hT]; omega)
  obtain ⟨y, y0, y1, y2, y3⟩ := cntB_hit2 (m := m) (i := i + 1) hn (by omega) (by rw [hT]; omega)
  have a := hC x x0 x1 x2
  have b := hC y y0 y1 y2
  rw [x3] at a
  rw [y3] at b
  rw [a, b]
  by_cases q : x < y
  · exact q
  · have := cntB_mono (m := m) (a := y) (b := x) y0 (by omega)
    omega
/-- what the inverse makes of what is owed -/
def vvI (T : Int) (M : Int → Int → Int) (O : Int → Int) (i : Int) : Int := zsum (fun j => M i (T + j) * O (j + 1)) T
theorem vv_sol {T D : Int} {E M : Int → Int → Int} {O g : Int → Int} (h : isInv T E g D M) {r : Int} (r0 : 1 ≤ r) (r1 : r ≤ T) : zsum (fun i => E (g i) r * vvI T M O i) T = D * O r := by
  have e1 : zsum (fun i => E (g i) r * vvI T M O i) T = zsum (fun j => zsum (fun i => E (g i) (r - 1 + 1) * M i (T + j)) T * O (j + 1)) T := by
    rw [zsum_congr (g := fun i => zsum (fun j => E (g i) r * (M i (T + j) * O (j + 1))) T) (fun i _ _ => by show E (g i) r * zsum _ T = _; exact (zsum_mull _ _ _).symm), zsum_comm]
    refine zsum_congr (fun j _ _ => ?_)
    rw [← zsum_mulr]
    refine zsum_congr (fun i _ _ => ?_)
    rw [show r - 1 + 1 = r by omega]
    show E (g i) r * (M i (T + j) * O (j + 1)) = E (g i) r * M i (T + j) * O (j + 1)
    rw [Int.mul_assoc]
  rw [e1, zsum_congr (g := fun j => if r - 1 = j then (fun j => D * O (j + 1)) j else 0) (fun j j0 j1 => ?_), zsum_ind (fun j => D * O (j + 1)) (r - 1) (by omega) (by omega)]
  · show D * O (r - 1 + 1) = D * O r
    rw [show r - 1 + 1 = r by omega]
  · show zsum (fun i => E (g i) (r - 1 + 1) * M i (T + j)) T * O (j + 1) = _
    rw [h.2.2.1 (r - 1) j (by omega) (by omega) j0 j1]
    by_cases q : r - 1 = j
    · rw [if_pos q, if_pos q, Int.mul_one]
    · rw [if_neg q, if_neg q, Int.mul_zero, Int.zero_mul]
theorem inv_dB {T D : Int} {E M : Int → Int → Int} {g : Int → Int} (h1 : 1 ≤ T) (h4 : T ≤ 4) (h : isInv T E g D M) : ¬ dB T E g = 0 := by rw [dB_mK h1 h4]; exact h.2.2.2
theorem cand_of {T n D : Int} {E M : Int → Int → Int} {O g V : Int → Int} (h1 : 1 ≤ T) (h4 : T ≤ 4) (h : isInv T E g D M) (hg : inB T n g) (hV : ∀ i : Int, 0 ≤ i → i < T → 0 ≤ vvI T M O i ∧ V (g i) = vvI T M O i) (hz : ∀ c : Int, 0 ≤ c → c < n → (∀ i : Int, 0 ≤ i → i < T → ¬ g i = c) → V c = 0) : cand T n E O g D V := by
  have hd := inv_dB h1 h4 h
  have hs : onB T n g V := fun c c0 c1 q => Classical.byContradiction fun w => q (hz c c0 c1 (fun i i0 i1 e => w ⟨i, i0, i1, e⟩))
  refine ⟨hg, hd, ⟨by have := h.1; omega, fun c c0 c1 => ?_, fun r r0 r1 => ?_⟩, hs⟩
  · by_cases z : V c = 0
    · rw [z]; omega
    · obtain ⟨i, i0, i1, e⟩ := hs c c0 c1 z
      have := hV i i0 i1
      rw [← e]; omega
  · rw [cov_on h4 hg hd hs, ← vv_sol (O := O) h r0 r1]
    refine zsum_congr (fun i i0 i1 => ?_)
    show E (g i) r * V (g i) = E (g i) r * vvI T M O i
    rw [(hV i i0 i1).2]
theorem cand_no {T n D i : Int} {E M : Int → Int → Int} {O g : Int → Int} (h1 : 1 ≤ T) (h4 : T ≤ 4) (h : isInv T E g D M) (i0 : 0 ≤ i) (i1 : i < T) (hv : vvI T M O i < 0) : ∀ D' V', ¬ cand T n E O g D' V' := by
  intro D' V' q
  have k := sol_uniq (E := E) (O := O) (g := g) (v := fun i => V' (g i)) (v' := fun i => vvI T M O i) (D := D') (D' := D) h1 h4 q.2.1 (fun r r0 r1 => by rw [← q.2.2.1.2.2 r r0 r1]; exact (cov_on h4 q.1 q.2.1 q.2.2.2).symm) (fun r r0 r1 => vv_sol h r0 r1) i i0 i1
  have a := q.1 i i0 i1
  have b := q.2.2.1.2.1 (g i) a.1 a.2
  have c := q.2.2.1.1
  have e : 0 ≤ V' (g i) * D := Int.mul_nonneg b (by have := h.1; omega)
  have f : vvI T M O i * D' < 0 := Int.mul_neg_of_neg_of_pos hv c
  have k9 : V' (g i) * D = vvI T M O i * D' := k
  omega
theorem vv_rng {T D : Int} {E M : Int → Int → Int} {O g : Int → Int} (h1 : 1 ≤ T) (h4 : T ≤ 4) (h : isInv T E g D M) (hO : ∀ r : Int, 1 ≤ r → r ≤ T → 0 ≤ O r ∧ O r ≤ 200) {i k : Int} (i0 : 0 ≤ i) (i1 : i < T) (k0 : 0 ≤ k) (k1 : k ≤ T) : -266043200 ≤ zsum (fun j => M i (T + j) * O (j + 1)) k ∧ zsum (fun j => M i (T + j) * O (j + 1)) k ≤ 266043200 := by
  have := zsum_rng2 (f := fun j => M i (T + j) * O (j + 1)) (lo := -66510800) (hi := 66510800) k0 (fun j j0 j1 => mul_abs (A := 332554) (B := 200) (h.2.1 i (T + j) i0 i1 (by omega) (by omega)) (by have := hO (j + 1) (by omega) (by omega); omega))
  have e1 : k * 66510800 ≤ 4 * 66510800 := by omega
  have e2 : k * -66510800 ≥ 4 * -66510800 := by omega
  omega
