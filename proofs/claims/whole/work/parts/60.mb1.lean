/-- the reference's cells as columns -/
def cC (kC : Int → Int) (c : Int) : Int → Int := fun r => kC (4 * r + c)
def wE (kW : Int → Int) : Int → Int → Int := fun c d => kW (4 * c + d - 1)
def aO (T : Int) (kA : Int → Int) : Int → Int := fun r => if r < T then kA r else 0
theorem dC_rep {gC : Int → Int} {M : Int → Int → Int} (h : ∀ c r : Int, 0 ≤ c → c < 4 → 0 ≤ r → r < 4 → gC (4 * r + c) = M c r) : d4 (cC gC 0) (cC gC 1) (cC gC 2) (cC gC 3) = det4 M :=
  d4_congr (fun r a b => h 0 r (by omega) (by omega) a b) (fun r a b => h 1 r (by omega) (by omega) a b) (fun r a b => h 2 r (by omega) (by omega) a b) (fun r a b => h 3 r (by omega) (by omega) a b)
theorem two_big {u v : Int → Int} (hu : ∀ r : Int, 0 ≤ r → r < 4 → -4000 ≤ u r ∧ u r ≤ 4000) (hv : ∀ r : Int, 0 ≤ r → r < 4 → -4000 ≤ v r ∧ v r ≤ 4000) {i : Int} (h0 : 0 ≤ i) (h1 : i < 3) : -32000000 ≤ two u v i ∧ two u v i ≤ 32000000 := by
  have a := mul_abs (hu i (by omega) (by omega)) (hv (i + 1) (by omega) (by omega))
  have b := mul_abs (hv i (by omega) (by omega)) (hu (i + 1) (by omega) (by omega))
  unfold two
  omega
theorem det4_big {M : Int → Int → Int} (h : ∀ c r : Int, 0 ≤ c → c < 4 → 0 ≤ r → r < 4 → -4000 ≤ M c r ∧ M c r ≤ 4000) : -6144000000000000 ≤ det4 M ∧ det4 M ≤ 6144000000000000 := by
  have t := fun (a b : Int) (a0 : 0 ≤ a ∧ a < 4) (b0 : 0 ≤ b ∧ b < 4) (i : Int) (i0 : 0 ≤ i) (i1 : i < 3) => two_big (fun r x y => h a r a0.1 a0.2 x y) (fun r x y => h b r b0.1 b0.2 x y) i0 i1
  have m1 := mul_abs (t 0 1 (by omega) (by omega) 0 (by omega) (by omega)) (t 2 3 (by omega) (by omega) 2 (by omega) (by omega))
  have m2 := mul_abs (t 0 2 (by omega) (by omega) 0 (by omega) (by omega)) (t 1 3 (by omega) (by omega) 2 (by omega) (by omega))
  have m3 := mul_abs (t 0 3 (by omega) (by omega) 0 (by omega) (by omega)) (t 1 2 (by omega) (by omega) 2 (by omega) (by omega))
  have m4 := mul_abs (t 1 2 (by omega) (by omega) 0 (by omega) (by omega)) (t 0 3 (by omega) (by omega) 2 (by omega) (by omega))
  have m5 := mul_abs (t 1 3 (by omega) (by omega) 0 (by omega) (by omega)) (t 0 2 (by omega) (by omega) 2 (by omega) (by omega))
  have m6 := mul_abs (t 2 3 (by omega) (by omega) 0 (by omega) (by omega)) (t 0 1 (by omega) (by omega) 2 (by omega) (by omega))
  unfold det4 d4
  omega
theorem rep_big {T put : Int} {kW kA kH : Int → Int} (hW : ∀ i r : Int, 0 ≤ i → i < T → 0 ≤ r → r < T → -4000 ≤ kW (4 * kH i + r) ∧ kW (4 * kH i + r) ≤ 4000) (hA : ∀ r : Int, 0 ≤ r → r < T → -4000 ≤ kA r ∧ kA r ≤ 4000) : ∀ c r : Int, 0 ≤ c → c < 4 → 0 ≤ r → r < 4 → -4000 ≤ repM (pcol T (wE kW) kH) put (aO T kA) c r ∧ repM (pcol T (wE kW) kH) put (aO T kA) c r ≤ 4000 := by
  intro c r c0 c1 r0 r1
  unfold repM
  by_cases q : c = put
  · rw [if_pos q]
    unfold aO
    split
    · rename_i h; exact hA r r0 h
    · omega
  · rw [if_neg q]
    unfold pcol
    by_cases a : c < T
    · rw [if_pos a]
      by_cases b : r < T
      · rw [if_pos b]
        unfold wE
        rw [show 4 * kH c + (r + 1) - 1 = 4 * kH c + r by omega]
        exact hW c r c0 a r0 b
      · rw [if_neg b]; omega
    · rw [if_neg a]; split <;> omega
theorem rep_none {M : Int → Int → Int} {x : Int → Int} : det4 (repM M (-1) x) = det4 M := by
  unfold det4 repM
  rw [if_neg (by omega), if_neg (by omega), if_neg (by omega), if_neg (by omega)]
theorem cram {T : Int} {E : Int → Int → Int} {g x : Int → Int} (h1 : 1 ≤ T) (h4 : T ≤ 4) {r : Int} (r0 : 1 ≤ r) (r1 : r ≤ T) : zsum (fun i => E (g i) r * det4 (repM (pcol T E g) i x)) T = dB T E g * x (r - 1) := by
  have k := cr4 (pcol T E g 0) (pcol T E g 1) (pcol T E g 2) (pcol T E g 3) x (r := r - 1) (by omega) (by omega)
  have e0 : det4 (repM (pcol T E g) 0 x) = d4 x (pcol T E g 1) (pcol T E g 2) (pcol T E g 3) := by unfold det4 repM; rw [if_pos rfl, if_neg (by omega), if_neg (by omega), if_neg (by omega)]
  have e1 : det4 (repM (pcol T E g) 1 x) = d4 (pcol T E g 0) x (pcol T E g 2) (pcol T E g 3) := by unfold det4 repM; rw [if_neg (by omega), if_pos rfl, if_neg (by omega), if_neg (by omega)]
  have e2 : det4 (repM (pcol T E g) 2 x) = d4 (pcol T E g 0) (pcol T E g 1) x (pcol T E g 3) := by unfold det4 repM; rw [if_neg (by omega), if_neg (by omega), if_pos rfl, if_neg (by omega)]
  have e3 : det4 (repM (pcol T E g) 3 x) = d4 (pcol T E g 0) (pcol T E g 1) (pcol T E g 2) x := by unfold det4 repM; rw [if_neg (by omega), if_neg (by omega), if_neg (by omega), if_pos rfl]
  have c : ∀ i : Int, i < T → pcol T E g i (r - 1) = E (g i) r := fun i a => by unfold pcol; rw [if_pos a, if_pos (by omega), show r - 1 + 1 = r by omega]
  have d : ∀ i : Int, T ≤ i → pcol T E g i (r - 1) = 0 := fun i a => by unfold pcol; rw [if_neg (by omega), if_neg (by omega)]
  unfold dB
  rw [← k]
  rcases (show T = 1 ∨ T = 2 ∨ T = 3 ∨ T = 4 by omega) with rfl | rfl | rfl | rfl
  · rw [zsum_1, c 0 (by omega), d 1 (by omega), d 2 (by omega), d 3 (by omega), e0]; omega
  · rw [zsum_2, c 0 (by omega), c 1 (by omega), d 2 (by omega), d 3 (by omega), e0, e1]; omega
  · rw [zsum_3, c 0 (by omega), c 1 (by omega), c 2 (by omega), d 3 (by omega), e0, e1, e2]; omega
  · rw [zsum_4, c 0 (by omega), c 1 (by omega), c 2 (by omega), c 3 (by omega), e0, e1, e2, e3]
/-- what solving makes -/
def isSol (T : Int) (E : Int → Int → Int) (O g : Int → Int) (D : Int) (v : Int → Int) : Prop := ¬ dB T E g = 0 ∧ (0 < D ∧ D ≤ 6144000000000000) ∧ (∀ i : Int, 0 ≤ i → i < T → -6144000000000000 ≤ v i ∧ v i ≤ 6144000000000000) ∧ ∀ r : Int, 1 ≤ r → r ≤ T → zsum (fun i => E (g i) r * v i) T = D * O r
theorem sol_of {T s d D : Int} {kW kA kH U : Int → Int} (h1 : 1 ≤ T) (h4 : T ≤ 4) (hW : ∀ i r : Int, 0 ≤ i → i < T → 0 ≤ r → r < T → -4000 ≤ kW (4 * kH i + r) ∧ kW (4 * kH i + r) ≤ 4000) (hA : ∀ r : Int, 0 ≤ r → r < T → -4000 ≤ kA r ∧ kA r ≤ 4000) (hd : d = dB T (wE kW) kH) (hz : ¬ d = 0) (hs : (s = 1 ∧ 0 ≤ d) ∨ (s = -1 ∧ d < 0)) (hD : D = s * d) (hU : ∀ i : Int, 0 ≤ i → i < T → U i = s * det4 (repM (pcol T (wE kW) kH) i (aO T kA))) : isSol T (wE kW) (fun r => kA (r - 1)) kH D U := by
  have b := det4_big (rep_big (put := -1) hW hA)
  rw [rep_none] at b
  have e : det4 (pcol T (wE kW) kH) = d := by rw [hd]; rfl
  rw [e] at b
  refine ⟨by rw [← hd]; exact hz, ?_, fun i i0 i1 => ?_, fun r r0 r1 => ?_⟩
  · rw [hD]; rcases hs with ⟨rfl, q⟩ | ⟨rfl, q⟩ <;> omega
  · have c := det4_big (rep_big (put := i) hW hA)
    rw [hU i i0 i1]; rcases hs with ⟨rfl, q⟩ | ⟨rfl, q⟩ <;> omega
  · rw [zsum_congr (g := fun i => s * (wE kW (kH i) r * det4 (repM (pcol T (wE kW) kH) i (aO T kA)))) (fun i i0 i1 => by show wE kW (kH i) r * U i = _; rw [hU i i0 i1, ← Int.mul_assoc, Int.mul_comm _ s, Int.mul_assoc]), zsum_mull, cram h1 h4 r0 r1, ← hd, hD]
    have : aO T kA (r - 1) = kA (r - 1) := if_pos (by omega)
    rw [this, Int.mul_assoc]
theorem cand_sol {T n D : Int} {E : Int → Int → Int} {O g V v : Int → Int} (h4 : T ≤ 4) (h : isSol T E O g D v) (hg : inB T n g) (hV : ∀ i : Int, 0 ≤ i → i < T → 0 ≤ v i ∧ V (g i) = v i) (hz : ∀ c : Int, 0 ≤ c → c < n → (∀ i : Int, 0 ≤ i → i < T → ¬ g i = c) → V c = 0) : cand T n E O g D V := by
  have hs : onB T n g V := fun c c0 c1 q => Classical.byContradiction fun w => q (hz c c0 c1 (fun i i0 i1 e => w ⟨i, i0, i1, e⟩))
  refine ⟨hg, h.1, ⟨h.2.1.1, fun c c0 c1 => ?_, fun r r0 r1 => ?_⟩, hs⟩
  · by_cases z : V c = 0
    · rw [z]; omega
    · obtain ⟨i, i0, i1, e⟩ := hs c c0 c1 z
      have := hV i i0 i1
      rw [← e]; omega
  · rw [cov_on h4 hg h.1 hs, ← h.2.2.2 r r0 r1]
    refine zsum_congr (fun i i0 i1 => ?_)
    show E (g i) r * V (g i) = E (g i) r * v i
    rw [(hV i i0 i1).2]
theorem cand_sno {T n D i : Int} {E : Int → Int → Int} {O g v : Int → Int} (h1 : 1 ≤ T) (h4 : T ≤ 4) (h : isSol T E O g D v) (i0 : 0 ≤ i) (i1 : i < T) (hv : v i < 0) : ∀ D' V', ¬ cand T n E O g D' V' := by
  intro D' V' q
  have k := sol_uniq (E := E) (O := O) (g := g) (v := fun i => V' (g i)) (v' := v) (D := D') (D' := D) h1 h4 q.2.1 (fun r r0 r1 => by rw [← q.2.2.1.2.2 r r0 r1]; exact (cov_on h4 q.1 q.2.1 q.2.2.2).symm) h.2.2.2 i i0 i1
  have a := q.1 i i0 i1
  have b := q.2.2.1.2.1 (g i) a.1 a.2
  have c := q.2.2.1.1
  have e : 0 ≤ V' (g i) * D := Int.mul_nonneg b (by have := h.2.1; omega)
  have f : v i * D' < 0 := Int.mul_neg_of_neg_of_pos hv c
  have k9 : V' (g i) * D = v i * D' := k
  omega
def roM (T n : Int) (v g : Int → Int) (i : Int) (V : Int → Int) : Prop := (∀ k : Int, 0 ≤ k → k < i → 0 ≤ v k ∧ V (g k) = v k) ∧ ∀ c : Int, 0 ≤ c → c < n → (∀ k : Int, 0 ≤ k → k < i → ¬ g k = c) → V c = 0
theorem roM_step {T n i : Int} {v g V : Int → Int} (h : roM T n v g i V) (hj : injB T g) (i0 : 0 ≤ i) (i1 : i < T) (h0 : 0 ≤ v i) : roM T n v g (i + 1) (zup V (g i) (v i)) := by
  refine ⟨fun k k0 k1 => ?_, fun c c0 c1 q => ?_⟩
  · by_cases e : k = i
    · rw [e, zup_eq]; exact ⟨h0, rfl⟩
    · rw [zup_ne (fun w => e (hj k i k0 (by omega) i0 i1 w))]
      exact h.1 k k0 (by omega)
  · rw [zup_ne (fun w => q i i0 (by omega) w.symm)]
    exact h.2 c c0 c1 (fun k k0 k1 => q k k0 (by omega))
def mBd (n : Int) (P : Int → Int) (p : Int) (V : Int → Int) : Prop := p = zsum (fun c => P c * V c) n ∧ (0 ≤ p ∧ p ≤ 4915200000000000000) ∧ ∀ c : Int, 0 ≤ c → c < n → 0 ≤ V c ∧ V c ≤ 6144000000000000
theorem roM_end {T n D p : Int} {E : Int → Int → Int} {O P g v V : Int → Int} (h1 : 1 ≤ T) (h4 : T ≤ 4) (hi : isSol T E O g D v) (hg : inB T n g) (hP : ∀ c : Int, 0 ≤ c → c < n → 0 ≤ P c ∧ P c ≤ 200) (h : roM T n v g T V) (hp : p = zsum (fun i => v i * P (g i)) T) : cand T n E O g D V ∧ mBd n P p V := by
  have hc := cand_sol h4 hi hg h.1 h.2
  have hb : ∀ c : Int, 0 ≤ c → c < n → 0 ≤ V c ∧ V c ≤ 6144000000000000 := fun c c0 c1 => by
    by_cases z : V c = 0
    · omega
    · obtain ⟨i, i0, i1, e⟩ := hc.2.2.2 c c0 c1 z
      have a := h.1 i i0 i1
      have b := hi.2.2.1 i i0 i1
      rw [← e, a.2]
      exact ⟨a.1, b.2⟩
  have e : p = zsum (fun c => P c * V c) n := by
    rw [hp, zsum_on (f := fun c => P c * V c) hg (dB_inj h4 hc.2.1) (fun c c0 c1 q => hc.2.2.2 c c0 c1 (fun w => q (by show P c * V c = 0; rw [w, Int.mul_zero])))]
    refine zsum_congr (fun i i0 i1 => ?_)
    show v i * P (g i) = P (g i) * V (g i)
    rw [(h.1 i i0 i1).2, Int.mul_comm]
  refine ⟨hc, e, ?_, hb⟩
  rw [hp]
  have := zsum_rng2 (f := fun i => v i * P (g i)) (lo := 0) (hi := 1228800000000000000) (n := T) (by omega) (fun i i0 i1 => mul_pos_rng (A := 6144000000000000) (B := 200) ⟨(h.1 i i0 i1).1, (hi.2.2.1 i i0 i1).2⟩ (hP (g i) (hg i i0 i1).1 (hg i i0 i1).2))
  omega
theorem lexS_c1 {D D' : Int} {K K' : Int → Int} {o : Int} (h : isCmp (K 0) D (K' 0) D' o) : lexS 1 D K D' K' o := by
  rcases h with ⟨h, q⟩ | ⟨h, q⟩ | ⟨h, q⟩
  · exact Or.inr (Or.inl ⟨h, 0, by omega, by omega, fun i a b => by omega, q⟩)
  · exact Or.inl ⟨h, fun i a b => by rw [show i = 0 by omega]; exact q⟩
  · exact Or.inr (Or.inr ⟨h, 0, by omega, by omega, fun i a b => by omega, q⟩)
theorem lexS_cs {m D D' o o' : Int} {K K' : Int → Int} (h : lexS m D K D' K' o) (ho : o = 0) (hm : 0 ≤ m) (hc : isCmp (K m) D (K' m) D' o') : lexS (m + 1) D K D' K' o' := by
  rcases h with ⟨-, h⟩ | ⟨h, -⟩ | ⟨h, -⟩
  · rcases hc with ⟨e, q⟩ | ⟨e, q⟩ | ⟨e, q⟩
    · exact Or.inr (Or.inl ⟨e, m, hm, by omega, h, q⟩)
    · refine Or.inl ⟨e, fun i a b => ?_⟩
      by_cases w : i = m
      · rw [w]; exact q
      · exact h i a (by omega)
    · exact Or.inr (Or.inr ⟨e, m, hm, by omega, fun i a b => (h i a b).symm, q⟩)
  · omega
  · omega
/-- what a try makes of the best -/
def tmP (T n nb : Int) (E : Int → Int → Int) (O P g : Int → Int) (fo cb cp : Int) (fV : Int → Int) (ko kb kp : Int) (kV : Int → Int) : Prop := ((∀ D' V', ¬ cand T n E O g D' V') ∧ ko = fo ∧ kb = cb ∧ kp = cp ∧ kV = fV) ∨ ∃ p0 D V0, cand T n E O g D V0 ∧ mBd n P p0 V0 ∧ (0 < D ∧ D ≤ 6144000000000000) ∧ (((fo = 0 ∨ lexLt (nb + 1) D (kk p0 V0) cb (kk cp fV)) ∧ ko = 1 ∧ kb = D ∧ kp = p0 ∧ ∀ c : Int, 0 ≤ c → c < 10 → kV c = V0 c) ∨ ((fo = 1 ∧ ¬ lexLt (nb + 1) D (kk p0 V0) cb (kk cp fV)) ∧ ko = fo ∧ kb = cb ∧ kp = cp ∧ kV = fV))
def mFnd (n : Int) (P : Int → Int) (fo cb cp : Int) (fV : Int → Int) : Prop := (fo = 0 ∨ fo = 1) ∧ (fo = 1 → (0 < cb ∧ cb ≤ 6144000000000000) ∧ mBd n P cp fV)
def mP (kT : Int → Int) (c : Int) : Int := if c < kT 1 then kT (27 + c) else if c = kT 1 then 1 else 0
theorem mP_rng {kT : Int → Int} (h : mOk kT) {c : Int} (c0 : 0 ≤ c) : 0 ≤ mP kT c ∧ mP kT c ≤ 200 := by
  have h1 := h.2.1
  unfold mP
  split
  · exact h.2.2 (27 + c) (by omega) (by omega)
  · split <;> omega
/-- rows of columns in their order -/
def lx (T : Int) (g h : Int → Int) : Prop := g 0 < h 0 ∨ (g 0 = h 0 ∧ 1 < T ∧ (g 1 < h 1 ∨ (g 1 = h 1 ∧ 2 < T ∧ (g 2 < h 2 ∨ (g 2 = h 2 ∧ 3 < T ∧ g 3 < h 3)))))
def eqT (T : Int) (g h : Int → Int) : Prop := ∀ i : Int, 0 ≤ i → i < T → g i = h i
def wt (T : Int) (h : Int → Int) : Int := 1331 * h 0 + (if 1 < T then 121 * h 1 else 0) + (if 2 < T then 11 * h 2 else 0) + (if 3 < T then h 3 else 0)
theorem eqT_4 {T : Int} {g h : Int → Int} (h4 : T ≤ 4) (e0 : g 0 = h 0) (e1 : 1 < T → g 1 = h 1) (e2 : 2 < T → g 2 = h 2) (e3 : 3 < T → g 3 = h 3) : eqT T g h := fun i a b => by
  rcases (show i = 0 ∨ i = 1 ∨ i = 2 ∨ i = 3 by omega) with rfl | rfl | rfl | rfl
  · exact e0
  · exact e1 b
  · exact e2 b
  · exact e3 b
def srt4 (T n : Int) (g : Int → Int) : Prop := 0 ≤ g 0 ∧ (1 < T → g 0 < g 1) ∧ (2 < T → g 1 < g 2) ∧ (3 < T → g 2 < g 3) ∧ g 0 < n ∧ (1 < T → g 1 < n) ∧ (2 < T → g 2 < n) ∧ (3 < T → g 3 < n)
theorem srt4_of {T n : Int} {g : Int → Int} (h1 : 1 ≤ T) (hg : inB T n g) (hs : srt T g) : srt4 T n g := by
  have s0 := hs 0 (by omega)
  have s1 := hs 1 (by omega)
  have s2 := hs 2 (by omega)
  simp only [show (0 : Int) + 1 = 1 by rfl, show (1 : Int) + 1 = 2 by rfl, show (2 : Int) + 1 = 3 by rfl] at s0 s1 s2
  have g0 := hg 0 (by omega) (by omega)
  exact ⟨g0.1, s0, s1, s2, g0.2, fun q => (hg 1 (by omega) q).2, fun q => (hg 2 (by omega) q).2, fun q => (hg 3 (by omega) q).2⟩
theorem srt_of4 {T n : Int} {g : Int → Int} (h4 : T ≤ 4) (h : srt4 T n g) : inB T n g ∧ srt T g := by
  obtain ⟨a0, a1, a2, a3, b0, b1, b2, b3⟩ := h
  refine ⟨fun i i0 i1 => ?_, fun i i0 i1 => ?_⟩
  · rcases (show i = 0 ∨ i = 1 ∨ i = 2 ∨ i = 3 by omega) with rfl | rfl | rfl | rfl
    · exact ⟨a0, b0⟩
    · have := a1 i1; have := b1 i1; omega
    · have := a1 (by omega); have := a2 i1; have := b2 i1; omega
    · have := a1 (by omega); have := a2 (by omega); have := a3 i1; have := b3 i1; omega
  · rcases (show i = 0 ∨ i = 1 ∨ i = 2 by omega) with rfl | rfl | rfl
    · exact a1 i1
    · exact a2 i1
    · exact a3 i1
/-- the next row: k is where it rises -/
def nxR (T n : Int) (h : Int → Int) (k : Int) (h' : Int → Int) : Prop := (∀ i : Int, 0 ≤ i → i < k → h' i = h i) ∧ h' k = h k + 1 ∧ (∀ i : Int, k < i → i < T → h' i = h' (i - 1) + 1) ∧ ¬ h k = n - T + k ∧ ∀ i : Int, k < i → i < T → h i = n - T + i
theorem lx1 (g h : Int → Int) : lx 1 g h ↔ g 0 < h 0 := by unfold lx; omega
theorem lx2 (g h : Int → Int) : lx 2 g h ↔ g 0 < h 0 ∨ (g 0 = h 0 ∧ g 1 < h 1) := by unfold lx; omega
theorem lx3 (g h : Int → Int) : lx 3 g h ↔ g 0 < h 0 ∨ (g 0 = h 0 ∧ (g 1 < h 1 ∨ (g 1 = h 1 ∧ g 2 < h 2))) := by unfold lx; omega
theorem lx4 (g h : Int → Int) : lx 4 g h ↔ g 0 < h 0 ∨ (g 0 = h 0 ∧ (g 1 < h 1 ∨ (g 1 = h 1 ∧ (g 2 < h 2 ∨ (g 2 = h 2 ∧ g 3 < h 3))))) := by unfold lx; omega
theorem lx_le {T : Int} {g h : Int → Int} (h1 : 1 ≤ T) (h4 : T ≤ 4) (e0 : g 0 ≤ h 0) (e1 : 1 < T → g 0 = h 0 → g 1 ≤ h 1) (e2 : 2 < T → g 0 = h 0 → g 1 = h 1 → g 2 ≤ h 2) (e3 : 3 < T → g 0 = h 0 → g 1 = h 1 → g 2 = h 2 → g 3 ≤ h 3) : lx T g h ∨ eqT T g h := by
  by_cases a : g 0 = h 0
  · by_cases t1 : 1 < T
    · by_cases b : g 1 = h 1
      · by_cases t2 : 2 < T
        · by_cases c : g 2 = h 2
          · by_cases t3 : 3 < T
            · by_cases d : g 3 = h 3
              · exact Or.inr (eqT_4 h4 a (fun _ => b) (fun _ => c) (fun _ => d))
              · have := e3 t3 a b c; exact Or.inl (Or.inr ⟨a, t1, Or.inr ⟨b, t2, Or.inr ⟨c, t3, by omega⟩⟩⟩)
            · exact Or.inr (eqT_4 h4 a (fun _ => b) (fun _ => c) (fun q => absurd q t3))
          · have := e2 t2 a b; exact Or.inl (Or.inr ⟨a, t1, Or.inr ⟨b, t2, Or.inl (by omega)⟩⟩)
        · exact Or.inr (eqT_4 h4 a (fun _ => b) (fun q => absurd q t2) (fun q => absurd q (by omega)))
      · have := e1 t1 a; exact Or.inl (Or.inr ⟨a, t1, Or.inl (by omega)⟩)
    · exact Or.inr (eqT_4 h4 a (fun q => absurd q t1) (fun q => absurd q (by omega)) (fun q => absurd q (by omega)))
  · exact Or.inl (Or.inl (by omega))
theorem nx_1_0 {n : Int} {h h' : Int → Int} (hn : n ≤ 10) (a0 : 0 ≤ h 0)  (bb : h 0 < n) (qk : h' 0 = h 0 + 1) (x4 : ¬ h 0 = n - 1 + 0) : srt4 1 n h' ∧ wt 1 h < wt 1 h' ∧ wt 1 h' ≤ 14640 ∧ ∀ g, srt4 1 n g → lx 1 g h' → lx 1 g h ∨ eqT 1 g h := by
  refine ⟨?_, ?_, ?_, fun g hg hl => ?_⟩
  · exact ⟨by omega, fun q => absurd q (by omega), fun q => absurd q (by omega), fun q => absurd q (by omega), by omega, fun q => absurd q (by omega), fun q => absurd q (by omega), fun q => absurd q (by omega)⟩
  · unfold wt; simp only [if_neg (show ¬ (1 : Int) < 1 by omega), if_neg (show ¬ (2 : Int) < 1 by omega), if_neg (show ¬ (3 : Int) < 1 by omega)]; omega
  · unfold wt; simp only [if_neg (show ¬ (1 : Int) < 1 by omega), if_neg (show ¬ (2 : Int) < 1 by omega), if_neg (show ¬ (3 : Int) < 1 by omega)]; omega
  · obtain ⟨c0, c1, c2, c3, d0, d1, d2, d3⟩ := hg
    clear c1 d1
    clear c2 d2
    clear c3 d3
    rw [lx1] at hl
    exact lx_le (by omega) (by omega) (by omega) (fun q => absurd q (by omega)) (fun q => absurd q (by omega)) (fun q => absurd q (by omega))
theorem nx_2_0 {n : Int} {h h' : Int → Int} (hn : n ≤ 10) (a0 : 0 ≤ h 0) (a1 : h 0 < h 1) (bb : h 1 < n) (qk : h' 0 = h 0 + 1) (p1 : h' 1 = h' 0 + 1) (r1 : h 1 = n - 2 + 1) (x4 : ¬ h 0 = n - 2 + 0) : srt4 2 n h' ∧ wt 2 h < wt 2 h' ∧ wt 2 h' ≤ 14640 ∧ ∀ g, srt4 2 n g → lx 2 g h' → lx 2 g h ∨ eqT 2 g h := by
  refine ⟨?_, ?_, ?_, fun g hg hl => ?_⟩
  · exact ⟨by omega, fun _ => by omega, fun q => absurd q (by omega), fun q => absurd q (by omega), by omega, fun _ => by omega, fun q => absurd q (by omega), fun q => absurd q (by omega)⟩
  · unfold wt; simp only [if_pos (show (1 : Int) < 2 by omega), if_neg (show ¬ (2 : Int) < 2 by omega), if_neg (show ¬ (3 : Int) < 2 by omega)]; omega
  · unfold wt; simp only [if_pos (show (1 : Int) < 2 by omega), if_neg (show ¬ (2 : Int) < 2 by omega), if_neg (show ¬ (3 : Int) < 2 by omega)]; omega
  · obtain ⟨c0, c1, c2, c3, d0, d1, d2, d3⟩ := hg
    replace c1 := c1 (by omega)
    replace d1 := d1 (by omega)
    clear c2 d2
    clear c3 d3
    rw [lx2] at hl
    exact lx_le (by omega) (by omega) (by omega) (fun _ y0 => by omega) (fun q => absurd q (by omega)) (fun q => absurd q (by omega))
theorem nx_2_1 {n : Int} {h h' : Int → Int} (hn : n ≤ 10) (a0 : 0 ≤ h 0) (a1 : h 0 < h 1) (bb : h 1 < n) (q0 : h' 0 = h 0) (qk : h' 1 = h 1 + 1) (x4 : ¬ h 1 = n - 2 + 1) : srt4 2 n h' ∧ wt 2 h < wt 2 h' ∧ wt 2 h' ≤ 14640 ∧ ∀ g, srt4 2 n g → lx 2 g h' → lx 2 g h ∨ eqT 2 g h := by
  refine ⟨?_, ?_, ?_, fun g hg hl => ?_⟩
  · exact ⟨by omega, fun _ => by omega, fun q => absurd q (by omega), fun q => absurd q (by omega), by omega, fun _ => by omega, fun q => absurd q (by omega), fun q => absurd q (by omega)⟩
  · unfold wt; simp only [if_pos (show (1 : Int) < 2 by omega), if_neg (show ¬ (2 : Int) < 2 by omega), if_neg (show ¬ (3 : Int) < 2 by omega)]; omega
  · unfold wt; simp only [if_pos (show (1 : Int) < 2 by omega), if_neg (show ¬ (2 : Int) < 2 by omega), if_neg (show ¬ (3 : Int) < 2 by omega)]; omega
  · obtain ⟨c0, c1, c2, c3, d0, d1, d2, d3⟩ := hg
    replace c1 := c1 (by omega)
    replace d1 := d1 (by omega)
    clear c2 d2
    clear c3 d3
    rw [lx2] at hl
    exact lx_le (by omega) (by omega) (by omega) (fun _ y0 => by omega) (fun q => absurd q (by omega)) (fun q => absurd q (by omega))
theorem nx_3_0 {n : Int} {h h' : Int → Int} (hn : n ≤ 10) (a0 : 0 ≤ h 0) (a1 : h 0 < h 1) (a2 : h 1 < h 2) (bb : h 2 < n) (qk : h' 0 = h 0 + 1) (p1 : h' 1 = h' 0 + 1) (r1 : h 1 = n - 3 + 1) (p2 : h' 2 = h' 1 + 1) (r2 : h 2 = n - 3 + 2) (x4 : ¬ h 0 = n - 3 + 0) : srt4 3 n h' ∧ wt 3 h < wt 3 h' ∧ wt 3 h' ≤ 14640 ∧ ∀ g, srt4 3 n g → lx 3 g h' → lx 3 g h ∨ eqT 3 g h := by
  refine ⟨?_, ?_, ?_, fun g hg hl => ?_⟩
  · exact ⟨by omega, fun _ => by omega, fun _ => by omega, fun q => absurd q (by omega), by omega, fun _ => by omega, fun _ => by omega, fun q => absurd q (by omega)⟩
  · unfold wt; simp only [if_pos (show (1 : Int) < 3 by omega), if_pos (show (2 : Int) < 3 by omega), if_neg (show ¬ (3 : Int) < 3 by omega)]; omega
  · unfold wt; simp only [if_pos (show (1 : Int) < 3 by omega), if_pos (show (2 : Int) < 3 by omega), if_neg (show ¬ (3 : Int) < 3 by omega)]; omega
  · obtain ⟨c0, c1, c2, c3, d0, d1, d2, d3⟩ := hg
    replace c1 := c1 (by omega)
    replace d1 := d1 (by omega)
    replace c2 := c2 (by omega)
    replace d2 := d2 (by omega)
    clear c3 d3
    rw [lx3] at hl
    exact lx_le (by omega) (by omega) (by omega) (fun _ y0 => by omega) (fun _ y0 y1 => by omega) (fun q => absurd q (by omega))
theorem nx_3_1 {n : Int} {h h' : Int → Int} (hn : n ≤ 10) (a0 : 0 ≤ h 0) (a1 : h 0 < h 1) (a2 : h 1 < h 2) (bb : h 2 < n) (q0 : h' 0 = h 0) (qk : h' 1 = h 1 + 1) (p2 : h' 2 = h' 1 + 1) (r2 : h 2 = n - 3 + 2) (x4 : ¬ h 1 = n - 3 + 1) : srt4 3 n h' ∧ wt 3 h < wt 3 h' ∧ wt 3 h' ≤ 14640 ∧ ∀ g, srt4 3 n g → lx 3 g h' → lx 3 g h ∨ eqT 3 g h := by
  refine ⟨?_, ?_, ?_, fun g hg hl => ?_⟩
  · exact ⟨by omega, fun _ => by omega, fun _ => by omega, fun q => absurd q (by omega), by omega, fun _ => by omega, fun _ => by omega, fun q => absurd q (by omega)⟩
  · unfold wt; simp only [if_pos (show (1 : Int) < 3 by omega), if_pos (show (2 : Int) < 3 by omega), if_neg (show ¬ (3 : Int) < 3 by omega)]; omega
  · unfold wt; simp only [if_pos (show (1 : Int) < 3 by omega), if_pos (show (2 : Int) < 3 by omega), if_neg (show ¬ (3 : Int) < 3 by omega)]; omega
  · obtain ⟨c0, c1, c2, c3, d0, d1, d2, d3⟩ := hg
    replace c1 := c1 (by omega)
    replace d1 := d1 (by omega)
    replace c2 := c2 (by omega)
    replace d2 := d2 (by omega)
    clear c3 d3
    rw [lx3] at hl
    exact lx_le (by omega) (by omega) (by omega) (fun _ y0 => by omega) (fun _ y0 y1 => by omega) (fun q => absurd q (by omega))
theorem nx_3_2 {n : Int} {h h' : Int → Int} (hn : n ≤ 10) (a0 : 0 ≤ h 0) (a1 : h 0 < h 1) (a2 : h 1 < h 2) (bb : h 2 < n) (q0 : h' 0 = h 0) (q1 : h' 1 = h 1) (qk : h' 2 = h 2 + 1) (x4 : ¬ h 2 = n - 3 + 2) : srt4 3 n h' ∧ wt 3 h < wt 3 h' ∧ wt 3 h' ≤ 14640 ∧ ∀ g, srt4 3 n g → lx 3 g h' → lx 3 g h ∨ eqT 3 g h := by
  refine ⟨?_, ?_, ?_, fun g hg hl => ?_⟩
  · exact ⟨by omega, fun _ => by omega, fun _ => by omega, fun q => absurd q (by omega), by omega, fun _ => by omega, fun _ => by omega, fun q => absurd q (by omega)⟩
  · unfold wt; simp only [if_pos (show (1 : Int) < 3 by omega), if_pos (show (2 : Int) < 3 by omega), if_neg (show ¬ (3 : Int) < 3 by omega)]; omega
  · unfold wt; simp only [if_pos (show (1 : Int) < 3 by omega), if_pos (show (2 : Int) < 3 by omega), if_neg (show ¬ (3 : Int) < 3 by omega)]; omega
  · obtain ⟨c0, c1, c2, c3, d0, d1, d2, d3⟩ := hg
    replace c1 := c1 (by omega)
    replace d1 := d1 (by omega)
    replace c2 := c2 (by omega)
    replace d2 := d2 (by omega)
    clear c3 d3
    rw [lx3] at hl
    exact lx_le (by omega) (by omega) (by omega) (fun _ y0 => by omega) (fun _ y0 y1 => by omega) (fun q => absurd q (by omega))
theorem nx_4_0 {n : Int} {h h' : Int → Int} (hn : n ≤ 10) (a0 : 0 ≤ h 0) (a1 : h 0 < h 1) (a2 : h 1 < h 2) (a3 : h 2 < h 3) (bb : h 3 < n) (qk : h' 0 = h 0 + 1) (p1 : h' 1 = h' 0 + 1) (r1 : h 1 = n - 4 + 1) (p2 : h' 2 = h' 1 + 1) (r2 : h 2 = n - 4 + 2) (p3 : h' 3 = h' 2 + 1) (r3 : h 3 = n - 4 + 3) (x4 : ¬ h 0 = n - 4 + 0) : srt4 4 n h' ∧ wt 4 h < wt 4 h' ∧ wt 4 h' ≤ 14640 ∧ ∀ g, srt4 4 n g → lx 4 g h' → lx 4 g h ∨ eqT 4 g h := by
  refine ⟨?_, ?_, ?_, fun g hg hl => ?_⟩
  · exact ⟨by omega, fun _ => by omega, fun _ => by omega, fun _ => by omega, by omega, fun _ => by omega, fun _ => by omega, fun _ => by omega⟩
  · unfold wt; simp only [if_pos (show (1 : Int) < 4 by omega), if_pos (show (2 : Int) < 4 by omega), if_pos (show (3 : Int) < 4 by omega)]; omega
  · unfold wt; simp only [if_pos (show (1 : Int) < 4 by omega), if_pos (show (2 : Int) < 4 by omega), if_pos (show (3 : Int) < 4 by omega)]; omega
  · obtain ⟨c0, c1, c2, c3, d0, d1, d2, d3⟩ := hg
    replace c1 := c1 (by omega)
    replace d1 := d1 (by omega)
    replace c2 := c2 (by omega)
    replace d2 := d2 (by omega)
    replace c3 := c3 (by omega)
    replace d3 := d3 (by omega)
    rw [lx4] at hl
    exact lx_le (by omega) (by omega) (by omega) (fun _ y0 => by omega) (fun _ y0 y1 => by omega) (fun _ y0 y1 y2 => by omega)
theorem nx_4_1 {n : Int} {h h' : Int → Int} (hn : n ≤ 10) (a0 : 0 ≤ h 0) (a1 : h 0 < h 1) (a2 : h 1 < h 2) (a3 : h 2 < h 3) (bb : h 3 < n) (q0 : h' 0 = h 0) (qk : h' 1 = h 1 + 1) (p2 : h' 2 = h' 1 + 1) (r2 : h 2 = n - 4 + 2) (p3 : h' 3 = h' 2 + 1) (r3 : h 3 = n - 4 + 3) (x4 : ¬ h 1 = n - 4 + 1) : srt4 4 n h' ∧ wt 4 h < wt 4 h' ∧ wt 4 h' ≤ 14640 ∧ ∀ g, srt4 4 n g → lx 4 g h' → lx 4 g h ∨ eqT 4 g h := by
  refine ⟨?_, ?_, ?_, fun g hg hl => ?_⟩
  · exact ⟨by omega, fun _ => by omega, fun _ => by omega, fun _ => by omega, by omega, fun _ => by omega, fun _ => by omega, fun _ => by omega⟩
  · unfold wt; simp only [if_pos (show (1 : Int) < 4 by omega), if_pos (show (2 : Int) < 4 by omega), if_pos (show (3 : Int) < 4 by omega)]; omega
  · unfold wt; simp only [if_pos (show (1 : Int) < 4 by omega), if_pos (show (2 : Int) < 4 by omega), if_pos (show (3 : Int) < 4 by omega)]; omega
  · obtain ⟨c0, c1, c2, c3, d0, d1, d2, d3⟩ := hg
    replace c1 := c1 (by omega)
    replace d1 := d1 (by omega)
    replace c2 := c2 (by omega)
    replace d2 := d2 (by omega)
    replace c3 := c3 (by omega)
    replace d3 := d3 (by omega)
    rw [lx4] at hl
    exact lx_le (by omega) (by omega) (by omega) (fun _ y0 => by omega) (fun _ y0 y1 => by omega) (fun _ y0 y1 y2 => by omega)
theorem nx_4_2 {n : Int} {h h' : Int → Int} (hn : n ≤ 10) (a0 : 0 ≤ h 0) (a1 : h 0 < h 1) (a2 : h 1 < h 2) (a3 : h 2 < h 3) (bb : h 3 < n) (q0 : h' 0 = h 0) (q1 : h' 1 = h 1) (qk : h' 2 = h 2 + 1) (p3 : h' 3 = h' 2 + 1) (r3 : h 3 = n - 4 + 3) (x4 : ¬ h 2 = n - 4 + 2) : srt4 4 n h' ∧ wt 4 h < wt 4 h' ∧ wt 4 h' ≤ 14640 ∧ ∀ g, srt4 4 n g → lx 4 g h' → lx 4 g h ∨ eqT 4 g h := by
  refine ⟨?_, ?_, ?_, fun g hg hl => ?_⟩
  · exact ⟨by omega, fun _ => by omega, fun _ => by omega, fun _ => by omega, by omega, fun _ => by omega, fun _ => by omega, fun _ => by omega⟩
  · unfold wt; simp only [if_pos (show (1 : Int) < 4 by omega), if_pos (show (2 : Int) < 4 by omega), if_pos (show (3 : Int) < 4 by omega)]; omega
  · unfold wt; simp only [if_pos (show (1 : Int) < 4 by omega), if_pos (show (2 : Int) < 4 by omega), if_pos (show (3 : Int) < 4 by omega)]; omega
  · obtain ⟨c0, c1, c2, c3, d0, d1, d2, d3⟩ := hg
    replace c1 := c1 (by omega)
    replace d1 := d1 (by omega)
    replace c2 := c2 (by omega)
    replace d2 := d2 (by omega)
    replace c3 := c3 (by omega)
    replace d3 := d3 (by omega)
    rw [lx4] at hl
    exact lx_le (by omega) (by omega) (by omega) (fun _ y0 => by omega) (fun _ y0 y1 => by omega) (fun _ y0 y1 y2 => by omega)
theorem nx_4_3 {n : Int} {h h' : Int → Int} (hn : n ≤ 10) (a0 : 0 ≤ h 0) (a1 : h 0 < h 1) (a2 : h 1 < h 2) (a3 : h 2 < h 3) (bb : h 3 < n) (q0 : h' 0 = h 0) (q1 : h' 1 = h 1) (q2 : h' 2 = h 2) (qk : h' 3 = h 3 + 1) (x4 : ¬ h 3 = n - 4 + 3) : srt4 4 n h' ∧ wt 4 h < wt 4 h' ∧ wt 4 h' ≤ 14640 ∧ ∀ g, srt4 4 n g → lx 4 g h' → lx 4 g h ∨ eqT 4 g h := by
  refine ⟨?_, ?_, ?_, fun g hg hl => ?_⟩
  · exact ⟨by omega, fun _ => by omega, fun _ => by omega, fun _ => by omega, by omega, fun _ => by omega, fun _ => by omega, fun _ => by omega⟩
  · unfold wt; simp only [if_pos (show (1 : Int) < 4 by omega), if_pos (show (2 : Int) < 4 by omega), if_pos (show (3 : Int) < 4 by omega)]; omega
  · unfold wt; simp only [if_pos (show (1 : Int) < 4 by omega), if_pos (show (2 : Int) < 4 by omega), if_pos (show (3 : Int) < 4 by omega)]; omega
  · obtain ⟨c0, c1, c2, c3, d0, d1, d2, d3⟩ := hg
    replace c1 := c1 (by omega)
    replace d1 := d1 (by omega)
    replace c2 := c2 (by omega)
    replace d2 := d2 (by omega)
    replace c3 := c3 (by omega)
    replace d3 := d3 (by omega)
    rw [lx4] at hl
    exact lx_le (by omega) (by omega) (by omega) (fun _ y0 => by omega) (fun _ y0 y1 => by omega) (fun _ y0 y1 y2 => by omega)
theorem nx_ok {T n k : Int} {h h' : Int → Int} (h1 : 1 ≤ T) (h4 : T ≤ 4) (hn : n ≤ 10) (hs : srt4 T n h) (k0 : 0 ≤ k) (k1 : k < T) (hx : nxR T n h k h') : srt4 T n h' ∧ wt T h < wt T h' ∧ wt T h' ≤ 14640 ∧ ∀ g, srt4 T n g → lx T g h' → lx T g h ∨ eqT T g h := by
  obtain ⟨x1, x2, x3, x4, x5⟩ := hx
  obtain ⟨a0, a1, a2, a3, b0, b1, b2, b3⟩ := hs
  rcases (show (T = 1 ∧ k = 0) ∨ (T = 2 ∧ k = 0) ∨ (T = 2 ∧ k = 1) ∨ (T = 3 ∧ k = 0) ∨ (T = 3 ∧ k = 1) ∨ (T = 3 ∧ k = 2) ∨ (T = 4 ∧ k = 0) ∨ (T = 4 ∧ k = 1) ∨ (T = 4 ∧ k = 2) ∨ (T = 4 ∧ k = 3) by omega) with ⟨rfl, rfl⟩ | ⟨rfl, rfl⟩ | ⟨rfl, rfl⟩ | ⟨rfl, rfl⟩ | ⟨rfl, rfl⟩ | ⟨rfl, rfl⟩ | ⟨rfl, rfl⟩ | ⟨rfl, rfl⟩ | ⟨rfl, rfl⟩ | ⟨rfl, rfl⟩
  · exact nx_1_0 hn a0 b0 x2 x4
  · exact nx_2_0 hn a0 (a1 (by omega)) (b1 (by omega)) x2 (x3 1 (by omega) (by omega)) (x5 1 (by omega) (by omega)) x4
  · exact nx_2_1 hn a0 (a1 (by omega)) (b1 (by omega)) (x1 0 (by omega) (by omega)) x2 x4
  · exact nx_3_0 hn a0 (a1 (by omega)) (a2 (by omega)) (b2 (by omega)) x2 (x3 1 (by omega) (by omega)) (x5 1 (by omega) (by omega)) (x3 2 (by omega) (by omega)) (x5 2 (by omega) (by omega)) x4
  · exact nx_3_1 hn a0 (a1 (by omega)) (a2 (by omega)) (b2 (by omega)) (x1 0 (by omega) (by omega)) x2 (x3 2 (by omega) (by omega)) (x5 2 (by omega) (by omega)) x4
  · exact nx_3_2 hn a0 (a1 (by omega)) (a2 (by omega)) (b2 (by omega)) (x1 0 (by omega) (by omega)) (x1 1 (by omega) (by omega)) x2 x4
  · exact nx_4_0 hn a0 (a1 (by omega)) (a2 (by omega)) (a3 (by omega)) (b3 (by omega)) x2 (x3 1 (by omega) (by omega)) (x5 1 (by omega) (by omega)) (x3 2 (by omega) (by omega)) (x5 2 (by omega) (by omega)) (x3 3 (by omega) (by omega)) (x5 3 (by omega) (by omega)) x4
  · exact nx_4_1 hn a0 (a1 (by omega)) (a2 (by omega)) (a3 (by omega)) (b3 (by omega)) (x1 0 (by omega) (by omega)) x2 (x3 2 (by omega) (by omega)) (x5 2 (by omega) (by omega)) (x3 3 (by omega) (by omega)) (x5 3 (by omega) (by omega)) x4
  · exact nx_4_2 hn a0 (a1 (by omega)) (a2 (by omega)) (a3 (by omega)) (b3 (by omega)) (x1 0 (by omega) (by omega)) (x1 1 (by omega) (by omega)) x2 (x3 3 (by omega) (by omega)) (x5 3 (by omega) (by omega)) x4
  · exact nx_4_3 hn a0 (a1 (by omega)) (a2 (by omega)) (a3 (by omega)) (b3 (by omega)) (x1 0 (by omega) (by omega)) (x1 1 (by omega) (by omega)) (x1 2 (by omega) (by omega)) x2 x4
theorem nx_last {T n : Int} {h : Int → Int} (h1 : 1 ≤ T) (h4 : T ≤ 4) (hx : ∀ i : Int, 0 ≤ i → i < T → h i = n - T + i) : ∀ g, srt4 T n g → lx T g h ∨ eqT T g h := by
  intro g hg
  have r0 := hx 0
  have r1 := hx 1
  have r2 := hx 2
  have r3 := hx 3
  obtain ⟨c0, c1, c2, c3, d0, d1, d2, d3⟩ := hg
  refine Classical.byContradiction fun w => ?_
  have w1 := not_or.mp w
  unfold lx at w1
  refine w1.2 (eqT_4 h4 ?_ ?_ ?_ ?_) <;> omega
theorem nx_first {T n : Int} {h : Int → Int} (h1 : 1 ≤ T) (h4 : T ≤ 4) (hn : T ≤ n) (hx : ∀ i : Int, 0 ≤ i → i < T → h i = i) : srt4 T n h ∧ ∀ g, srt4 T n g → ¬ lx T g h := by
  have r0 := hx 0
  have r1 := hx 1
  have r2 := hx 2
  have r3 := hx 3
  refine ⟨by unfold srt4; omega, fun g hg hl => ?_⟩
  obtain ⟨c0, c1, c2, c3, d0, d1, d2, d3⟩ := hg
  unfold lx at hl
  omega
