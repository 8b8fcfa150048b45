theorem zz_c4 {P : Int → Prop} (h0 : P 0) (h1 : P 1) (h2 : P 2) (h3 : P 3) {i : Int} (a : 0 ≤ i) (b : i < 4) : P i := by
  rcases (show i = 0 ∨ i = 1 ∨ i = 2 ∨ i = 3 by omega) with rfl | rfl | rfl | rfl
  all_goals assumption
theorem zz_c5 {P : Int → Prop} (h0 : P 0) (h1 : P 1) (h2 : P 2) (h3 : P 3) (h4 : P 4) {i : Int} (a : 0 ≤ i) (b : i < 5) : P i := by
  rcases (show i = 0 ∨ i = 1 ∨ i = 2 ∨ i = 3 ∨ i = 4 by omega) with rfl | rfl | rfl | rfl | rfl
  all_goals assumption
theorem zz_c6 {P : Int → Prop} (h0 : P 0) (h1 : P 1) (h2 : P 2) (h3 : P 3) (h4 : P 4) (h5 : P 5) {i : Int} (a : 0 ≤ i) (b : i < 6) : P i := by
  rcases (show i = 0 ∨ i = 1 ∨ i = 2 ∨ i = 3 ∨ i = 4 ∨ i = 5 by omega) with rfl | rfl | rfl | rfl | rfl | rfl
  all_goals assumption
theorem zz_c10 {P : Int → Prop} (h0 : P 0) (h1 : P 1) (h2 : P 2) (h3 : P 3) (h4 : P 4) (h5 : P 5) (h6 : P 6) (h7 : P 7) (h8 : P 8) (h9 : P 9) {i : Int} (a : 0 ≤ i) (b : i < 10) : P i := by
  rcases (show i = 0 ∨ i = 1 ∨ i = 2 ∨ i = 3 ∨ i = 4 ∨ i = 5 ∨ i = 6 ∨ i = 7 ∨ i = 8 ∨ i = 9 by omega) with rfl | rfl | rfl | rfl | rfl | rfl | rfl | rfl | rfl | rfl
  all_goals assumption
def zup2 (f : Int → Int → Int) (i j v : Int) : Int → Int → Int := fun a => if a = i then zup (f a) j v else f a
theorem zup2_eq (f : Int → Int → Int) (i j v : Int) : zup2 f i j v i j = v := by unfold zup2; rw [if_pos rfl, zup_eq]
theorem zup2_ne {f : Int → Int → Int} {i j v a b : Int} (h : ¬ (a = i ∧ b = j)) : zup2 f i j v a b = f a b := by
  unfold zup2
  by_cases e : a = i
  · rw [if_pos e, zup_ne (fun q => h ⟨e, q⟩)]
  · rw [if_neg e]
theorem zz_bool {a : Int} (h : a = 0 ∨ a = 1) : narrow .boolean (.int (iI a)) = .int (iI a) := by rcases h with rfl | rfl <;> decide +kernel
theorem zz_vI {a b : Int} (h : a = b) : some (Value.int (iI a)) = some (Value.int (iI b)) := by rw [h]
theorem zz_vL {a b : Int} (h : a = b) : some (Value.long (iL a)) = some (Value.long (iL b)) := by rw [h]
theorem zzMet.mono {l : Launch} {y : MethodName} {cc : ByteArray} {nL : Nat} {ret : Option FieldType} {rm : Room} {z : zC} {as : List Value} {ws : va_W} {post post' : Option Value → va_W → Prop} (h : zzMet l y cc nL ret rm z as ws post) (hp : ∀ v w, post v w → post' v w) : zzMet l y cc nL ret rm z as ws post' := by
  intro sz p e ha hc hk s m args below hf happ hP hK
  obtain ⟨n, o, h1, h2, h3, ⟨⟨v, w, q1, q2, q3⟩, q4⟩, L⟩ := h sz p e ha hc hk s m args below hf happ hP hK
  exact ⟨n, o, h1, h2, h3, ⟨⟨v, w, q1, hp v w q2, q3⟩, q4⟩, L⟩
abbrev wPlan (z : zC) (ph : Nat) (pa : Nat) (pr : Nat) (pt : Nat) (pd : Int) (pb : Int) (fP : Int → Int) (fR : Int → Int) (fT : Int → Int) : va_W := [(ph, .inr (6, [.int (iI pd), .int (iI pb), .ref pa, .ref pr, .ref pt])), (pa, irow 5 (z.2.1 1) fP), (pr, irow 5 (z.2.1 1) fR), (pt, irow 35 (z.2.1 1) fT)]
abbrev wRun (z : zC) (rh : Nat) (ru : Nat) (rl : Nat) (rf : Int) (rn : Int) (rd : Int) (fU : Int → Int) (fL : Int → Int) : va_W := [(rh, .inr (4, [.int (iI rf), .long (iL rn), .long (iL rd), .ref ru, .ref rl])), (ru, lrow 5 (z.2.1 2) fU), (rl, lrow 5 (z.2.1 2) fL)]
abbrev wText (z : zC) (th : Nat) (tb : Nat) (tn : Nat) (tz : Int) (tf : Int) (tk : Int) (ta : Int) (te : Int) (fB : Int → Int) (fN : Int → Int) : va_W := [(th, .inr (8, [.int (iI tz), .int (iI tf), .ref tb, .ref tn, .int (iI tk), .int (iI ta), .int (iI te)])), (tb, brow 300 (z.2.1 0) fB), (tn, irow 4 (z.2.1 1) fN)]
abbrev wLM (z : zC) (lh : Nat) (lt : Nat) (lb : Nat) (lc : Nat) (lr : Nat) (lp : Nat) (ld : Nat) (lm : Int) (lf : Int) (lk : Int) (lq : Int) : va_W := [(lh, .inr (9, [.ref lt, .ref lb, .ref lc, .ref lr, .ref lp, .ref ld, .int (iI lm), .int (iI lf), .int (iI lk), .int (iI lq)]))]
abbrev wEq (z : zC) (eh : Nat) (eo : Nat) (ep : Nat) (ew : Nat) (eR : Int → Nat) (ed : Int) (eb : Int) (ec : Int) (fE : Int → Int → Int) (fQ : Int → Int) (fO : Int → Int) : va_W := [(eh, .inr (3, [.int (iI ed), .int (iI eb), .int (iI ec), .ref eo, .ref ep, .ref ew])), (eo, qrow 10 (z.2.1 3) eR), (ep, lrow 10 (z.2.1 2) fQ), (ew, lrow 5 (z.2.1 2) fO), (eR 0, lrow 5 (z.2.1 2) (fE 0)), (eR 1, lrow 5 (z.2.1 2) (fE 1)), (eR 2, lrow 5 (z.2.1 2) (fE 2)), (eR 3, lrow 5 (z.2.1 2) (fE 3)), (eR 4, lrow 5 (z.2.1 2) (fE 4)), (eR 5, lrow 5 (z.2.1 2) (fE 5)), (eR 6, lrow 5 (z.2.1 2) (fE 6)), (eR 7, lrow 5 (z.2.1 2) (fE 7)), (eR 8, lrow 5 (z.2.1 2) (fE 8)), (eR 9, lrow 5 (z.2.1 2) (fE 9))]
abbrev wBas (z : zC) (bh : Nat) (bc : Nat) (bo : Nat) (bR : Int → Nat) (bs : Int) (bd : Int) (fC : Int → Int) (fM : Int → Int → Int) : va_W := [(bh, .inr (0, [.int (iI bs), .long (iL bd), .ref bc, .ref bo])), (bc, irow 4 (z.2.1 1) fC), (bo, qrow 4 (z.2.1 3) bR), (bR 0, lrow 8 (z.2.1 2) (fM 0)), (bR 1, lrow 8 (z.2.1 2) (fM 1)), (bR 2, lrow 8 (z.2.1 2) (fM 2)), (bR 3, lrow 8 (z.2.1 2) (fM 3))]
abbrev wMod (z : zC) (mh : Nat) (xT : Nat) (xD : Nat) (xP : Nat) (xR : Nat) (xC : Nat) (xW : Nat) (xA : Nat) (xH : Nat) (xU : Nat) (xB : Nat) (xI : Nat) (xN : Nat) (xM : Nat) (xY : Nat) (xK : Nat) (xL : Nat) (xE : Nat) (xS : Nat) (m_ra : Int) (m_ca : Int) (m_tp : Int) (m_fa : Int) (m_at : Int) (m_wr : Int) (m_va : Int) (m_pl : Int) (m_st : Int) (m_lo : Int) (m_bl : Int) (m_bc : Int) (m_fo : Int) (m_yl : Int) (m_yw : Int) (m_nu : Int) (m_nl : Int) (m_lu : Int) (m_ll : Int) (m_ln : Int) (kT : Int → Int) (kD : Int → Int) (kP : Int → Int) (kR : Int → Int) (kC : Int → Int) (kW : Int → Int) (kA : Int → Int) (kH : Int → Int) (kU : Int → Int) (kB : Int → Int) (kI : Int → Int) (kN : Int → Int) (kM : Int → Int) (kY : Int → Int) (kK : Int → Int) (kL : Int → Int) (kE : Int → Int) (kS : Int → Int) : va_W := [(mh, .inr (10, [.int (iI m_ra), .ref xT, .ref xD, .int (iI m_ca), .ref xP, .int (iI m_tp), .int (iI m_fa), .int (iI m_at), .int (iI m_wr), .int (iI m_va), .int (iI m_pl), .int (iI m_st), .ref xR, .ref xC, .ref xW, .ref xA, .ref xH, .ref xU, .long (iL m_lo), .ref xB, .long (iL m_bl), .long (iL m_bc), .int (iI m_fo), .ref xI, .ref xN, .ref xM, .ref xY, .long (iL m_yl), .long (iL m_yw), .ref xK, .ref xL, .ref xE, .long (iL m_nu), .long (iL m_nl), .ref xS, .long (iL m_lu), .long (iL m_ll), .long (iL m_ln)])), (xT, irow 47 (z.2.1 1) kT), (xD, irow 47 (z.2.1 1) kD), (xP, irow 300 (z.2.1 1) kP), (xR, irow 4 (z.2.1 1) kR), (xC, lrow 16 (z.2.1 2) kC), (xW, lrow 40 (z.2.1 2) kW), (xA, lrow 10 (z.2.1 2) kA), (xH, irow 4 (z.2.1 1) kH), (xU, lrow 4 (z.2.1 2) kU), (xB, lrow 10 (z.2.1 2) kB), (xI, lrow 10 (z.2.1 2) kI), (xN, lrow 40 (z.2.1 2) kN), (xM, lrow 10 (z.2.1 2) kM), (xY, lrow 4 (z.2.1 2) kY), (xK, irow 4 (z.2.1 1) kK), (xL, irow 5 (z.2.1 1) kL), (xE, irow 5 (z.2.1 1) kE), (xS, lrow 5 (z.2.1 2) kS)]
