theorem zz_vI {a b : Int} (h : a = b) : some (Value.int (iI a)) = some (Value.int (iI b)) := by rw [h]
theorem zz_vL {a b : Int} (h : a = b) : some (Value.long (iL a)) = some (Value.long (iL b)) := by rw [h]
theorem zzMet.mono {l : Launch} {y : MethodName} {cc : ByteArray} {nL : Nat} {ret : Option FieldType} {rm : Room} {z : zC} {as : List Value} {ws : va_W} {post post' : Option Value → va_W → Prop} (h : zzMet l y cc nL ret rm z as ws post) (hp : ∀ v w, post v w → post' v w) : zzMet l y cc nL ret rm z as ws post' := by
  intro sz p e ha hc hk s m args below hf happ hP hK
  obtain ⟨n, o, h1, h2, h3, ⟨⟨v, w, q1, q2, q3⟩, q4⟩, L⟩ := h sz p e ha hc hk s m args below hf happ hP hK
  exact ⟨n, o, h1, h2, h3, ⟨⟨v, w, q1, hp v w q2, q3⟩, q4⟩, L⟩
abbrev wPlan (z : zC) (ph : Nat) (pa : Nat) (pr : Nat) (pt : Nat) (pd : Int) (pb : Int) (fP : Int → Int) (fR : Int → Int) (fT : Int → Int) : va_W := [(ph, .inr (6, [.int (iI pd), .int (iI pb), .ref pa, .ref pr, .ref pt])), (pa, irow 5 (z.2.1 1) fP), (pr, irow 5 (z.2.1 1) fR), (pt, irow 35 (z.2.1 1) fT)]
abbrev wRun (z : zC) (rh : Nat) (ru : Nat) (rl : Nat) (rf : Int) (rn : Int) (rd : Int) (fU : Int → Int) (fL : Int → Int) : va_W := [(rh, .inr (4, [.int (iI rf), .long (iL rn), .long (iL rd), .ref ru, .ref rl])), (ru, lrow 5 (z.2.1 2) fU), (rl, lrow 5 (z.2.1 2) fL)]
