theorem lwG_good {w : Cond} (h : w ∈ lwG) : (w.onTables && w.keeps) = true ∨ ∃ ty, w = .arrayClass ty := good_of_word (List.mem_filter.mp h).2
def zIn (z : zC) (ws : va_W) (sz : Nat) (U : State) : Prop := U.heap.size = sz ∧ va_P z.1 vwCl ws U.heap ∧ va_K z.1 vwCl (zT z) U ∧ va_D (fun _ => True) ws ∧ zG z (va_A ws sz) U
def zQ (z : zC) (A : Nat → Prop) (post : Option Value → va_W → Prop) : Array Value → State → Outcome → State → Prop := fun _ st oc t => (∃ (v : Option Value) (w : va_W), oc = .returned v ∧ post v w ∧ va_P z.1 vwCl w t.heap ∧ va_K z.1 vwCl (zT z) t ∧ va_D A w) ∧ va_F A st t
/-- a contract: from the world ws with the arguments as, the method returns v, its world is w, and post v w -/
def zzMet (l : Launch) (y : MethodName) (cc : ByteArray) (nL : Nat) (ret : Option FieldType) (rm : Room) (z : zC) (as : List Value) (ws : va_W) (post : Option Value → va_W → Prop) : Prop :=
  ∀ sz : Nat, Met l y (Cond.code y cc nL ret :: lwG) rm (va_Pc as (zIn z ws sz)) (zQ z (va_A ws sz) post) rm.cells rm.slots (va_A ws sz)
theorem zIn_blind (z : zC) (as : List Value) (ws : va_W) (sz : Nat) : FrameBlind (va_Pc as (zIn z ws sz)) := fun a U g mk q => by
  obtain ⟨q0, q1, qP, qK, qD, qG⟩ := q
  exact ⟨q0, q1, qP, va_K.moved (u := U) (U := U.calling g mk a) (Vm.Alike.refl U.vm) qK, qD, qG.calling⟩
theorem zzMet.of {l : Launch} {y : MethodName} {cc : ByteArray} {nL : Nat} {ret : Option FieldType} {rm : Room} {z : zC} {as : List Value} {ws : va_W} {post : Option Value → va_W → Prop} {own : String} {ls0 : List (Nat × Value)} (hy : plainName y.cls = true) (ho : y.cls = own) (hlen : (lg_sl as).length ≤ nL) (hls : lv_args 0 as = ls0)
    (body : ∀ (p : Program) (e : Env) (s : State) (m : MethodId) (below : List Frame) (meth : Method) (c : Code) (A : Nat → Prop), zzFix p s m as.toArray meth c z A nL cc own → meth.sig.returnType = ret → meth.name = y.name → zzW p l e rm s m as.toArray below meth c z A nL (MQ below (zQ z A post) as.toArray s rm.cells rm.slots A) 0 0 ws ls0 [] 0) : zzMet l y cc nL ret rm z as ws post := by
  intro sz
  refine Met.ofW (cc := cc) (maxL := nL) (ret := ret) hy rfl ?_
  intro p e s m args below meth c s₁ B hml hv
  obtain ⟨rfl, hsz, hP, hK, hD0, hG⟩ := hv
  subst hsz
  have hts := atoms_spec (ws := Cond.code y cc nL ret :: lwG) B.pre
  have hown : s.vm.findClass y.cls = some m.cls := findClass_of_methodNamed B.named
  rw [ho] at hown
  have hD := hD0.self (sz := s.heap.size)
  have hl := lv_entry as (n := nL) hlen
  rw [hls] at hl
  rw [lg_entry_eq]
  exact body p e s m below meth c (va_A ws s.heap.size) ⟨⟨B.exec, B.bytes, hml, hown, fun w h => hts w (List.mem_cons_of_mem _ h)⟩, hK, fun q h => Or.inr h, hG, B.notSynchronized⟩ B.returns (name_of_methodNamed B.named B.method).1 s.heap [] _ hP hD va_S.rf hl
section ZC
variable {p : Program} {l : Launch} {e : Env} {R : Room} {s : State} {m : MethodId} {args : Array Value} {below : List Frame} {meth : Method} {c : Code} {z : zC} {A : Nat → Prop} {nL : Nat} {Q : State → Prop} {cells slots : Nat} {cc : ByteArray} {own : String} {ws : va_W} {ls : List (Nat × Value)} {st : List Value} {pc : Nat} {post : Option Value → va_W → Prop}
theorem zz_iret (C : zzFix p s m args meth c z A nL cc own) (hr : meth.sig.returnType = some .int) {v : Int32} (d : decode cc pc = .ok (.ireturn, 1)) (hp : post (some (.int v)) ws) : zzW p l e R s m args below meth c z A nL (MQ below (zQ z A post) args s cells slots A) cells slots ws ls [.int v] pc :=
  fun H locs arr hP hD hS hl => W.iret C.1.1 C.1.2.1 hr (fun t ht hW => ⟨⟨_, ws, rfl, hp, by rw [ht]; exact hP, va_K.moved hW.alike C.2.1, hD⟩, hS.F ht⟩) hS.2.2 d C.2.2.2.2
theorem zz_zret (C : zzFix p s m args meth c z A nL cc own) (hr : meth.sig.returnType = some .boolean) {v : Int32} (hn : narrow .boolean (.int v) = .int v) (d : decode cc pc = .ok (.ireturn, 1)) (hp : post (some (.int v)) ws) : zzW p l e R s m args below meth c z A nL (MQ below (zQ z A post) args s cells slots A) cells slots ws ls [.int v] pc :=
  fun H locs arr hP hD hS hl => W.zret C.1.1 C.1.2.1 hr hn (fun t ht hW => ⟨⟨_, ws, rfl, hp, by rw [ht]; exact hP, va_K.moved hW.alike C.2.1, hD⟩, hS.F ht⟩) hS.2.2 d C.2.2.2.2
theorem zz_lret (C : zzFix p s m args meth c z A nL cc own) (hr : meth.sig.returnType = some .long) {v : Int64} (d : decode cc pc = .ok (.lreturn, 1)) (hp : post (some (.long v)) ws) : zzW p l e R s m args below meth c z A nL (MQ below (zQ z A post) args s cells slots A) cells slots ws ls [.long v] pc :=
  fun H locs arr hP hD hS hl => W.lret C.1.1 C.1.2.1 hr (fun t ht hW => ⟨⟨_, ws, rfl, hp, by rw [ht]; exact hP, va_K.moved hW.alike C.2.1, hD⟩, hS.F ht⟩) hS.2.2 d C.2.2.2.2
theorem zz_vret (C : zzFix p s m args meth c z A nL cc own) (hr : meth.sig.returnType = none) (d : decode cc pc = .ok (.return_, 1)) (hp : post none ws) : zzW p l e R s m args below meth c z A nL (MQ below (zQ z A post) args s cells slots A) cells slots ws ls [] pc :=
  fun H locs arr hP hD hS hl => W.vret C.1.1 C.1.2.1 hr (fun t ht hW => ⟨⟨_, ws, rfl, hp, by rw [ht]; exact hP, va_K.moved hW.alike C.2.1, hD⟩, hS.F ht⟩) hS.2.2 d C.2.2.2.2
/-- behind a call -/
theorem zz_run (C : zzFix p s m args meth c z A nL cc own) {as : List Value} {wc wr : va_W} {rm : Room} {st0 : List Value} {H : Heap} {locs : List Loc} {arr : Array Slot} {mc ms : Nat} (hP : va_P z.1 vwCl ws H) (hD : va_D A ws) (hS : va_S A s.heap H locs) (hl : lv_has arr nL ls)
    (run : va_Run p l e R s m args below meth c H locs cells slots mc ms (F0 m pc arr st0) st (zQ z (va_A wc H.size) post as.toArray) (va_A wc H.size)) (isC isR : List Nat) (hC : isC.map (fun i => ws[i]?) = wc.map some) (hR : isR.map (fun i => ws[i]?) = wr.map some) (hn : va_nd isR = true) (hdis : ∀ i ∈ isR, i ∉ isC)
    (kk : ∀ (v : Option Value) (w : va_W), post v w → zzW p l e R s m args below meth c z A nL Q (cells + mc) (slots + ms) (wr ++ w) ls (v.toList ++ st) (pc + 3)) : W p l e R s m args below meth c H locs cells slots Q (F0 m pc arr st0) := by
  have hF := va_free (wc := wc) hD hS C.2.2.1 isC hC
  intro T hT X
  obtain ⟨v, st₀, t, T', L, h0, X', hL, e1, e2, ⟨⟨v', w', hv, hp, hP1, hK1, hD1⟩, hz, hk⟩, st9⟩ := run T hT X
  cases hv
  rw [h0] at hz hk
  have hP1' : va_P z.1 vwCl w' T'.heap := by rw [e1]; exact hP1
  have hk' : ∀ q, q < H.size → ¬ va_A wc H.size q → T'.heap[q]? = H[q]? := fun q a b => by rw [e1]; exact hk q a b
  obtain ⟨hP2, hD2⟩ := va_join hP hD isC isR hC hR hn hdis hk' hF hP1' hD1
  obtain ⟨t2, a1, b1⟩ := kk v w' hp T'.heap (locs ++ L) arr hP2 hD2
    ⟨Nat.le_trans hS.1 (by rw [e1]; exact hz), fun q h1 h2 => by rw [hk' q (Nat.lt_of_lt_of_le h1 hS.1) (fun z => h2 (hF q z))]; exact hS.2.1 q h1 h2, fun q hq => by
      rcases List.mem_append.mp hq with h | h
      · exact hS.2.2 q h
      · exact hF _ (hL q h)⟩ hl T' rfl X'
  exact ⟨t2, st9 t2 a1, b1⟩
theorem zz_pre (C : zzFix p s m args meth c z A nL cc own) {as : List Value} {wc : va_W} {H : Heap} {locs : List Loc} (hP : va_P z.1 vwCl ws H) (hD : va_D A ws) (hS : va_S A s.heap H locs) (isC : List Nat) (hC : isC.map (fun i => ws[i]?) = wc.map some) (hnC : va_nd isC = true) : (va_P z.1 vwCl wc H) ∧ ∀ U : State, U.heap = H → s.WarmedH U.vm → va_Pc as (zIn z wc H.size) as.toArray U := by
  have hF := va_free (wc := wc) hD hS C.2.2.1 isC hC
  have hPc : va_P z.1 vwCl wc H := fun k q hk => by obtain ⟨i, -, h2⟩ := va_in_of isC hC hk; exact hP i q h2
  have hDc : va_D A wc := hD.sub isC hnC hC
  exact ⟨hPc, fun U hU hW => ⟨rfl, by rw [hU], by rw [hU]; exact hPc, va_K.moved hW.alike C.2.1, hDc.weaken (fun _ _ _ _ => trivial), C.2.2.2.1.go (locs := locs) (by rw [hU]; exact hS) hW hF⟩⟩
theorem zz_callV (C : zzFix p s m args meth c z A nL cc own) {y : MethodName} {cc' : ByteArray} {nL' : Nat} {ret' : Option FieldType} {rm : Room} {wc wr : va_W} {b n index : Nat} {Cn : String} {As st0 : List Value} (hM : zzMet l y cc' nL' ret' rm z (.ref b :: As) wc post) (hy : zYV Cn y cc' nL' ret' n) (hq : Cond.methodLink own index y ∈ lwG) (hR : rm.frames + 1 ≤ R.frames ∧ 8 + (nL' + 11) + rm.locals ≤ R.locals)
    (isC isR : List Nat) (hC : isC.map (fun i => ws[i]?) = wc.map some) (hRr : isR.map (fun i => ws[i]?) = wr.map some) (hnC : va_nd isC = true) (hn : va_nd isR = true) (hdis : ∀ i ∈ isR, i ∉ isC) (q0 ci : Nat) {fs : List Value} {T : u_T} {N : Nat} (hc : vwCl[ci]? = some (Cn, T, N)) (he : wc[q0]? = some (b, .inr (ci, fs))) (hlen : As.length = n) (hst : st0 = As.reverse ++ .ref b :: st) (hW : (st.map fun v => v.category).sum ≤ 8) (d : decode cc pc = .ok (.invokevirtual index, 3)) (hf : cells + rm.cells ≤ R.cells ∧ slots + rm.slots ≤ R.slots)
    (kk : ∀ (v : Option Value) (w : va_W), post v w → zzW p l e R s m args below meth c z A nL Q (cells + rm.cells) (slots + rm.slots) (wr ++ w) ls (v.toList ++ st) (pc + 3)) : zzW p l e R s m args below meth c z A nL Q cells slots ws ls st0 pc := by
  intro H locs arr hP hD hS hl
  obtain ⟨hPc, hpre⟩ := zz_pre C (as := .ref b :: As) hP hD hS isC hC hnC
  have hG : GoodIn lwG (wsV own index Cn y (Cond.code y cc' nL' ret' :: lwG)) := fun w hw => by
    have : w ∈ lwG := by
      simp only [wsV, List.mem_append, List.mem_cons, List.not_mem_nil, or_false] at hw
      rcases hw with (rfl | rfl | rfl | rfl) | (rfl | h)
      · exact hq
      · exact hy.1
      · exact hy.2.1
      · exact hy.2.2.1
      · exact hy.2.2.2.1
      · exact h
    exact ⟨this, lwG_good this⟩
  exact zz_run C (as := .ref b :: As) (rm := rm) hP hD hS hl (va_runV C.1 (hM H.size) (cwV n C.1.2.2.2.2 hG rfl rfl rfl hy.2.2.2.2 hR) ⟨zIn_blind z _ wc H.size, va_recv C.2.1 hPc hc he, hpre⟩ rfl hlen hl.1 hst (lv_room hW) d hf) isC isR hC hRr hn hdis kk
theorem zz_callS (C : zzFix p s m args meth c z A nL cc own) {y : MethodName} {cc' : ByteArray} {nL' : Nat} {ret' : Option FieldType} {rm : Room} {wc wr : va_W} {n index : Nat} {As st0 : List Value} (hM : zzMet l y cc' nL' ret' rm z As wc post) (hy : zYS y cc' nL' ret' n) (hq : Cond.methodLink own index y ∈ lwG) (hR : rm.frames + 1 ≤ R.frames ∧ 8 + (nL' + 11) + rm.locals ≤ R.locals)
    (isC isR : List Nat) (hC : isC.map (fun i => ws[i]?) = wc.map some) (hRr : isR.map (fun i => ws[i]?) = wr.map some) (hnC : va_nd isC = true) (hn : va_nd isR = true) (hdis : ∀ i ∈ isR, i ∉ isC) (hlen : As.length = n) (hst : st0 = As.reverse ++ st) (hW : (st.map fun v => v.category).sum ≤ 8) (d : decode cc pc = .ok (.invokestatic index, 3)) (hf : cells + rm.cells ≤ R.cells ∧ slots + rm.slots ≤ R.slots)
    (kk : ∀ (v : Option Value) (w : va_W), post v w → zzW p l e R s m args below meth c z A nL Q (cells + rm.cells) (slots + rm.slots) (wr ++ w) ls (v.toList ++ st) (pc + 3)) : zzW p l e R s m args below meth c z A nL Q cells slots ws ls st0 pc := by
  intro H locs arr hP hD hS hl
  obtain ⟨hPc, hpre⟩ := zz_pre C (as := As) hP hD hS isC hC hnC
  have hG : GoodIn lwG (Cond.code y cc' nL' ret' :: lwG) := fun w hw => by
    have : w ∈ lwG := by
      rcases List.mem_cons.mp hw with rfl | h
      · exact hy.2.2.1
      · exact h
    exact ⟨this, lwG_good this⟩
  have hts := C.1.2.2.2.2
  exact zz_run C (as := As) (rm := rm) hP hD hS hl (va_runS C.1 (hM H.size) ⟨callB_of n hts hG rfl rfl rfl (hts _ hy.2.1) (hts _ hq) hy.2.2.2 hR, hts _ hy.1⟩ ⟨zIn_blind z _ wc H.size, hpre⟩ rfl hlen hl.1 hst (lv_room hW) d hf) isC isR hC hRr hn hdis kk
theorem zz_callI (C : zzFix p s m args meth c z A nL cc own) {y : MethodName} {cc' : ByteArray} {nL' : Nat} {rm : Room} {wc wr : va_W} {b n index : Nat} {host : String} {As st0 : List Value} (hM : zzMet l y cc' nL' none rm z (.ref b :: As) wc post) (hy : zYI y cc' nL' n) (hq : Cond.methodLink own index y ∈ lwG ∨ Cond.methodLinkNest own index y host ∈ zNests) (hR : rm.frames + 1 ≤ R.frames ∧ 8 + (nL' + 11) + rm.locals ≤ R.locals)
    (isC isR : List Nat) (hC : isC.map (fun i => ws[i]?) = wc.map some) (hRr : isR.map (fun i => ws[i]?) = wr.map some) (hnC : va_nd isC = true) (hn : va_nd isR = true) (hdis : ∀ i ∈ isR, i ∉ isC) (hlen : As.length = n) (hst : st0 = As.reverse ++ .ref b :: st) (hW : (st.map fun v => v.category).sum ≤ 8) (d : decode cc pc = .ok (.invokespecial index, 3)) (hf : cells + rm.cells ≤ R.cells ∧ slots + rm.slots ≤ R.slots)
    (kk : ∀ (v : Option Value) (w : va_W), post v w → zzW p l e R s m args below meth c z A nL Q (cells + rm.cells) (slots + rm.slots) (wr ++ w) ls (v.toList ++ st) (pc + 3)) : zzW p l e R s m args below meth c z A nL Q cells slots ws ls st0 pc := by
  intro H locs arr hP hD hS hl
  obtain ⟨hPc, hpre⟩ := zz_pre C (as := .ref b :: As) hP hD hS isC hC hnC
  have hG : GoodIn lwG (Cond.code y cc' nL' none :: lwG) := fun w hw => by
    have : w ∈ lwG := by
      rcases List.mem_cons.mp hw with rfl | h
      · exact hy.2.2.1
      · exact h
    exact ⟨this, lwG_good this⟩
  have hts := C.1.2.2.2.2
  rcases hq with hq | hq
  · exact zz_run C (as := .ref b :: As) (rm := rm) hP hD hS hl (va_runI C.1 (hM H.size) (cwI n hts hG rfl rfl rfl (hts _ hy.2.1) (hts _ hq) (hts _ hy.1) hy.2.2.2.1 hy.2.2.2.2 hR) ⟨zIn_blind z _ wc H.size, hpre⟩ rfl hlen hl.1 hst (lv_room hW) d hf) isC isR hC hRr hn hdis kk
  · exact zz_run C (as := .ref b :: As) (rm := rm) hP hD hS hl (va_runIN C.1 (hM H.size) ⟨va_cnB n hts hG rfl rfl rfl (C.2.2.2.1.2.2.2.2.1 _ hq) (hts _ hy.2.1) hy.2.2.2.2 hR, hy.2.2.2.1, hts _ hy.1⟩ ⟨zIn_blind z _ wc H.size, hpre⟩ rfl hlen hl.1 hst (lv_room hW) d hf) isC isR hC hRr hn hdis kk
end ZC
