/-! ===== BEGIN a static call of a method with an exception table ===== -/
section VXS
variable {p : Program} {l : Launch} {e : Env} {R : Room} {s : State} {m : MethodId} {args : Array Value} {below : List Frame} {meth : Method} {c : Code} {T : State} {H : Heap} {locs : List Loc} {cells slots : Nat}
abbrev vx_CSW (R : Room) (s : State) (args : Array Value) (own : String) (index : Nat) (y : MethodName) (bytes : ByteArray) (maxL : Nat) (ret : Option FieldType) (hh : List (Nat × Nat × Nat × Nat)) (ws : List Cond) (rm : Room) (mc ms n : Nat) : Prop :=
  (rm.cells = mc ∧ rm.slots = ms ∧ rm.frames + 1 ≤ R.frames ∧ 8 + (maxL + 11) + rm.locals ≤ R.locals ∧ (∀ w ∈ ws, ∀ (a' : Array Value) (U : State), s.WarmedH U.vm → w.before a' U = true) ∧ Cond.codeWith y bytes maxL ret hh ∈ ws) ∧
  (Cond.codeWith y bytes maxL ret hh).before args s = true ∧ (Cond.initialized y.cls).before args s = true ∧ (y.cls ≠ "java/lang/invoke/MethodHandle" ∧ y.cls ≠ "java/lang/invoke/VarHandle") ∧
  (∀ sig, parseMethodDescriptor y.desc = some sig → n = sig.parameters.length) ∧ (Cond.methodLink own index y).before args s = true ∧ (Cond.static y).before args s = true
theorem vx_cwSW {own : String} {index maxL mc ms : Nat} {y : MethodName} {bytes : ByteArray} {ret : Option FieldType} {hh : List (Nat × Nat × Nat × Nat)} {Ts ws ws' : List Cond} {rm : Room} (n : Nat) (ht : ∀ w ∈ Ts, w.before args s = true) (hT : GoodIn Ts (va_wsS own index y ws)) (hw : ws = Cond.codeWith y bytes maxL ret hh :: ws') (hrc : rm.cells = mc) (hrs : rm.slots = ms)
    (hd : y.cls ≠ "java/lang/invoke/MethodHandle" ∧ y.cls ≠ "java/lang/invoke/VarHandle" ∧ (parseMethodDescriptor y.desc).map (fun d => d.parameters.length) = some n) (hR : rm.frames + 1 ≤ R.frames ∧ 8 + (maxL + 11) + rm.locals ≤ R.locals) :
    vx_CSW R s args own index y bytes maxL ret hh ws rm mc ms n := by
  have ok : ∀ w ∈ va_wsS own index y ws, w.before args s = true := fun w h => ht w (hT w h).1
  have hG : GoodIn Ts ws := fun w h => hT w (by unfold va_wsS; exact List.mem_append_right _ h)
  have hc : Cond.codeWith y bytes maxL ret hh ∈ ws := by rw [hw]; exact List.mem_cons_self
  refine ⟨⟨hrc, hrs, hR.1, hR.2, pay_in ht hG, hc⟩, ht _ (hG _ hc).1, ok _ (by simp [va_wsS]), ⟨hd.1, hd.2.1⟩, fun sig h => ?_, ok _ (by simp [va_wsS]), ok _ (by simp [va_wsS])⟩
  have h2 := hd.2.2
  rw [h] at h2
  exact (Option.some.inj h2).symm
theorem vx_callSW (X : Stand p l e R s m args below meth c T locs cells slots) (hexec : p.tables.exec = Jvm.exec) {own : String} {index : Nat} {y : MethodName} {bytes : ByteArray} {maxL : Nat} {ret : Option FieldType} {hh : List (Nat × Nat × Nat × Nat)}
    (hown : s.vm.findClass own = some m.cls) (hlink : (Cond.methodLink own index y).before args s = true) (hstat : (Cond.static y).before args s = true) (hinit : (Cond.initialized y.cls).before args s = true)
    (hcode : (Cond.codeWith y bytes maxL ret hh).before args s = true) (hy : y.cls ≠ "java/lang/invoke/MethodHandle" ∧ y.cls ≠ "java/lang/invoke/VarHandle")
    {W9 : Nat} {Pre : Pt → Array Value → Prop} {Post : Pt → Array Value → Option Value → Pt → Prop} (hK : Back l R p e below s args y 3 W9 Pre Post)
    {g : JFrame} (hg : g.method = m) (hsize : g.locals.size = c.maxLocals) {argsL rest : List Value} (hlen : ∀ sig, parseMethodDescriptor y.desc = some sig → argsL.length = sig.parameters.length)
    (hstack : g.stack = argsL.reverse ++ rest) (hW : 2 * g.monitorRoom + (rest.map fun v => v.category).sum ≤ W9) (hdg : decode c.code g.pc = .ok (.invokestatic index, 3))
    (hpre : ∀ vm₁, s.WarmedH vm₁ → Pre ⟨T.setVm vm₁, locs, cells, slots⟩ argsL.toArray) :
    ∃ (v : Option Value) (vm₁ : Vm) (B : Pt), s.WarmedH vm₁ ∧ Stand p l e R s m args below meth c B.U B.locs B.cells B.slots ∧ Post ⟨T.setVm vm₁, locs, cells, slots⟩ argsL.toArray v B ∧
      ∀ target, Steps p.tables e below (B.U.setTop { g with pc := g.pc + 3, stack := v.toList ++ rest }) target → Steps p.tables e below (T.setTop g) target := by
  obtain ⟨mk, methM, cM, hnamed, hmethM, -, -, -, -, -, -, hsigM⟩ := Cond.codeWith_spec hcode
  have hstatic : methM.isStatic = true := Cond.static_spec hnamed hmethM hstat
  obtain ⟨kP, hkP, -⟩ := className_of_methodNamed hnamed
  have hinitP : kP.init = .initialized := Cond.initialized_spec (findClass_of_methodNamed hnamed) hkP hinit
  obtain ⟨vm₁, X₁, hstep₁⟩ := X.invokestatic hexec hown hlink hnamed hmethM hstatic hkP hinitP hy (g := g) hg (argsL := argsL) (rest := rest) (hlen _ hsigM) hstack hdg
  obtain ⟨v, B, X', hpost, hsteps⟩ := hK m meth c ⟨T.setVm vm₁, locs, cells, slots⟩ { g with stack := rest } (.invokestatic index) mk argsL.toArray X₁ hg hsize hdg hW (X₁.named hnamed) (hpre vm₁ X₁.warmed)
  exact ⟨v, vm₁, B, X₁.warmed, X', hpost, fun target h => hstep₁ _ fun acts => by rw [doInvoke_state]; exact hsteps.trans h⟩
theorem vx_runSW {y : MethodName} {bytes cc : ByteArray} {maxL nL mc ms n index : Nat} {ret : Option FieldType} {hh : List (Nat × Nat × Nat × Nat)} {ws : List Cond} {rm : Room} {Pc : Array Value → State → Prop} {Qc : Array Value → State → Outcome → State → Prop} {free : Addr → Prop} {Ts : List Cond} {own : String} {As rest : List Value} {g : JFrame}
    (S : CallFix p m c cc nL s args Ts own) (hM : Met l y ws rm Pc Qc mc ms free) (cw : vx_CSW R s args own index y bytes maxL ret hh ws rm mc ms n) (hp : PreS s H Pc As)
    (hg : g.method = m) (hn : As.length = n) (hsize : g.locals.size = nL) (hstack : g.stack = As.reverse ++ rest) (hW : 2 * g.monitorRoom + (rest.map fun v => v.category).sum ≤ 8) (hdg : decode cc g.pc = .ok (.invokestatic index, 3)) (hf : cells + mc ≤ R.cells ∧ slots + ms ≤ R.slots) :
    va_Run p l e R s m args below meth c H locs cells slots mc ms g rest (Qc As.toArray) (free) := by
  obtain ⟨⟨hrc, hrs, hfr, hlo, hws, hcw⟩, hcode, hini, hy, hlen, hl, hstt⟩ := cw
  have hK : Back l R p e below s args y 3 8 (PreOf R mc ms Pc) (PostOf Qc mc ms free) := va_backW (hh := hh) (bytes := bytes) (maxL := maxL) (ret := ret) hM hp.1 hrc hrs hfr hlo hws hcw (fun a' U hW => word_at hW (Or.inl (by first | rfl | simp [Cond.onTables, Cond.keeps, Cond.steady])) hini)
  obtain ⟨hx, hb, hml, ho, -⟩ := S
  intro T hT X
  obtain ⟨v, vm₁, ⟨U', l2, c2, s2⟩, hW₁, X', ⟨g', mk, t, L, e1, e2, hq, h1, hL, h2, h3⟩, st⟩ := vx_callSW X hx (hh := hh) (bytes := bytes) (maxL := maxL) (ret := ret) ho hl hstt hini hcode hy hK hg (hsize.trans hml.symm) (argsL := As) (rest := rest) (fun sig h => hn.trans (hlen sig h)) hstack hW (by rw [hb]; exact hdg)
    (fun vm₁ hW₁ => ⟨hf.1, hf.2, hp.2 (T.setVm vm₁) hT hW₁⟩)
  dsimp only [Pt.U, Pt.locs, Pt.cells, Pt.slots] at X' e1 e2 h1 h2 h3 st
  subst h1; subst h2; subst h3
  exact ⟨v, (T.setVm vm₁).calling g' mk As.toArray, t, U', L, hT, X', hL, e1, e2, hq, st⟩
/-- not caught here, past rows that name other classes: it goes on to the caller -/
theorem vx_outP {p : Program} {l : Launch} {e : Env} {R : Room} {s : State} {m : MethodId} {args : Array Value} {below : List Frame} {meth : Method} {c : Code} {H : Heap} {locs : List Loc} {cells slots : Nat} {free : Addr → Prop} {ls : Array Slot} {rest : List Value} {Qc : Array Value → State → Outcome → State → Prop} {XC : String → State → State → Prop}
    {pc : Nat} {own E : String} {ce : Cell} {q : Addr} {mc ms : Nat} (hown : s.vm.findClass own = some m.cls) (hlocks : meth.locks = false)
    (hpass : ∀ z ∈ c.exceptionTable.toList, covers z pc = false ∨ (z.catchType ≠ 0 ∧ ∃ nm : String, (Cond.classLink own z.catchType nm).before args s = true ∧ va_Nc E nm s)) (hcell : H[q]? = some ce) (hv : ce.vm = .none) (hcl : s.vm.findClass E = some ce.cls)
    (hx : ∀ t : State, t.heap = H → s.vm.Alike t.vm → XC E s t) (hf : ∀ z ∈ locs, free z.base) (hc : cells ≤ mc) (hs : slots ≤ ms) :
    vx_W p l e R s m args below meth c H locs cells slots (vx_MQ below Qc XC args s mc ms free) (F0 m pc ls rest) q := by
  intro T hT X
  have hpl : e.platform.magicAccessors = ({} : Platform).magicAccessors := by rw [X.admits.platform]
  obtain ⟨vm', hW', X', st⟩ := X.outThrough hlocks q (g := F0 m pc ls rest) rfl rfl rfl (cell := ce) (by rw [hT]; exact hcell) (by rw [hv]; rfl)
    (by obtain ⟨k9, h9, -⟩ := Vm.findClass_spec hcl; exact ⟨k9, h9⟩) (fun z hz => by
      rcases hpass z hz with h | ⟨hz0, nm, hl1, hn1⟩
      · exact Or.inl h
      · obtain ⟨c6, hc6, hcl6⟩ := Cond.classLink_spec hown hl1 e.platform hpl
        obtain ⟨a8, b8, h1, h2, h3⟩ := hn1
        cases Option.some.inj (h1.symm.trans hcl)
        cases Option.some.inj (h2.symm.trans hc6)
        exact Or.inr ⟨hz0, _, hcl6, h3⟩)
  obtain ⟨g₀, hfr⟩ := X'.frames_eq
  have hcell9 : ((T.setVm vm').setFrames (.throwing q :: below)).heap[q]? = some ce := by
    show T.heap[q]? = some ce
    rw [hT]; exact hcell
  have hend : Ended ((T.setVm vm').setFrames (.throwing q :: below)) below (.threw q) := State.frames_setFrames _ (State.cur_lt_of_frames hfr)
  refine ⟨(T.setVm vm').setFrames (.throwing q :: below), ?_, .threw q, X'.here.running, hend, Or.inr ⟨q, rfl, E, ce, locs, hx _ hT (X'.ends _).1.alike, hcell9, hv, hcl, (X'.ends _).1, (X'.ends _).2.mono hc hs, hf⟩⟩
  rw [X.pushThrowing_eq]
  exact st
/-- a thing of a world lies in the heap -/
theorem vx_lt {D : va_G} {cl : List vw_C} {ws : va_W} {H1 : Heap} (h : va_P D cl ws H1) {k : Nat} {q : Nat × va_E} (hk : ws[k]? = some q) : q.1 < H1.size := (h k q hk).lt
end VXS
/-! ===== END ===== -/
/-! ===== BEGIN methods with a table of their own: called by a name, returning or throwing ===== -/
section VXH
/-! vx_backW, vx_callVX, vx_callSX, vx_callVW, vx_runVW, vx_runVX, vx_runSX, vx_ofWH follow the same proofs as their sisters above (Free/Laws.lean, Shelf42/LK1.lean); vx_outP calls Shelf42/NT130.lean (outThrough). -/
section
variable {l : Launch} {R : Room} {p : Program} {e : Env} {below : List Frame} {s : State} {sargs : Array Value} {y : MethodName} {len W9 : Nat}
theorem vx_backW {ws : List Cond} {rm : Room} {Pc : Array Value → State → Prop} {Qc : Array Value → State → Outcome → State → Prop} {XC : String → State → State → Prop} {mc ms : Nat} {free : Addr → Prop} {bytes : ByteArray} {maxL : Nat} {ret : Option FieldType} {hh : List (Nat × Nat × Nat × Nat)}
    (hM : vx_Met l y ws rm Pc Qc XC mc ms free) (hblind : FrameBlind Pc) (hrc : rm.cells = mc) (hrs : rm.slots = ms)
    (hframes : rm.frames + 1 ≤ R.frames) (hlocals : W9 + (maxL + 11) + rm.locals ≤ R.locals)
    (hws : ∀ w ∈ ws, ∀ a' U, s.WarmedH U.vm → w.before a' U = true) (hcode : Cond.codeWith y bytes maxL ret hh ∈ ws) (hinit : ∀ a' U, s.WarmedH U.vm → (Cond.initialized y.cls).before a' U = true) :
    vx_Back l R p e below s sargs y len W9 (PreOf R mc ms Pc) (PostOf Qc mc ms free) (vx_Post XC mc ms free) := by
  intro m meth c A g ig mk a X hg hsize hdg hW hn hp
  have h1 : (headSpec ws rm).pre.before a A.U = true := atoms_intro fun w hw => hws w hw _ _ X.warmed
  have h2 : (Cond.codeWith y bytes maxL ret hh).before a A.U = true := hws _ hcode _ _ X.warmed
  have h3 : (Cond.initialized y.cls).before a A.U = true := hinit _ _ X.warmed
  have h4 : A.cells + (headSpec ws rm).room.cells ≤ R.cells := by rw [show (headSpec ws rm).room.cells = mc from hrc]; exact hp.1
  have h5 : A.slots + (headSpec ws rm).room.slots ≤ R.slots := by rw [show (headSpec ws rm).room.slots = ms from hrs]; exact hp.2.1
  have hPc : Pc a (A.U.calling g mk a) := hblind _ _ _ _ hp.2.2
  obtain ⟨U, Ls, c0, s0⟩ := A
  dsimp only [Pt.U, Pt.locs, Pt.cells, Pt.slots] at h1 h2 h3 h4 h5 X hn hPc ⊢
  obtain ⟨m9, methY, cY, hn9, hmY, hcY, -, hlY, -⟩ := Cond.codeWith_spec h2
  cases Option.some.inj (hn9.symm.trans hn)
  obtain ⟨kY, hkY, -⟩ := className_of_methodNamed hn
  have hinitY : kY.init = .initialized := Cond.initialized_spec (findClass_of_methodNamed hn) hkY h3
  have h : At U g.method c below := by rw [hg]; exact X.here
  have hlocals9 : W9 + (maxL + 11) + (headSpec ws rm).room.locals ≤ R.locals := hlocals
  have happ : (headSpec ws rm).appliesLoose y e.platform (U.calling g mk a) = true :=
    Spec.appliesLoose_calling (g := g) h hdg hn hkY hinitY
      (X.room_calling (g := g) (R' := (headSpec ws rm).room) hsize hmY hcY hframes (by rw [hlY]; omega) h4 h5) h1
  obtain ⟨mid, hmid⟩ := h.above
  have hfr : (U.setTop g).frames = (.java g :: mid) ++ below := by rw [State.frames_setTop' g h.top, hmid]; rfl
  obtain ⟨o, s₂, hsteps, -, hend, hq⟩ := Steps.callFree hM p X.admits X.cas X.clock (acts := []) hfr happ hPc trivial
  have hq' : vx_Q Qc XC mc ms free a (U.calling g mk a) o s₂ := hq
  rw [State.frames_setTop' g h.top] at hend
  obtain ⟨g₀, hg0⟩ := Option.isSome_iff_exists.mp h.top
  obtain ⟨r, hr⟩ := State.topJava?_eq_some.mp hg0
  have hr' : (({ U with heap := s₂.heap, slotsUsed := s₂.slotsUsed } : State).setVm s₂.vm).frames = .java g₀ :: r := hr
  rcases hq' with ⟨hqc, L, hfe, hL⟩ | ⟨q, rfl, E, ce, L, hx, hce, hcv, hcl, hW₂, hsm, hL⟩
  · obtain ⟨⟨v, rfl⟩, hW₂, e2, q2, q3, q4, q5, q6⟩ := id hfe
    have e3 : s₂ = ({ (U.calling g mk a).setFrames s₂.frames with heap := s₂.heap, slotsUsed := s₂.slotsUsed } : State).setVm s₂.vm := by
      have : s₂ = ({ s₂ with vm := (U.calling g mk a).vm } : State).setVm s₂.vm := rfl
      rw [e2] at this
      exact this
    obtain ⟨c₂, i₂, len₂, hc₂, hd₂, hf₂⟩ := hend
    have hW' : U.WarmedH s₂.vm := hW₂
    have hcc : c₂ = c := by
      have h1 : s₂.code? g.method = U.code? g.method := by
        rw [State.code?_eq, State.code?_eq, hW'.alike.method?]
      exact Option.some.inj (hc₂.symm.trans (h1.trans h.code))
    subst hcc
    have hlen : len₂ = len := by rw [hdg] at hd₂; cases hd₂; rfl
    subst hlen
    have hs₂ : s₂ = (({ U with heap := s₂.heap, slotsUsed := s₂.slotsUsed } : State).setVm s₂.vm).setTop { g with pc := g.pc + len₂, stack := v.toList ++ g.stack } := by
      refine e3.trans ?_
      rw [hf₂, State.calling_eq h.top, State.setFrames_setFrames, State.setTop_of_frames _ hr', hr]
      rfl
    have hsame : U.sameButNew ({ U with heap := s₂.heap, slotsUsed := s₂.slotsUsed } : State) L mc ms := by
      refine ⟨?_, q2, q3, q4, q5, q6⟩
      obtain ⟨t, ht, -⟩ := State.frames_cons hr
      show ({ U with heap := s₂.heap, slotsUsed := s₂.slotsUsed } : State) = { U.setFrames U.frames with heap := s₂.heap, slotsUsed := s₂.slotsUsed }
      rw [State.setFrames_self ht]
    subst hg
    refine Or.inl ⟨v, ⟨(({ U with heap := s₂.heap, slotsUsed := s₂.slotsUsed } : State).setVm s₂.vm), Ls ++ L, c0 + mc, s0 + ms⟩,
      ⟨X.admits, X.cas, X.clock, X.frames, X.room, X.hears, X.method, X.code, (X.here.setHeapUsed s₂.heap s₂.slotsUsed).setVm hW'.alike, X.tail, State.WarmedH.trans X.warmed hW', X.limits, X.bytes, X.same.trans (hsame.setVm s.vm)⟩,
      ⟨g, mk, s₂, L, rfl, rfl, hqc, rfl, hL, rfl, rfl⟩, ?_⟩
    show Steps p.tables e below _ ((({ U with heap := s₂.heap, slotsUsed := s₂.slotsUsed } : State).setVm s₂.vm).setTop { g with pc := g.pc + len₂, stack := v.toList ++ g.stack })
    rw [← hs₂]
    exact hsteps
  · obtain ⟨e2, q2, q3, q4, q5, q6⟩ := id hsm
    have e3 : s₂ = ({ (U.calling g mk a).setFrames s₂.frames with heap := s₂.heap, slotsUsed := s₂.slotsUsed } : State).setVm s₂.vm := by
      have : s₂ = ({ s₂ with vm := (U.calling g mk a).vm } : State).setVm s₂.vm := rfl
      rw [e2] at this
      exact this
    have hf₂ : s₂.frames = .throwing q :: .java g :: U.frames.tail := hend
    have hW' : U.WarmedH s₂.vm := hW₂
    have hs₂ : s₂ = ((({ U with heap := s₂.heap, slotsUsed := s₂.slotsUsed } : State).setVm s₂.vm).setTop g).pushFrame (.throwing q) := by
      refine e3.trans ?_
      rw [hf₂, State.calling_eq h.top, State.setFrames_setFrames, State.pushFrame, State.frames_setTop _ hr', State.setTop_of_frames _ hr', State.setFrames_setFrames, hr]
      rfl
    have hsame : U.sameButNew ({ U with heap := s₂.heap, slotsUsed := s₂.slotsUsed } : State) L mc ms := by
      refine ⟨?_, q2, q3, q4, q5, q6⟩
      obtain ⟨t, ht, -⟩ := State.frames_cons hr
      show ({ U with heap := s₂.heap, slotsUsed := s₂.slotsUsed } : State) = { U.setFrames U.frames with heap := s₂.heap, slotsUsed := s₂.slotsUsed }
      rw [State.setFrames_self ht]
    subst hg
    refine Or.inr ⟨q, ⟨(({ U with heap := s₂.heap, slotsUsed := s₂.slotsUsed } : State).setVm s₂.vm), Ls ++ L, c0 + mc, s0 + ms⟩,
      ⟨X.admits, X.cas, X.clock, X.frames, X.room, X.hears, X.method, X.code, (X.here.setHeapUsed s₂.heap s₂.slotsUsed).setVm hW'.alike, X.tail, State.WarmedH.trans X.warmed hW', X.limits, X.bytes, X.same.trans (hsame.setVm s.vm)⟩,
      ⟨g, mk, s₂, L, E, ce, rfl, rfl, hx, hce, hcv, hcl, rfl, hL, rfl, rfl⟩, ?_⟩
    show Steps p.tables e below _ (((({ U with heap := s₂.heap, slotsUsed := s₂.slotsUsed } : State).setVm s₂.vm).setTop g).pushFrame (.throwing q))
    rw [← hs₂]
    exact hsteps
end
variable {p : Program} {l : Launch} {e : Env} {R : Room} {s : State} {m : MethodId} {args : Array Value} {below : List Frame} {meth : Method} {c : Code} {T : State} {H : Heap} {locs : List Loc} {cells slots : Nat}
theorem vx_callVX (X : Stand p l e R s m args below meth c T locs cells slots) (hexec : p.tables.exec = Jvm.exec) {own C : String} {index : Nat} {y : MethodName} {bytes : ByteArray} {maxL : Nat} {ret : Option FieldType} {hh : List (Nat × Nat × Nat × Nat)}
    (hown : s.vm.findClass own = some m.cls) (hlink : (Cond.methodLink own index y).before args s = true) (hinst : (Cond.instanceMethod y).before args s = true) (hsel : (Cond.selects C y y).before args s = true)
    (hcode : (Cond.codeWith y bytes maxL ret hh).before args s = true) (hy : y.cls ≠ "java/lang/invoke/MethodHandle" ∧ y.cls ≠ "java/lang/invoke/VarHandle")
    {W9 : Nat} {Pre : Pt → Array Value → Prop} {Post : Pt → Array Value → Option Value → Pt → Prop} {PostX : Pt → Array Value → Addr → Pt → Prop} (hK : vx_Back l R p e below s args y 3 W9 Pre Post PostX)
    {b : Addr} {cellB : Cell} (hcell : T.heap[b]? = some cellB) (hobj : cellB.vm.isStatics = false) (hcls : s.vm.findClass C = some cellB.cls)
    {g : JFrame} (hg : g.method = m) (hsize : g.locals.size = c.maxLocals) {argsL rest : List Value} (hlen : ∀ sig, parseMethodDescriptor y.desc = some sig → argsL.length = sig.parameters.length)
    (hstack : g.stack = argsL.reverse ++ .ref b :: rest) (hW : 2 * g.monitorRoom + (rest.map fun v => v.category).sum ≤ W9) (hdg : decode c.code g.pc = .ok (.invokevirtual index, 3))
    (hpre : ∀ vm₁, s.WarmedH vm₁ → Pre ⟨T.setVm vm₁, locs, cells, slots⟩ (Value.ref b :: argsL).toArray) :
    (∃ (v : Option Value) (vm₁ : Vm) (B : Pt), s.WarmedH vm₁ ∧ Stand p l e R s m args below meth c B.U B.locs B.cells B.slots ∧ Post ⟨T.setVm vm₁, locs, cells, slots⟩ (Value.ref b :: argsL).toArray v B ∧
      ∀ target, Steps p.tables e below (B.U.setTop { g with pc := g.pc + 3, stack := v.toList ++ rest }) target → Steps p.tables e below (T.setTop g) target) ∨
    (∃ (q : Addr) (vm₁ : Vm) (B : Pt), s.WarmedH vm₁ ∧ Stand p l e R s m args below meth c B.U B.locs B.cells B.slots ∧ PostX ⟨T.setVm vm₁, locs, cells, slots⟩ (Value.ref b :: argsL).toArray q B ∧
      Steps p.tables e below (T.setTop g) ((B.U.setTop { g with stack := rest }).pushFrame (.throwing q))) := by
  obtain ⟨mk, methM, hnamed, hmethM, hstM, habM⟩ := Cond.instanceMethod_spec hinst
  obtain ⟨m8, methM', cM, hn8, hmethM', -, -, -, -, -, -, hsigM⟩ := Cond.codeWith_spec hcode
  cases Option.some.inj (hn8.symm.trans hnamed)
  cases hmethM.symm.trans hmethM'
  obtain ⟨c2, r2, m2, q1, q2, q3, q4, kP, hkP, hkPi⟩ := Cond.selects_spec hsel
  cases hcls.symm.trans q1
  cases (State.methodFound?_of_named hnamed hy).symm.trans q2
  cases hnamed.symm.trans q3
  have hselP : selectMethod e.platform s.vm cellB.cls mk = .method mk := by rw [Launch.admits_selectMethod X.admits]; exact q4
  obtain ⟨vm₁, X₁, hstep₁⟩ := X.invokevirtual hexec hown hlink hnamed hmethM hstM hkP hkPi hy (a := b) (cell := cellB) hcell
    (fun z h => by rw [h] at hobj; cases hobj) hselP hmethM habM hkP hkPi (g := g) hg (argsL := argsL) (rest := rest) (hlen _ hsigM) hstack hdg
  rcases hK m meth c ⟨T.setVm vm₁, locs, cells, slots⟩ { g with stack := rest } (.invokevirtual index) mk (Value.ref b :: argsL).toArray X₁ hg hsize hdg hW (X₁.named hnamed) (hpre vm₁ X₁.warmed) with ⟨v, B, X', hpost, hsteps⟩ | ⟨q, B, X', hpost, hsteps⟩
  · exact Or.inl ⟨v, vm₁, B, X₁.warmed, X', hpost, fun target h => hstep₁ _ fun acts => by rw [doInvoke_state]; exact hsteps.trans h⟩
  · exact Or.inr ⟨q, vm₁, B, X₁.warmed, X', hpost, hstep₁ _ fun acts => by rw [doInvoke_state]; exact hsteps⟩
theorem vx_callSX (X : Stand p l e R s m args below meth c T locs cells slots) (hexec : p.tables.exec = Jvm.exec) {own : String} {index : Nat} {y : MethodName} {bytes : ByteArray} {maxL : Nat} {ret : Option FieldType} {hh : List (Nat × Nat × Nat × Nat)}
    (hown : s.vm.findClass own = some m.cls) (hlink : (Cond.methodLink own index y).before args s = true) (hstat : (Cond.static y).before args s = true) (hinit : (Cond.initialized y.cls).before args s = true)
    (hcode : (Cond.codeWith y bytes maxL ret hh).before args s = true) (hy : y.cls ≠ "java/lang/invoke/MethodHandle" ∧ y.cls ≠ "java/lang/invoke/VarHandle")
    {W9 : Nat} {Pre : Pt → Array Value → Prop} {Post : Pt → Array Value → Option Value → Pt → Prop} {PostX : Pt → Array Value → Addr → Pt → Prop} (hK : vx_Back l R p e below s args y 3 W9 Pre Post PostX)
    {g : JFrame} (hg : g.method = m) (hsize : g.locals.size = c.maxLocals) {argsL rest : List Value} (hlen : ∀ sig, parseMethodDescriptor y.desc = some sig → argsL.length = sig.parameters.length)
    (hstack : g.stack = argsL.reverse ++ rest) (hW : 2 * g.monitorRoom + (rest.map fun v => v.category).sum ≤ W9) (hdg : decode c.code g.pc = .ok (.invokestatic index, 3))
    (hpre : ∀ vm₁, s.WarmedH vm₁ → Pre ⟨T.setVm vm₁, locs, cells, slots⟩ argsL.toArray) :
    (∃ (v : Option Value) (vm₁ : Vm) (B : Pt), s.WarmedH vm₁ ∧ Stand p l e R s m args below meth c B.U B.locs B.cells B.slots ∧ Post ⟨T.setVm vm₁, locs, cells, slots⟩ argsL.toArray v B ∧
      ∀ target, Steps p.tables e below (B.U.setTop { g with pc := g.pc + 3, stack := v.toList ++ rest }) target → Steps p.tables e below (T.setTop g) target) ∨
    (∃ (q : Addr) (vm₁ : Vm) (B : Pt), s.WarmedH vm₁ ∧ Stand p l e R s m args below meth c B.U B.locs B.cells B.slots ∧ PostX ⟨T.setVm vm₁, locs, cells, slots⟩ argsL.toArray q B ∧
      Steps p.tables e below (T.setTop g) ((B.U.setTop { g with stack := rest }).pushFrame (.throwing q))) := by
  obtain ⟨mk, methM, cM, hnamed, hmethM, -, -, -, -, -, -, hsigM⟩ := Cond.codeWith_spec hcode
  have hstatic : methM.isStatic = true := Cond.static_spec hnamed hmethM hstat
  obtain ⟨kP, hkP, -⟩ := className_of_methodNamed hnamed
  have hinitP : kP.init = .initialized := Cond.initialized_spec (findClass_of_methodNamed hnamed) hkP hinit
  obtain ⟨vm₁, X₁, hstep₁⟩ := X.invokestatic hexec hown hlink hnamed hmethM hstatic hkP hinitP hy (g := g) hg (argsL := argsL) (rest := rest) (hlen _ hsigM) hstack hdg
  rcases hK m meth c ⟨T.setVm vm₁, locs, cells, slots⟩ { g with stack := rest } (.invokestatic index) mk argsL.toArray X₁ hg hsize hdg hW (X₁.named hnamed) (hpre vm₁ X₁.warmed) with ⟨v, B, X', hpost, hsteps⟩ | ⟨q, B, X', hpost, hsteps⟩
  · exact Or.inl ⟨v, vm₁, B, X₁.warmed, X', hpost, fun target h => hstep₁ _ fun acts => by rw [doInvoke_state]; exact hsteps.trans h⟩
  · exact Or.inr ⟨q, vm₁, B, X₁.warmed, X', hpost, hstep₁ _ fun acts => by rw [doInvoke_state]; exact hsteps⟩
theorem vx_callVW (X : Stand p l e R s m args below meth c T locs cells slots) (hexec : p.tables.exec = Jvm.exec) {own C : String} {index : Nat} {y : MethodName} {bytes : ByteArray} {maxL : Nat} {ret : Option FieldType} {hh : List (Nat × Nat × Nat × Nat)}
    (hown : s.vm.findClass own = some m.cls) (hlink : (Cond.methodLink own index y).before args s = true) (hinst : (Cond.instanceMethod y).before args s = true) (hsel : (Cond.selects C y y).before args s = true)
    (hcode : (Cond.codeWith y bytes maxL ret hh).before args s = true) (hy : y.cls ≠ "java/lang/invoke/MethodHandle" ∧ y.cls ≠ "java/lang/invoke/VarHandle")
    {W9 : Nat} {Pre : Pt → Array Value → Prop} {Post : Pt → Array Value → Option Value → Pt → Prop} (hK : Back l R p e below s args y 3 W9 Pre Post)
    {b : Addr} {cellB : Cell} (hcell : T.heap[b]? = some cellB) (hobj : cellB.vm.isStatics = false) (hcls : s.vm.findClass C = some cellB.cls)
    {g : JFrame} (hg : g.method = m) (hsize : g.locals.size = c.maxLocals) {argsL rest : List Value} (hlen : ∀ sig, parseMethodDescriptor y.desc = some sig → argsL.length = sig.parameters.length)
    (hstack : g.stack = argsL.reverse ++ .ref b :: rest) (hW : 2 * g.monitorRoom + (rest.map fun v => v.category).sum ≤ W9) (hdg : decode c.code g.pc = .ok (.invokevirtual index, 3))
    (hpre : ∀ vm₁, s.WarmedH vm₁ → Pre ⟨T.setVm vm₁, locs, cells, slots⟩ (Value.ref b :: argsL).toArray) :
    ∃ (v : Option Value) (vm₁ : Vm) (B : Pt), s.WarmedH vm₁ ∧ Stand p l e R s m args below meth c B.U B.locs B.cells B.slots ∧ Post ⟨T.setVm vm₁, locs, cells, slots⟩ (Value.ref b :: argsL).toArray v B ∧
      ∀ target, Steps p.tables e below (B.U.setTop { g with pc := g.pc + 3, stack := v.toList ++ rest }) target → Steps p.tables e below (T.setTop g) target := by
  obtain ⟨mk, methM, hnamed, hmethM, hstM, habM⟩ := Cond.instanceMethod_spec hinst
  obtain ⟨m8, methM', cM, hn8, hmethM', -, -, -, -, -, -, hsigM⟩ := Cond.codeWith_spec hcode
  cases Option.some.inj (hn8.symm.trans hnamed)
  cases hmethM.symm.trans hmethM'
  obtain ⟨c2, r2, m2, q1, q2, q3, q4, kP, hkP, hkPi⟩ := Cond.selects_spec hsel
  cases hcls.symm.trans q1
  cases (State.methodFound?_of_named hnamed hy).symm.trans q2
  cases hnamed.symm.trans q3
  have hselP : selectMethod e.platform s.vm cellB.cls mk = .method mk := by rw [Launch.admits_selectMethod X.admits]; exact q4
  obtain ⟨vm₁, X₁, hstep₁⟩ := X.invokevirtual hexec hown hlink hnamed hmethM hstM hkP hkPi hy (a := b) (cell := cellB) hcell
    (fun z h => by rw [h] at hobj; cases hobj) hselP hmethM habM hkP hkPi (g := g) hg (argsL := argsL) (rest := rest) (hlen _ hsigM) hstack hdg
  obtain ⟨v, B, X', hpost, hsteps⟩ := hK m meth c ⟨T.setVm vm₁, locs, cells, slots⟩ { g with stack := rest } (.invokevirtual index) mk (Value.ref b :: argsL).toArray X₁ hg hsize hdg hW (X₁.named hnamed) (hpre vm₁ X₁.warmed)
  exact ⟨v, vm₁, B, X₁.warmed, X', hpost, fun target h => hstep₁ _ fun acts => by rw [doInvoke_state]; exact hsteps.trans h⟩
abbrev vx_CVW (R : Room) (s : State) (args : Array Value) (own C : String) (index : Nat) (y : MethodName) (bytes : ByteArray) (maxL : Nat) (ret : Option FieldType) (hh : List (Nat × Nat × Nat × Nat)) (ws : List Cond) (rm : Room) (mc ms n : Nat) : Prop :=
  (rm.cells = mc ∧ rm.slots = ms ∧ rm.frames + 1 ≤ R.frames ∧ 8 + (maxL + 11) + rm.locals ≤ R.locals ∧ (∀ w ∈ ws, ∀ (a' : Array Value) (U : State), s.WarmedH U.vm → w.before a' U = true) ∧ Cond.codeWith y bytes maxL ret hh ∈ ws) ∧
  (Cond.codeWith y bytes maxL ret hh).before args s = true ∧ (Cond.initialized y.cls).before args s = true ∧ (y.cls ≠ "java/lang/invoke/MethodHandle" ∧ y.cls ≠ "java/lang/invoke/VarHandle") ∧
  (∀ sig, parseMethodDescriptor y.desc = some sig → n = sig.parameters.length) ∧ (Cond.methodLink own index y).before args s = true ∧ (Cond.instanceMethod y).before args s = true ∧ (Cond.selects C y y).before args s = true
theorem vx_cwVW {own C : String} {index maxL mc ms : Nat} {y : MethodName} {bytes : ByteArray} {ret : Option FieldType} {hh : List (Nat × Nat × Nat × Nat)} {Ts ws ws' : List Cond} {rm : Room} (n : Nat) (ht : ∀ w ∈ Ts, w.before args s = true) (hT : GoodIn Ts (wsV own index C y ws)) (hw : ws = Cond.codeWith y bytes maxL ret hh :: ws') (hrc : rm.cells = mc) (hrs : rm.slots = ms)
    (hd : y.cls = C ∧ y.cls ≠ "java/lang/invoke/MethodHandle" ∧ y.cls ≠ "java/lang/invoke/VarHandle" ∧ (parseMethodDescriptor y.desc).map (fun d => d.parameters.length) = some n) (hR : rm.frames + 1 ≤ R.frames ∧ 8 + (maxL + 11) + rm.locals ≤ R.locals) :
    vx_CVW R s args own C index y bytes maxL ret hh ws rm mc ms n := by
  obtain ⟨hC, hd⟩ := hd
  subst hC
  have ok : ∀ w ∈ wsV own index y.cls y ws, w.before args s = true := fun w h => ht w (hT w h).1
  have hG : GoodIn Ts ws := fun w h => hT w (by unfold wsV; exact List.mem_append_right _ h)
  have hc : Cond.codeWith y bytes maxL ret hh ∈ ws := by rw [hw]; exact List.mem_cons_self
  refine ⟨⟨hrc, hrs, hR.1, hR.2, pay_in ht hG, hc⟩, ht _ (hG _ hc).1, ok _ (by simp [wsV]), ⟨hd.1, hd.2.1⟩, fun sig h => ?_, ok _ (by simp [wsV]), ok _ (by simp [wsV]), ok _ (by simp [wsV])⟩
  have h2 := hd.2.2
  rw [h] at h2
  exact (Option.some.inj h2).symm
theorem vx_runVW {y : MethodName} {bytes cc : ByteArray} {maxL nL mc ms n index : Nat} {ret : Option FieldType} {hh : List (Nat × Nat × Nat × Nat)} {ws : List Cond} {rm : Room} {Pc : Array Value → State → Prop} {Qc : Array Value → State → Outcome → State → Prop} {free : Addr → Prop} {Ts : List Cond} {own C : String} {b : Addr} {As rest : List Value} {g : JFrame}
    (S : CallFix p m c cc nL s args Ts own) (hM : Met l y ws rm Pc Qc mc ms free) (cw : vx_CVW R s args own C index y bytes maxL ret hh ws rm mc ms n) (hp : PreV s H C b Pc As)
    (hg : g.method = m) (hn : As.length = n) (hsize : g.locals.size = nL) (hstack : g.stack = As.reverse ++ .ref b :: rest) (hW : 2 * g.monitorRoom + (rest.map fun v => v.category).sum ≤ 8) (hdg : decode cc g.pc = .ok (.invokevirtual index, 3)) (hf : cells + mc ≤ R.cells ∧ slots + ms ≤ R.slots) :
    va_Run p l e R s m args below meth c H locs cells slots mc ms g rest (Qc (Value.ref b :: As).toArray) free := by
  obtain ⟨⟨hrc, hrs, hfr, hlo, hws, hcw⟩, hcode, hini, hy, hlen, hl, hin, hse⟩ := cw
  have hK : Back l R p e below s args y 3 8 (PreOf R mc ms Pc) (PostOf Qc mc ms free) := va_backW (hh := hh) (bytes := bytes) (maxL := maxL) (ret := ret) hM hp.1 hrc hrs hfr hlo hws hcw (fun a' U hW => word_at hW (Or.inl (by first | rfl | simp [Cond.onTables, Cond.keeps, Cond.steady])) hini)
  obtain ⟨hx, hb, hml, ho, -⟩ := S
  obtain ⟨-, ⟨cellB, hcB, hoB, hclB⟩, hPc⟩ := hp
  intro T hT X
  obtain ⟨v, vm₁, ⟨U', l2, c2, s2⟩, hW₁, X', ⟨g', mk, t, L, e1, e2, hq, h1, hL, h2, h3⟩, st⟩ := vx_callVW X hx (C := C) (hh := hh) (bytes := bytes) (maxL := maxL) (ret := ret) ho hl hin hse hcode hy hK (by rw [hT]; exact hcB) hoB hclB hg (hsize.trans hml.symm) (argsL := As) (rest := rest) (fun sig h => hn.trans (hlen sig h)) hstack hW (by rw [hb]; exact hdg)
    (fun vm₁ hW₁ => ⟨hf.1, hf.2, hPc (T.setVm vm₁) hT hW₁⟩)
  dsimp only [Pt.U, Pt.locs, Pt.cells, Pt.slots] at X' e1 e2 h1 h2 h3 st
  subst h1; subst h2; subst h3
  exact ⟨v, (T.setVm vm₁).calling g' mk (Value.ref b :: As).toArray, t, U', L, hT, X', hL, e1, e2, hq, st⟩
section
variable {y : MethodName} {bytes cc : ByteArray} {maxL nL mc ms n index : Nat} {ret : Option FieldType} {ws : List Cond} {rm : Room} {Pc : Array Value → State → Prop} {Qc : Array Value → State → Outcome → State → Prop} {XC : String → State → State → Prop} {free : Addr → Prop} {Ts : List Cond} {own C : String} {b : Addr} {As rest : List Value} {g : JFrame}
theorem vx_runVX {hh : List (Nat × Nat × Nat × Nat)} (S : CallFix p m c cc nL s args Ts own) (hM : vx_Met l y ws rm Pc Qc XC mc ms free) (cw : vx_CVW R s args own C index y bytes maxL ret hh ws rm mc ms n) (hp : PreV s H C b Pc As)
    (hg : g.method = m) (hn : As.length = n) (hsize : g.locals.size = nL) (hstack : g.stack = As.reverse ++ .ref b :: rest) (hW : 2 * g.monitorRoom + (rest.map fun v => v.category).sum ≤ 8) (hdg : decode cc g.pc = .ok (.invokevirtual index, 3)) (hf : cells + mc ≤ R.cells ∧ slots + ms ≤ R.slots) :
    vx_Run p l e R s m args below meth c H locs cells slots mc ms g rest (Qc (Value.ref b :: As).toArray) XC free := by
  obtain ⟨⟨hrc, hrs, hfr, hlo, hws, hcw⟩, hcode, hini, hy, hlen, hl, hin, hse⟩ := cw
  have hK : vx_Back l R p e below s args y 3 8 (PreOf R mc ms Pc) (PostOf Qc mc ms free) (vx_Post XC mc ms free) := vx_backW (hh := hh) (bytes := bytes) (maxL := maxL) (ret := ret) hM hp.1 hrc hrs hfr hlo hws hcw (fun a' U hW => word_at hW (Or.inl (by first | rfl | simp [Cond.onTables, Cond.keeps, Cond.steady])) hini)
  obtain ⟨hx, hb, hml, ho, -⟩ := S
  obtain ⟨-, ⟨cellB, hcB, hoB, hclB⟩, hPc⟩ := hp
  intro T hT X
  rcases vx_callVX X hx (C := C) (hh := hh) (bytes := bytes) (maxL := maxL) (ret := ret) ho hl hin hse hcode hy hK (by rw [hT]; exact hcB) hoB hclB hg (hsize.trans hml.symm) (argsL := As) (rest := rest) (fun sig h => hn.trans (hlen sig h)) hstack hW (by rw [hb]; exact hdg)
    (fun vm₁ hW₁ => ⟨hf.1, hf.2, hPc (T.setVm vm₁) hT hW₁⟩) with ⟨v, vm₁, ⟨U', l2, c2, s2⟩, hW₁, X', ⟨g', mk, t, L, e1, e2, hq, h1, hL, h2, h3⟩, st⟩ | ⟨q, vm₁, ⟨U', l2, c2, s2⟩, hW₁, X', ⟨g', mk, t, L, E, ce, e1, e2, hq, hce, hcv, hcl, h1, hL, h2, h3⟩, st⟩
  · dsimp only [Pt.U, Pt.locs, Pt.cells, Pt.slots] at X' e1 e2 h1 h2 h3 st
    subst h1; subst h2; subst h3
    exact Or.inl ⟨v, (T.setVm vm₁).calling g' mk (Value.ref b :: As).toArray, t, U', L, hT, X', hL, e1, e2, hq, st⟩
  · dsimp only [Pt.U, Pt.locs, Pt.cells, Pt.slots] at X' e1 e2 h1 h2 h3 st hcl
    subst h1; subst h2; subst h3
    exact Or.inr ⟨q, (T.setVm vm₁).calling g' mk (Value.ref b :: As).toArray, t, U', L, E, ce, hT, X', hL, e1, e2, hq, hce, hcv, vx_cls hW₁ hcl, st⟩
theorem vx_runSX {hh : List (Nat × Nat × Nat × Nat)} (S : CallFix p m c cc nL s args Ts own) (hM : vx_Met l y ws rm Pc Qc XC mc ms free) (cw : vx_CSW R s args own index y bytes maxL ret hh ws rm mc ms n) (hp : PreS s H Pc As)
    (hg : g.method = m) (hn : As.length = n) (hsize : g.locals.size = nL) (hstack : g.stack = As.reverse ++ rest) (hW : 2 * g.monitorRoom + (rest.map fun v => v.category).sum ≤ 8) (hdg : decode cc g.pc = .ok (.invokestatic index, 3)) (hf : cells + mc ≤ R.cells ∧ slots + ms ≤ R.slots) :
    vx_Run p l e R s m args below meth c H locs cells slots mc ms g rest (Qc As.toArray) XC free := by
  obtain ⟨⟨hrc, hrs, hfr, hlo, hws, hcw⟩, hcode, hini, hy, hlen, hl, hstt⟩ := cw
  have hK : vx_Back l R p e below s args y 3 8 (PreOf R mc ms Pc) (PostOf Qc mc ms free) (vx_Post XC mc ms free) := vx_backW (hh := hh) (bytes := bytes) (maxL := maxL) (ret := ret) hM hp.1 hrc hrs hfr hlo hws hcw (fun a' U hW => word_at hW (Or.inl (by first | rfl | simp [Cond.onTables, Cond.keeps, Cond.steady])) hini)
  obtain ⟨hx, hb, hml, ho, -⟩ := S
  intro T hT X
  rcases vx_callSX X hx (hh := hh) (bytes := bytes) (maxL := maxL) (ret := ret) ho hl hstt hini hcode hy hK hg (hsize.trans hml.symm) (argsL := As) (rest := rest) (fun sig h => hn.trans (hlen sig h)) hstack hW (by rw [hb]; exact hdg)
    (fun vm₁ hW₁ => ⟨hf.1, hf.2, hp.2 (T.setVm vm₁) hT hW₁⟩) with ⟨v, vm₁, ⟨U', l2, c2, s2⟩, hW₁, X', ⟨g', mk, t, L, e1, e2, hq, h1, hL, h2, h3⟩, st⟩ | ⟨q, vm₁, ⟨U', l2, c2, s2⟩, hW₁, X', ⟨g', mk, t, L, E, ce, e1, e2, hq, hce, hcv, hcl, h1, hL, h2, h3⟩, st⟩
  · dsimp only [Pt.U, Pt.locs, Pt.cells, Pt.slots] at X' e1 e2 h1 h2 h3 st
    subst h1; subst h2; subst h3
    exact Or.inl ⟨v, (T.setVm vm₁).calling g' mk As.toArray, t, U', L, hT, X', hL, e1, e2, hq, st⟩
  · dsimp only [Pt.U, Pt.locs, Pt.cells, Pt.slots] at X' e1 e2 h1 h2 h3 st hcl
    subst h1; subst h2; subst h3
    exact Or.inr ⟨q, (T.setVm vm₁).calling g' mk As.toArray, t, U', L, E, ce, hT, X', hL, e1, e2, hq, hce, hcv, vx_cls hW₁ hcl, st⟩
end
end VXH
theorem vx_ofWH {l : Launch} {y : MethodName} {ws ws' : List Cond} {rm : Room} {Pc : Array Value → State → Prop} {Qc : Array Value → State → Outcome → State → Prop} {XC : String → State → State → Prop} {mc ms : Nat} {free : Addr → Prop} {cc : ByteArray} {maxL : Nat} {ret : Option FieldType} {hh : List (Nat × Nat × Nat × Nat)}
    (hy : plainName y.cls = true) (hw : ws = Cond.codeWith y cc maxL ret hh :: ws')
    (body : ∀ p e s m args below meth c s₁, BodyLoose p l y (headSpec ws rm) cc maxL ret e s m args below meth c s₁ → c.maxLocals = maxL → Pc args s →
      W p l e (headSpec ws rm).room s m args below meth c s.heap [] 0 0 (vx_MQ below Qc XC args s mc ms free) (entryFrame m args maxL)) : vx_Met l y ws rm Pc Qc XC mc ms free := by
  refine MetFree.of_bodyS (code := cc) (maxLocals := maxL) (ret := ret) hy ?_ ?_
  · intro args s m h hn
    obtain ⟨m9, meth, c, hn9, h1, h2, h3, h4, -, h5, h6, -⟩ := Cond.codeWith_spec (atoms_spec (ws := ws) h _ (by rw [hw]; exact List.mem_cons_self))
    cases hn.symm.trans hn9
    exact ⟨meth, c, h1, h2, h3, h4, h5, h6⟩
  · intro p e s m args below meth c s₁ B hml hP _
    have hh0 : s₁.heap = s.heap := by rw [B.state]; rfl
    obtain ⟨t, a1, o, b1, b2, b3⟩ := body p e s m args below meth c s₁ B hml hP s₁ hh0 (Stand.of_body B)
    exact ⟨t, o, a1, b1, b2, b3⟩
/-! ===== END ===== -/

def cNS : String := "java/util/NoSuchElementException"
def cRT : List String := ["java/lang/RuntimeException", "java/lang/Exception"]
theorem at_dec : (zz_atX RX9 136 cNS 13 prog_28_method_4_code cRT).all (fun w => !goodWord w || decide (w ∈ lw_tbl)) = true := by decide +kernel
theorem at_all : ∀ w ∈ zz_atX RX9 136 cNS 13 prog_28_method_4_code cRT, goodWord w = true → w ∈ lwG := fun w hw hg => by
  have h := List.all_eq_true.mp at_dec w hw
  rw [hg] at h
  simp only [Bool.not_true, Bool.false_or, decide_eq_true_eq] at h
  exact List.mem_filter.mpr ⟨h, hg⟩
theorem at_good : ∀ w ∈ Cond.classLink RX9 132 cNS :: Cond.initialized cNS :: zz_atX RX9 136 cNS 13 prog_28_method_4_code cRT, vx_ot w = true := fun w hw => List.all_eq_true.mp (show (Cond.classLink RX9 132 cNS :: Cond.initialized cNS :: zz_atX RX9 136 cNS 13 prog_28_method_4_code cRT).all vx_ot = true by decide +kernel) w hw
/-- the words that are kept by themselves -/
def zNL : List Cond := Cond.castable cNS cNS :: (zz_atX RX9 136 cNS 13 prog_28_method_4_code cRT).filter (fun w => !goodWord w)
theorem zNL_ok : ∀ w ∈ zNL, w.faceAtom = true ∧ w.onTables = true := fun w hw => by
  have h := List.all_eq_true.mp (show zNL.all (fun w => w.faceAtom && w.onTables) = true by decide +kernel) w hw
  simpa using h
def zNB (U : State) : Prop := ∀ w ∈ zNL, w.before #[] U = true
theorem zNB.same {s U : State} (hv : s.vm = U.vm) (h : zNB s) : zNB U := fun w hw => va_tabs (zNL_ok w hw).2 hv (h w hw)
theorem zNB.warm {s U : State} (hW : s.WarmedH U.vm) (h : zNB s) : zNB U := fun w hw => va_tabs (zNL_ok w hw).2 (rfl : (s.setVm U.vm).vm = U.vm) (Cond.faceAtom_setVm hW.alike w (zNL_ok w hw).1 (h w hw))
theorem zNB.at {s : State} (h : zNB s) {args : Array Value} {w : Cond} (hw : w ∈ zNL) : w.before args s = true := va_tabs (zNL_ok w hw).2 (rfl : s.vm = s.vm) (h w hw)
def zIn3 (z : zC) (ws : va_W) (sz : Nat) (U : State) : Prop := zIn z ws sz U ∧ zNB U
theorem zIn3_blind (z : zC) (as : List Value) (ws : va_W) (sz : Nat) : FrameBlind (va_Pc as (zIn3 z ws sz)) := fun a U g mk q => by
  obtain ⟨q0, q1, q2⟩ := q
  exact ⟨q0, ((zIn_blind z as ws sz) a U g mk ⟨q0, q1⟩).2, zNB.same (s := U) (U := U.calling g mk a) rfl q2⟩
def zXC (z : zC) (A : Nat → Prop) (ws : va_W) (pX : Prop) : String → State → State → Prop := fun E st t => (E = cNS ∧ pX) ∧ va_P z.1 vwCl ws t.heap ∧ va_K z.1 vwCl (zT z) t ∧ va_D A ws ∧ va_F A st t
def zzMetX (l : Launch) (y : MethodName) (cc : ByteArray) (nL : Nat) (ret : Option FieldType) (rm : Room) (z : zC) (as : List Value) (ws : va_W) (post : Option Value → va_W → Prop) (pX : Prop) : Prop :=
  ∀ sz : Nat, vx_Met l y (Cond.code y cc nL ret :: lwG) rm (va_Pc as (zIn3 z ws sz)) (zQ z (va_A ws sz) post) (zXC z (va_A ws sz) ws pX) rm.cells rm.slots (va_A ws sz)
theorem zzMetX.of {l : Launch} {y : MethodName} {cc : ByteArray} {nL : Nat} {ret : Option FieldType} {rm : Room} {z : zC} {as : List Value} {ws : va_W} {post : Option Value → va_W → Prop} {pX : Prop} {own : String} {ls0 : List (Nat × Value)} (hy : plainName y.cls = true) (ho : y.cls = own) (hlen : (lg_sl as).length ≤ nL) (hls : lv_args 0 as = ls0)
    (body : ∀ (p : Program) (e : Env) (s : State) (m : MethodId) (below : List Frame) (meth : Method) (c : Code) (A : Nat → Prop), zzFix p s m as.toArray meth c z A nL cc own → meth.sig.returnType = ret → meth.name = y.name → (∀ x ∈ c.exceptionTable.toList, False) → zNB s → zzW p l e rm s m as.toArray below meth c z A nL (vx_MQ below (zQ z A post) (zXC z A ws pX) as.toArray s rm.cells rm.slots A) 0 0 ws ls0 [] 0) : zzMetX l y cc nL ret rm z as ws post pX := by
  intro sz
  refine vx_ofW (cc := cc) (maxL := nL) (ret := ret) hy rfl ?_
  intro p e s m args below meth c s₁ B hml hno hv
  obtain ⟨rfl, ⟨hsz, hP, hK, hD0, hG⟩, hNB⟩ := hv
  subst hsz
  have hts := atoms_spec (ws := Cond.code y cc nL ret :: lwG) B.pre
  have hown : s.vm.findClass y.cls = some m.cls := findClass_of_methodNamed B.named
  rw [ho] at hown
  have hD := hD0.self (sz := s.heap.size)
  have hl := lv_entry as (n := nL) hlen
  rw [hls] at hl
  rw [lg_entry_eq]
  exact body p e s m below meth c (va_A ws s.heap.size) ⟨⟨B.exec, B.bytes, hml, hown, fun w h => hts w (List.mem_cons_of_mem _ h)⟩, hK, fun q h => Or.inr h, hG, B.notSynchronized⟩ B.returns (name_of_methodNamed B.named B.method).1 hno hNB s.heap [] _ hP hD va_S.rf hl
def zzMetH (l : Launch) (y : MethodName) (cc : ByteArray) (nL : Nat) (ret : Option FieldType) (hh : List (Nat × Nat × Nat × Nat)) (rm : Room) (z : zC) (as : List Value) (ws : va_W) (post : Option Value → va_W → Prop) : Prop :=
  ∀ sz : Nat, Met l y (Cond.codeWith y cc nL ret hh :: lwG) rm (va_Pc as (zIn3 z ws sz)) (zQ z (va_A ws sz) post) rm.cells rm.slots (va_A ws sz)
theorem zzMetH.of {l : Launch} {y : MethodName} {cc : ByteArray} {nL : Nat} {ret : Option FieldType} {rm : Room} {z : zC} {as : List Value} {ws : va_W} {post : Option Value → va_W → Prop} {hh : List (Nat × Nat × Nat × Nat)} {own : String} {ls0 : List (Nat × Value)} (hy : plainName y.cls = true) (ho : y.cls = own) (hlen : (lg_sl as).length ≤ nL) (hls : lv_args 0 as = ls0)
    (body : ∀ (p : Program) (e : Env) (s : State) (m : MethodId) (below : List Frame) (meth : Method) (c : Code) (A : Nat → Prop), zzFix p s m as.toArray meth c z A nL cc own → meth.sig.returnType = ret → meth.name = y.name → c.exceptionTable.toList = tableOf hh → zNB s → zzW p l e rm s m as.toArray below meth c z A nL (MQ below (zQ z A post) as.toArray s rm.cells rm.slots A) 0 0 ws ls0 [] 0) : zzMetH l y cc nL ret hh rm z as ws post := by
  intro sz
  refine va_MetW (hh := hh) (cc := cc) (maxL := nL) (ret := ret) hy rfl ?_
  intro p e s m args below meth c s₁ B hml hv
  obtain ⟨rfl, ⟨hsz, hP, hK, hD0, hG⟩, hNB⟩ := hv
  subst hsz
  have hts := atoms_spec (ws := Cond.codeWith y cc nL ret hh :: lwG) B.pre
  have hown : s.vm.findClass y.cls = some m.cls := findClass_of_methodNamed B.named
  rw [ho] at hown
  have hD := hD0.self (sz := s.heap.size)
  have hl := lv_entry as (n := nL) hlen
  rw [hls] at hl
  rw [lg_entry_eq]
  exact body p e s m below meth c (va_A ws s.heap.size) ⟨⟨B.exec, B.bytes, hml, hown, fun w h => hts w (List.mem_cons_of_mem _ h)⟩, hK, fun q h => Or.inr h, hG, B.notSynchronized⟩ B.returns (name_of_methodNamed B.named B.method).1 (vx_table (x := y) B (hts _ List.mem_cons_self)) hNB s.heap [] _ hP hD va_S.rf hl
section ZX
variable {p : Program} {l : Launch} {e : Env} {R : Room} {s : State} {m : MethodId} {args : Array Value} {below : List Frame} {meth : Method} {c : Code} {z : zC} {A : Nat → Prop} {nL : Nat} {Q : State → Prop} {cells slots : Nat} {cc : ByteArray} {own : String} {ws : va_W} {ls : List (Nat × Value)} {st : List Value} {pc : Nat} {post : Option Value → va_W → Prop}
theorem zz_iretX (C : zzFix p s m args meth c z A nL cc own) (hr : meth.sig.returnType = some .int) {v : Int32} {XC : String → State → State → Prop} (d : decode cc pc = .ok (.ireturn, 1)) (hp : post (some (.int v)) ws) : zzW p l e R s m args below meth c z A nL (vx_MQ below (zQ z A post) XC args s cells slots A) cells slots ws ls [.int v] pc :=
  fun H locs arr hP hD hS hl => vx_ret (zz_iret C hr d hp H locs arr hP hD hS hl)
theorem zz_throwX (C : zzFix p s m args meth c z A nL cc RX9) (hst : l.stackTraces = false) (hno : ∀ x ∈ c.exceptionTable.toList, False) (hNB : zNB s) {is sa mc ms : Nat} {tx : String} {pX : Prop} (hstr : vk_R RX9 is tx sa s) (hR : 5 < R.frames ∧ (st.map fun v => v.category).sum + 82 ≤ R.locals ∧ cells + 1 ≤ R.cells ∧ slots + 6 ≤ R.slots) (hmc : cells + 1 ≤ mc ∧ slots + 6 ≤ ms) (hpX : pX)
    (d0 : decode cc pc = .ok (.new 132, 3)) (d3 : decode cc (pc + 3) = .ok (.dup, 1)) (d4 : decode cc (pc + 4) = .ok (.ldc is, 2)) (d6 : decode cc (pc + 6) = .ok (.invokespecial 136, 3)) (d9 : decode cc (pc + 9) = .ok (.athrow, 1)) : zzW p l e R s m args below meth c z A nL (vx_MQ below (zQ z A post) (zXC z A ws pX) args s mc ms A) cells slots ws ls st pc := by
  intro H locs arr hP hD hS hl
  refine zz_throwSX (names := cRT) (cls := cNS) (ix := 13) (rx := prog_28_method_4_code) C.1.1 C.1.2.1 hst (by decide +kernel) (by decide +kernel) (by decide +kernel) (by decide +kernel) C.2.2.1 hS.1 C.1.2.2.2.1 (by decide) (by decide) (C.1.2.2.2.2 _ qw_853) (C.1.2.2.2.2 _ qw_20) hstr (fun w hw => by by_cases g : goodWord w = true; exact C.1.2.2.2.2 _ (at_all w hw g); exact hNB.at (List.mem_cons_of_mem _ (List.mem_filter.mpr ⟨hw, by simpa using g⟩))) at_good C.2.2.2.1.2.2.2.2.2.2.2.2.2.1 C.2.2.2.1.2.2.2.2.2.2.2.2.2.2 hS (hl.1.trans C.1.2.2.1.symm) d0 d3 d4 d6 d9 (fun x hx => (hno x hx).elim) hR.1 hR.2.1 hR.2.2.1 hR.2.2.2 C.2.2.2.2 ?_ hS.2.2 hmc.1 hmc.2
  intro t hal hsz hk
  exact ⟨⟨rfl, hpX⟩, hP.kept (fun k x hx => hk x.1 ((hP k x hx).lt)), va_K.moved hal C.2.1, hD, Nat.le_trans hS.1 hsz, fun q h1 h2 => (hk q (Nat.lt_of_lt_of_le h1 hS.1)).trans (hS.2.1 q h1 h2)⟩
theorem zz_callX (C : zzFix p s m args meth c z A nL cc own) {y : MethodName} {cc' : ByteArray} {nL' : Nat} {ret' : Option FieldType} {rm : Room} {wc wr : va_W} {b n index : Nat} {Cn : String} {As st0 : List Value} {pX : Prop} {x : ExceptionTableEntry} (hM : zzMetX l y cc' nL' ret' rm z (.ref b :: As) wc post pX) (htab : c.exceptionTable.toList = [x]) (hcv : covers x pc = true) (hc0 : x.catchType ≠ 0) (hlk : Cond.classLink own x.catchType cNS ∈ lwG) (hNB : zNB s) (hy : zYV Cn y cc' nL' ret' n) (hq : Cond.methodLink own index y ∈ lwG) (hR : rm.frames + 1 ≤ R.frames ∧ 8 + (nL' + 11) + rm.locals ≤ R.locals)
    (isC isR : List Nat) (hC : isC.map (fun i => ws[i]?) = wc.map some) (hRr : isR.map (fun i => ws[i]?) = wr.map some) (hnC : va_nd isC = true) (hn : va_nd isR = true) (hdis : ∀ i ∈ isR, i ∉ isC) (q0 ci : Nat) {fs : List Value} {T : u_T} {N : Nat} (hc : vwCl[ci]? = some (Cn, T, N)) (he : wc[q0]? = some (b, .inr (ci, fs))) (hlen : As.length = n) (hst : st0 = As.reverse ++ .ref b :: st) (hW : (st.map fun v => v.category).sum ≤ 8) (d : decode cc pc = .ok (.invokevirtual index, 3)) (hf : cells + rm.cells ≤ R.cells ∧ slots + rm.slots ≤ R.slots)
    (kx : pX → ∀ q : Nat, zzW p l e R s m args below meth c z A nL Q (cells + rm.cells) (slots + rm.slots) (wr ++ wc) ls [.ref q] x.handlerPc) (kk : ∀ (v : Option Value) (w : va_W), post v w → zzW p l e R s m args below meth c z A nL Q (cells + rm.cells) (slots + rm.slots) (wr ++ w) ls (v.toList ++ st) (pc + 3)) : zzW p l e R s m args below meth c z A nL Q cells slots ws ls st0 pc := by
  intro H locs arr hP hD hS hl
  obtain ⟨hPc, hpre⟩ := zz_pre C (as := .ref b :: As) hP hD hS isC hC hnC
  have hG : GoodIn lwG (wsV own index Cn y (Cond.code y cc' nL' ret' :: lwG)) := fun w hw => by
    have : w ∈ lwG := by
      simp only [wsV, List.mem_append, List.mem_cons, List.not_mem_nil, or_false] at hw
      rcases hw with (rfl | rfl | rfl | rfl) | (rfl | h)
      · exact hq
      · exact hy.1
      · exact hy.2.1
      · exact hy.2.2.1
      · exact hy.2.2.2.1
      · exact h
    exact ⟨this, lwG_good this⟩
  have hF := va_free (wc := wc) hD hS C.2.2.1 isC hC
  intro T hT X
  rcases (vx_runV (g := F0 m pc arr st0) (rest := st) (p := p) (e := e) (below := below) (meth := meth) C.1 (hM H.size) (cwV n C.1.2.2.2.2 hG rfl rfl rfl hy.2.2.2.2 hR) ⟨zIn3_blind z _ wc H.size, va_recv C.2.1 hPc hc he, fun U hU hW => ⟨(hpre U hU hW).1, (hpre U hU hW).2, hNB.warm hW⟩⟩ rfl hlen hl.1 hst (lv_room hW) d hf) T hT X with ⟨v, st₀, t, T', L, h0, X', hL, e1, e2, ⟨⟨v', w', hv, hp, hP1, hK1, hD1⟩, hz, hk⟩, st9⟩ | ⟨q, st₀, t, T', L, E, ce, h0, X', hL, e1, e2, ⟨⟨hE, hpX⟩, hP1, hK1, hD1, hz, hk⟩, hce, hcvm, hcl, st9⟩
  · cases hv
    rw [h0] at hz hk
    have hP1' : va_P z.1 vwCl w' T'.heap := by rw [e1]; exact hP1
    have hk' : ∀ q, q < H.size → ¬ va_A wc H.size q → T'.heap[q]? = H[q]? := fun q a b => by rw [e1]; exact hk q a b
    obtain ⟨hP2, hD2⟩ := va_join hP hD isC isR hC hRr hn hdis hk' hF hP1' hD1
    obtain ⟨t2, a1, b1⟩ := kk v w' hp T'.heap (locs ++ L) arr hP2 hD2
      ⟨Nat.le_trans hS.1 (by rw [e1]; exact hz), fun q h1 h2 => by rw [hk' q (Nat.lt_of_lt_of_le h1 hS.1) (fun z => h2 (hF q z))]; exact hS.2.1 q h1 h2, fun q hq => by
        rcases List.mem_append.mp hq with h | h
        · exact hS.2.2 q h
        · exact hF _ (hL q h)⟩ hl T' rfl X'
    exact ⟨t2, st9 t2 a1, b1⟩
  · subst hE
    rw [h0] at hz hk
    have hP1' : va_P z.1 vwCl wc T'.heap := by rw [e1]; exact hP1
    have hk' : ∀ q, q < H.size → ¬ va_A wc H.size q → T'.heap[q]? = H[q]? := fun q a b => by rw [e1]; exact hk q a b
    obtain ⟨hP2, hD2⟩ := va_join hP hD isC isR hC hRr hn hdis hk' hF hP1' hD1
    have K := kx hpX q T'.heap (locs ++ L) arr hP2 hD2
      ⟨Nat.le_trans hS.1 (by rw [e1]; exact hz), fun q h1 h2 => by rw [hk' q (Nat.lt_of_lt_of_le h1 hS.1) (fun z => h2 (hF q z))]; exact hS.2.1 q h1 h2, fun q hq => by
        rcases List.mem_append.mp hq with h | h
        · exact hS.2.2 q h
        · exact hF _ (hL q h)⟩ hl
    obtain ⟨t2, a1, b1⟩ := vx_catch (pc := pc) (rest := st) C.1.2.2.2.1 [] x [] htab (fun z h => by cases h) hcv hc0 (C.1.2.2.2.2 _ hlk) (hNB.at List.mem_cons_self) (by rw [e1]; exact hce) hcvm hcl K T' rfl X'
    exact ⟨t2, st9.trans a1, b1⟩
theorem zz_callSH (C : zzFix p s m args meth c z A nL cc own) {y : MethodName} {cc' : ByteArray} {nL' : Nat} {ret' : Option FieldType} {rm : Room} {wc wr : va_W} {n index : Nat} {As st0 : List Value} {hh : List (Nat × Nat × Nat × Nat)} (hNB : zNB s) (hM : zzMetH l y cc' nL' ret' hh rm z As wc post) (hy : Cond.static y ∈ lwG ∧ Cond.initialized y.cls ∈ lwG ∧ Cond.codeWith y cc' nL' ret' hh ∈ lwG ∧ (y.cls ≠ "java/lang/invoke/MethodHandle" ∧ y.cls ≠ "java/lang/invoke/VarHandle" ∧ (parseMethodDescriptor y.desc).map (fun d => d.parameters.length) = some n)) (hq : Cond.methodLink own index y ∈ lwG) (hR : rm.frames + 1 ≤ R.frames ∧ 8 + (nL' + 11) + rm.locals ≤ R.locals)
    (isC isR : List Nat) (hC : isC.map (fun i => ws[i]?) = wc.map some) (hRr : isR.map (fun i => ws[i]?) = wr.map some) (hnC : va_nd isC = true) (hn : va_nd isR = true) (hdis : ∀ i ∈ isR, i ∉ isC) (hlen : As.length = n) (hst : st0 = As.reverse ++ st) (hW : (st.map fun v => v.category).sum ≤ 8) (d : decode cc pc = .ok (.invokestatic index, 3)) (hf : cells + rm.cells ≤ R.cells ∧ slots + rm.slots ≤ R.slots)
    (kk : ∀ (v : Option Value) (w : va_W), post v w → zzW p l e R s m args below meth c z A nL Q (cells + rm.cells) (slots + rm.slots) (wr ++ w) ls (v.toList ++ st) (pc + 3)) : zzW p l e R s m args below meth c z A nL Q cells slots ws ls st0 pc := by
  intro H locs arr hP hD hS hl
  obtain ⟨hPc, hpre⟩ := zz_pre C (as := As) hP hD hS isC hC hnC
  have hG : GoodIn lwG (va_wsS own index y (Cond.codeWith y cc' nL' ret' hh :: lwG)) := fun w hw => by
    have : w ∈ lwG := by
      simp only [va_wsS, List.mem_append, List.mem_cons, List.not_mem_nil, or_false] at hw
      rcases hw with (rfl | rfl | rfl) | (rfl | h) <;> first | assumption | exact hq | exact hy.1 | exact hy.2.1 | exact hy.2.2.1
    exact ⟨this, lwG_good this⟩
  have hts := C.1.2.2.2.2
  exact zz_run C (as := As) (rm := rm) hP hD hS hl (vx_runSW C.1 (hM H.size) (vx_cwSW n hts hG rfl rfl rfl hy.2.2.2 hR) ⟨zIn3_blind z _ wc H.size, fun U hU hW => ⟨(hpre U hU hW).1, (hpre U hU hW).2, hNB.warm hW⟩⟩ rfl hlen hl.1 hst (lv_room hW) d hf) isC isR hC hRr hn hdis kk
end ZX
theorem qx_st : Cond.static yL_told ∈ lwG := lwG_t (k := 846) (by decide +kernel) (by decide +kernel)
theorem qx_cw : Cond.codeWith yL_told cL_told 5 (some .int) [(0, 10, 13, 13)] ∈ lwG := lwG_t (k := 847) (by decide +kernel) (by decide +kernel)
abbrev wOut (z : zC) (oa : Nat) (fO1 : Int → Int) : va_W := [(oa, lrow 1 (z.2.1 2) fO1)]
def lToldOk (pd pb b w : Int) : Prop := (0 ≤ b ∧ b < pb) ∧ ((0 ≤ w ∧ w ≤ 6) ∨ (11 ≤ w ∧ w ≤ 10 + pd))
def lTold (pb : Int) (fT : Int → Int) (b w : Int) : Int := if 10 < w then plYield pb fT b (w - 10) else plTerm pb fT b w
abbrev po_X9_told (z : zC) (lh : Nat) (lt : Nat) (lb : Nat) (lc : Nat) (lr : Nat) (ld : Nat) (lm : Int) (lf : Int) (lk : Int) (lq : Int) (ph : Nat) (pa : Nat) (pr : Nat) (pt : Nat) (pd : Int) (pb : Int) (fP : Int → Int) (fR : Int → Int) (fT : Int → Int) (b9 : Int) (w9 : Int) : Option Value → va_W → Prop := fun v w => (lToldOk pd pb b9 w9) ∧ v = some (Value.int (iI (lTold pb fT b9 w9))) ∧ w = (wLM z lh lt lb lc lr ph ld lm lf lk lq) ++ (wPlan z ph pa pr pt pd pb fP fR fT)
abbrev rm_X9_told : Room := { frames := 8, cells := 1, slots := 6, locals := 120 }
set_option maxHeartbeats 4000000 in
set_option maxRecDepth 100000 in
theorem cc_X9_told (l : Launch) (z : zC) (lh : Nat) (lt : Nat) (lb : Nat) (lc : Nat) (lr : Nat) (ld : Nat) (lm : Int) (lf : Int) (lk : Int) (lq : Int) (ph : Nat) (pa : Nat) (pr : Nat) (pt : Nat) (pd : Int) (pb : Int) (fP : Int → Int) (fR : Int → Int) (fT : Int → Int) (b9 : Int) (w9 : Int) (hpd : 1 ≤ pd ∧ pd ≤ 4) (hpb : 0 ≤ pb ∧ pb ≤ 5) (hfT : ∀ i : Int, 0 ≤ fT i ∧ fT i ≤ 200) (hb9 : -2147483648 ≤ b9 ∧ b9 < 2147483648) (hw9 : -2147483648 ≤ w9 ∧ w9 < 2147483648)  (hst : l.stackTraces = false) : zzMetX l yX9_told cX9_told 3 (Option.some .int) rm_X9_told z [.ref lh, .int (iI b9), .int (iI w9)] ((wLM z lh lt lb lc lr ph ld lm lf lk lq) ++ (wPlan z ph pa pr pt pd pb fP fR fT)) (po_X9_told z lh lt lb lc lr ld lm lf lk lq ph pa pr pt pd pb fP fR fT b9 w9) (¬ lToldOk pd pb b9 w9) := by
  refine zzMetX.of (own := RX9) (ls0 := [(0, .ref lh), (1, .int (iI b9)), (2, .int (iI w9))]) (by decide) rfl (Nat.le_of_ble_eq_true rfl) rfl ?_
  intro p e s m below meth c A C hr hnm hno hNB
  refine zz_aload_n C 0 dX9_told_0 rfl rfl ?_
  refine zz_get C 0 (ci := 9) (k := 4) rfl rfl in_X9 (by decide) qw_320 rfl rfl dX9_told_1 ?_
  refine zz_iconst C dX9_told_4 ?_
  refine zz_iload_n C 1 dX9_told_5 rfl rfl ?_
  refine zz_callV (wr := wLM z lh lt lb lc lr ph ld lm lf lk lq) (st := []) C (cc_X6_fits_4 l z ph pa pr pt pd pb fP fR fT b9 (by omega) (by omega) (by omega)) yk_X6_fits qw_351 ⟨by decide, by decide⟩ [1, 2, 3, 4] [0] rfl rfl rfl rfl (by decide) 0 6 rfl rfl rfl rfl (Nat.le_of_ble_eq_true rfl) dX9_told_6 ⟨by decide, by decide⟩ ?_
  rintro _ _ ⟨q_6, hq_6, rfl, rfl⟩
  refine zz_st (st' := [.int (iI q_6)]) rfl (zz_ws (ws' := (wLM z lh lt lb lc lr ph ld lm lf lk lq) ++ (wPlan z ph pa pr pt pd pb fP fR fT)) rfl ?_)
  refine zz_if_ne (tgt := 22) C dX9_told_9 (by decide) (by unfold rI; omega) (fun c9 => ?_) (fun c9 => ?_)
  · skip
    refine zz_iload_n C 2 dX9_told_22 rfl rfl ?_
    refine zz_if_lt (tgt := 42) C dX9_told_23 (by decide) (by unfold rI; omega) (fun c23 => ?_) (fun c23 => ?_)
    · skip
      refine zz_iload_n C 2 dX9_told_42 rfl rfl ?_
      refine zz_bipush C dX9_told_43 (by decide +kernel) ?_
      refine zz_icmp_le (tgt := 62) C dX9_told_45 (by decide) (by unfold rI; omega) (by unfold rI; omega) (fun c45 => ?_) (fun c45 => ?_)
      · skip
        exact zz_throwX C hst hno hNB (pX := ¬ lToldOk pd pb b9 w9) C.2.2.2.1.2.2.2.2.2.2.1.2.2.2.2.2.2 ⟨by decide, by decide, by decide, by decide⟩ ⟨by decide, by decide⟩ (by unfold lToldOk; omega) dX9_told_62 dX9_told_65 dX9_told_66 dX9_told_68 dX9_told_71
      · skip
        refine zz_iload_n C 2 dX9_told_48 rfl rfl ?_
        refine zz_bipush C dX9_told_49 (by decide +kernel) ?_
        refine zz_aload_n C 0 dX9_told_51 rfl rfl ?_
        refine zz_get C 0 (ci := 9) (k := 4) rfl rfl in_X9 (by decide) qw_320 rfl rfl dX9_told_52 ?_
        refine zz_get C 1 (ci := 6) (k := 0) rfl rfl in_X6 (by decide) qw_296 rfl rfl dX9_told_55 ?_
        refine zz_iadd C dX9_told_58 ?_
        refine zz_icmp_le (tgt := 72) C dX9_told_59 (by decide) (by unfold rI; omega) (by unfold rI; omega) (fun c59 => ?_) (fun c59 => ?_)
        · skip
          refine zz_aload_n C 0 dX9_told_72 rfl rfl ?_
          refine zz_get C 0 (ci := 9) (k := 4) rfl rfl in_X9 (by decide) qw_320 rfl rfl dX9_told_73 ?_
          refine zz_iload_n C 1 dX9_told_76 rfl rfl ?_
          refine zz_iload_n C 2 dX9_told_77 rfl rfl ?_
          refine zz_bipush C dX9_told_78 (by decide +kernel) ?_
          refine zz_isub C dX9_told_80 ?_
          refine zz_callV (wr := wLM z lh lt lb lc lr ph ld lm lf lk lq) (st := []) C (cc_X6_yieldAt l z ph pa pr pt pd pb fP fR fT b9 (w9 - 10) (by omega) (by omega) (by omega) (by omega)) yk_X6_yieldAt qw_919 ⟨by decide, by decide⟩ [1, 2, 3, 4] [0] rfl rfl rfl rfl (by decide) 0 6 rfl rfl rfl rfl (Nat.le_of_ble_eq_true rfl) dX9_told_81 ⟨by decide, by decide⟩ ?_
          rintro _ _ ⟨rfl, rfl⟩
          refine zz_st (st' := [.int (iI (plYield pb fT b9 (w9 - 10)))]) rfl (zz_ws (ws' := (wLM z lh lt lb lc lr ph ld lm lf lk lq) ++ (wPlan z ph pa pr pt pd pb fP fR fT)) rfl ?_)
          refine zz_widen (j := 1) (n := 6) (by decide) (by decide) ?_
          exact zz_iretX C hr dX9_told_84 ⟨by unfold lToldOk; omega, zz_vI (by unfold lTold; rw [if_pos (by omega)]), rfl⟩
        · skip
          exact zz_throwX C hst hno hNB (pX := ¬ lToldOk pd pb b9 w9) C.2.2.2.1.2.2.2.2.2.2.1.2.2.2.2.2.2 ⟨by decide, by decide, by decide, by decide⟩ ⟨by decide, by decide⟩ (by unfold lToldOk; omega) dX9_told_62 dX9_told_65 dX9_told_66 dX9_told_68 dX9_told_71
    · skip
      refine zz_iload_n C 2 dX9_told_26 rfl rfl ?_
      refine zz_bipush C dX9_told_27 (by decide +kernel) ?_
      refine zz_icmp_ge (tgt := 42) C dX9_told_29 (by decide) (by unfold rI; omega) (by unfold rI; omega) (fun c29 => ?_) (fun c29 => ?_)
      · skip
        refine zz_iload_n C 2 dX9_told_42 rfl rfl ?_
        refine zz_bipush C dX9_told_43 (by decide +kernel) ?_
        refine zz_icmp_le (tgt := 62) C dX9_told_45 (by decide) (by unfold rI; omega) (by unfold rI; omega) (fun c45 => ?_) (fun c45 => ?_)
        · skip
          exact zz_throwX C hst hno hNB (pX := ¬ lToldOk pd pb b9 w9) C.2.2.2.1.2.2.2.2.2.2.1.2.2.2.2.2.2 ⟨by decide, by decide, by decide, by decide⟩ ⟨by decide, by decide⟩ (by unfold lToldOk; omega) dX9_told_62 dX9_told_65 dX9_told_66 dX9_told_68 dX9_told_71
        · skip
          refine zz_iload_n C 2 dX9_told_48 rfl rfl ?_
          refine zz_bipush C dX9_told_49 (by decide +kernel) ?_
          refine zz_aload_n C 0 dX9_told_51 rfl rfl ?_
          refine zz_get C 0 (ci := 9) (k := 4) rfl rfl in_X9 (by decide) qw_320 rfl rfl dX9_told_52 ?_
          refine zz_get C 1 (ci := 6) (k := 0) rfl rfl in_X6 (by decide) qw_296 rfl rfl dX9_told_55 ?_
          refine zz_iadd C dX9_told_58 ?_
          refine zz_icmp_le (tgt := 72) C dX9_told_59 (by decide) (by unfold rI; omega) (by unfold rI; omega) (fun c59 => ?_) (fun c59 => ?_)
          · skip
            refine zz_aload_n C 0 dX9_told_72 rfl rfl ?_
            refine zz_get C 0 (ci := 9) (k := 4) rfl rfl in_X9 (by decide) qw_320 rfl rfl dX9_told_73 ?_
            refine zz_iload_n C 1 dX9_told_76 rfl rfl ?_
            refine zz_iload_n C 2 dX9_told_77 rfl rfl ?_
            refine zz_bipush C dX9_told_78 (by decide +kernel) ?_
            refine zz_isub C dX9_told_80 ?_
            refine zz_callV (wr := wLM z lh lt lb lc lr ph ld lm lf lk lq) (st := []) C (cc_X6_yieldAt l z ph pa pr pt pd pb fP fR fT b9 (w9 - 10) (by omega) (by omega) (by omega) (by omega)) yk_X6_yieldAt qw_919 ⟨by decide, by decide⟩ [1, 2, 3, 4] [0] rfl rfl rfl rfl (by decide) 0 6 rfl rfl rfl rfl (Nat.le_of_ble_eq_true rfl) dX9_told_81 ⟨by decide, by decide⟩ ?_
            rintro _ _ ⟨rfl, rfl⟩
            refine zz_st (st' := [.int (iI (plYield pb fT b9 (w9 - 10)))]) rfl (zz_ws (ws' := (wLM z lh lt lb lc lr ph ld lm lf lk lq) ++ (wPlan z ph pa pr pt pd pb fP fR fT)) rfl ?_)
            refine zz_widen (j := 1) (n := 6) (by decide) (by decide) ?_
            exact zz_iretX C hr dX9_told_84 ⟨by unfold lToldOk; omega, zz_vI (by unfold lTold; rw [if_pos (by omega)]), rfl⟩
          · skip
            exact zz_throwX C hst hno hNB (pX := ¬ lToldOk pd pb b9 w9) C.2.2.2.1.2.2.2.2.2.2.1.2.2.2.2.2.2 ⟨by decide, by decide, by decide, by decide⟩ ⟨by decide, by decide⟩ (by unfold lToldOk; omega) dX9_told_62 dX9_told_65 dX9_told_66 dX9_told_68 dX9_told_71
      · skip
        refine zz_aload_n C 0 dX9_told_32 rfl rfl ?_
        refine zz_get C 0 (ci := 9) (k := 4) rfl rfl in_X9 (by decide) qw_320 rfl rfl dX9_told_33 ?_
        refine zz_iload_n C 1 dX9_told_36 rfl rfl ?_
        refine zz_iload_n C 2 dX9_told_37 rfl rfl ?_
        refine zz_callV (wr := wLM z lh lt lb lc lr ph ld lm lf lk lq) (st := []) C (cc_X6_term l z ph pa pr pt pd pb fP fR fT b9 w9 (by omega) (by omega) (by omega)) yk_X6_term qw_421 ⟨by decide, by decide⟩ [1, 2, 3, 4] [0] rfl rfl rfl rfl (by decide) 0 6 rfl rfl rfl rfl (Nat.le_of_ble_eq_true rfl) dX9_told_38 ⟨by decide, by decide⟩ ?_
        rintro _ _ ⟨rfl, rfl⟩
        refine zz_st (st' := [.int (iI (plTerm pb fT b9 w9))]) rfl (zz_ws (ws' := (wLM z lh lt lb lc lr ph ld lm lf lk lq) ++ (wPlan z ph pa pr pt pd pb fP fR fT)) rfl ?_)
        refine zz_widen (j := 1) (n := 6) (by decide) (by decide) ?_
        exact zz_iretX C hr dX9_told_41 ⟨by unfold lToldOk; omega, zz_vI (by unfold lTold; rw [if_neg (by omega)]), rfl⟩
  · skip
    exact zz_throwX C hst hno hNB (pX := ¬ lToldOk pd pb b9 w9) C.2.2.2.1.2.2.2.2.2.2.1.2.2.2.2.2.1 ⟨by decide, by decide, by decide, by decide⟩ ⟨by decide, by decide⟩ (by unfold lToldOk; omega) dX9_told_12 dX9_told_15 dX9_told_16 dX9_told_18 dX9_told_21
abbrev po_L_told (z : zC) (lh : Nat) (lt : Nat) (lb : Nat) (lc : Nat) (lr : Nat) (ld : Nat) (lm : Int) (lf : Int) (lk : Int) (lq : Int) (ph : Nat) (pa : Nat) (pr : Nat) (pt : Nat) (pd : Int) (pb : Int) (fP : Int → Int) (fR : Int → Int) (fT : Int → Int) (oa : Nat) (fO1 : Int → Int) (b9 : Int) (w9 : Int) : Option Value → va_W → Prop := fun v w => ∃ (q : Int), ∃ (gO1 : Int → Int), ((q = 0 ∧ lToldOk pd pb b9 w9 ∧ gO1 0 = lTold pb fT b9 w9) ∨ (q = 1 ∧ ¬ lToldOk pd pb b9 w9 ∧ gO1 = fO1)) ∧ v = some (Value.int (iI q)) ∧ w = (wLM z lh lt lb lc lr ph ld lm lf lk lq) ++ (wPlan z ph pa pr pt pd pb fP fR fT) ++ (wOut z oa gO1)
abbrev rm_L_told : Room := { frames := 10, cells := 1, slots := 6, locals := 200 }
theorem lTold_rng {pb : Int} {fT : Int → Int} (hT : ∀ i : Int, 0 ≤ fT i ∧ fT i ≤ 200) (b w : Int) : 0 ≤ lTold pb fT b w ∧ lTold pb fT b w ≤ 400 := by
  have t0 := plTerm_rng pb hT b 0
  have t1 := plTerm_rng pb hT b 1
  have tw := plTerm_rng pb hT b w
  unfold lTold plYield
  split
  · split
    · omega
    · split <;> omega
  · omega
set_option maxHeartbeats 4000000 in
set_option maxRecDepth 100000 in
theorem cc_L_told (l : Launch) (z : zC) (lh : Nat) (lt : Nat) (lb : Nat) (lc : Nat) (lr : Nat) (ld : Nat) (lm : Int) (lf : Int) (lk : Int) (lq : Int) (ph : Nat) (pa : Nat) (pr : Nat) (pt : Nat) (pd : Int) (pb : Int) (fP : Int → Int) (fR : Int → Int) (fT : Int → Int) (oa : Nat) (fO1 : Int → Int) (b9 : Int) (w9 : Int) (hpd : 1 ≤ pd ∧ pd ≤ 4) (hpb : 0 ≤ pb ∧ pb ≤ 5) (hfT : ∀ i : Int, 0 ≤ fT i ∧ fT i ≤ 200) (hb9 : -2147483648 ≤ b9 ∧ b9 < 2147483648) (hw9 : -2147483648 ≤ w9 ∧ w9 < 2147483648)  (hst : l.stackTraces = false) : zzMetH l yL_told cL_told 5 (Option.some .int) [(0, 10, 13, 13)] rm_L_told z [.ref lh, .int (iI b9), .int (iI w9), .ref oa] ((wLM z lh lt lb lc lr ph ld lm lf lk lq) ++ (wPlan z ph pa pr pt pd pb fP fR fT) ++ (wOut z oa fO1)) (po_L_told z lh lt lb lc lr ld lm lf lk lq ph pa pr pt pd pb fP fR fT oa fO1 b9 w9) := by
  refine zzMetH.of (own := RL) (ls0 := [(0, .ref lh), (1, .int (iI b9)), (2, .int (iI w9)), (3, .ref oa)]) (by decide) rfl (Nat.le_of_ble_eq_true rfl) rfl ?_
  intro p e s m below meth c A C hr hnm htab hNB
  refine zz_aload_n C 3 dL_told_0 rfl rfl ?_
  refine zz_iconst C dL_told_1 ?_
  refine zz_aload_n C 0 dL_told_2 rfl rfl ?_
  refine zz_iload_n C 1 dL_told_3 rfl rfl ?_
  refine zz_iload_n C 2 dL_told_4 rfl rfl ?_
  refine zz_callX (wr := wOut z oa fO1) (st := [.int (iI 0), .ref oa]) (x := { startPc := 0, endPc := 10, handlerPc := 13, catchType := 13 }) C (cc_X9_told l z lh lt lb lc lr ld lm lf lk lq ph pa pr pt pd pb fP fR fT b9 w9 hpd hpb hfT hb9 hw9 hst) htab (by decide) (by decide) qw_848 hNB yk_X9_told qw_849 ⟨by decide, by decide⟩ [0, 1, 2, 3, 4] [5] rfl rfl rfl rfl (by decide) 0 9 rfl rfl rfl rfl (Nat.le_of_ble_eq_true rfl) dL_told_5 ⟨by decide, by decide⟩ ?_ ?_
  · intro hnx q9
    refine zz_astore (ls' := [(4, .ref q9), (0, .ref lh), (1, .int (iI b9)), (2, .int (iI w9)), (3, .ref oa)]) C dL_told_13 (by decide) rfl ?_
    refine zz_iconst C dL_told_15 ?_
    refine zz_sub (ws' := (wLM z lh lt lb lc lr ph ld lm lf lk lq) ++ (wPlan z ph pa pr pt pd pb fP fR fT) ++ (wOut z oa fO1)) [1, 2, 3, 4, 5, 0] rfl rfl ?_
    exact zz_iret C hr dL_told_16 ⟨1, fO1, Or.inr ⟨rfl, hnx, rfl⟩, rfl, rfl⟩
  · rintro _ _ ⟨hok, rfl, rfl⟩
    have hrt := lTold_rng (pb := pb) hfT b9 w9
    refine zz_i2l C dL_told_8 (by unfold rI; omega) ?_
    refine zz_last (ws' := (wOut z oa (zup fO1 0 (lTold pb fT b9 w9))) ++ (((wLM z lh lt lb lc lr ph ld lm lf lk lq) ++ (wPlan z ph pa pr pt pd pb fP fR fT)))) C 0 rfl (by omega) (by omega) (by decide) rfl dL_told_9 ?_
    refine zz_goto (tgt := 17) C dL_told_10 (by decide) ?_
    refine zz_iconst C dL_told_17 ?_
    refine zz_sub (ws' := (wLM z lh lt lb lc lr ph ld lm lf lk lq) ++ (wPlan z ph pa pr pt pd pb fP fR fT) ++ (wOut z oa (zup fO1 0 (lTold pb fT b9 w9)))) [1, 2, 3, 4, 5, 0] rfl rfl ?_
    exact zz_iret C hr dL_told_18 ⟨0, zup fO1 0 (lTold pb fT b9 w9), Or.inl ⟨rfl, hok, zup_eq _ _ _⟩, rfl, rfl⟩
