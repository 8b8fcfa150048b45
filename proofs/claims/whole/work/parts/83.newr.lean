/-- arrays of rows of longs, as the tables have them -/
def va_AOA (t : FieldType) (U : State) : Prop := (Cond.arrayOver (.array t)).before #[] U = true
theorem va_AOA.use {t : FieldType} {A : Array Value} {U : State} (h : va_AOA t U) : (Cond.arrayOver (.array t)).before A U = true := h
theorem zAO_warm {s U : State} (hW : s.WarmedH U.vm) (h : va_AOA .long s) : va_AOA .long U := by
  obtain ⟨comp, c, k, h1, h2, h3, h4, h5⟩ := arrayOverA_spec h
  have hvm := hW.alike
  have hbb : U.vm.bare = s.vm.bare := by first | exact hvm.bare_eq | exact hvm.bare_eq.symm
  obtain ⟨k', hk', he⟩ := hvm.2.2 _ _ h3
  have f0 : (U.vm.classes.findIdx? fun (x : Class) => match x.kind with | .array component _ => component == comp | _ => false) = some c := (va_idx_bare U.vm comp).symm.trans ((congrArg (fun v : Vm => v.classes.findIdx? fun (x : Class) => match x.kind with | .array component _ => component == comp | _ => false) hbb).trans ((va_idx_bare s.vm comp).trans h2))
  have f1 : U.vm.findClass (FieldType.array .long).toString = some comp := by rw [hvm.findClass]; exact h1
  have f2 : U.vm.findClass ("[" ++ (FieldType.array .long).toString) = some c := by rw [hvm.findClass]; exact h5
  have f3 : k'.kind = .array comp (.array .long) := by rw [he]; exact h4
  show (Cond.arrayOver (.array .long)).before #[] U = true
  simp only [Cond.before, Cond.holds, Cond.value]
  rw [f1, Option.bind_some]
  refine (congrArg (fun o : Option Nat => (o.bind (fun c => (U.vm.classes[c]?).map fun (k : Class) => match k.kind with | .array _ ty => decide (ty = FieldType.array .long) && decide (U.vm.findClass ("[" ++ (FieldType.array .long).toString) = some c) | _ => false) == some true)) f0).trans ?_
  simp [hk', f3, f2]
theorem zAO_same {u U : State} (hv : U.vm = u.vm) (h : va_AOA .long u) : va_AOA .long U := by
  unfold va_AOA at *
  simp only [Cond.before, Cond.holds, Cond.value] at *
  rw [hv]
  exact h
/-! ===== BEGIN new T[n][m]: the outer array a place, the inner ones among the pooled ===== -/
/-- f, but v at every address of l -/
def vr_up {α : Type} (f : Nat → α) (l : List Nat) (v : α) : Nat → α := fun a => if a ∈ l then v else f a
theorem vr_up_in {α : Type} {f : Nat → α} {l : List Nat} {v : α} {a : Nat} (h : a ∈ l) : vr_up f l v a = v := if_pos h
theorem vr_up_ne {α : Type} {f : Nat → α} {l : List Nat} {v : α} {a : Nat} (h : a ∉ l) : vr_up f l v a = f a := if_neg h
theorem vr_rows {L l : List Nat} {f : Nat → va_E} {e : va_E} (h : ∀ a, a ∈ l → a ∉ L) : va_pl L f ++ l.map (fun a => (a, e)) = va_pl (L ++ l) (vr_up f l e) := by
  unfold va_pl
  rw [List.map_append]
  congr 1
  · apply List.map_congr_left
    intro a ha
    rw [vr_up_ne (fun q => h a q ha)]
  · apply List.map_congr_left
    intro a ha
    rw [vr_up_in ha]
theorem vr_lay {X rows : va_W} {x : Nat × va_E} {pl : va_W} {D : va_G} {cl : List vw_C} {H : Heap} (hP : va_P D cl (((X ++ pl) ++ [x]) ++ rows) H) : va_P D cl ((X ++ [x]) ++ (pl ++ rows)) H := by
  rw [List.append_assoc (X ++ pl)] at hP
  have h := va_P.swap hP
  rw [← List.append_assoc X] at h
  have h2 := va_P.swap h
  rw [List.append_assoc (X ++ [x])] at h2
  exact h2
theorem vr_layD {X rows : va_W} {x : Nat × va_E} {pl : va_W} {A : Nat → Prop} (hD : va_D A (((X ++ pl) ++ [x]) ++ rows)) : va_D A ((X ++ [x]) ++ (pl ++ rows)) := by
  rw [List.append_assoc (X ++ pl)] at hD
  have h := va_D.swap hD
  rw [← List.append_assoc X] at h
  have h2 := va_D.swap h
  rw [List.append_assoc (X ++ [x])] at h2
  exact h2
theorem vr_outer (c : ClassId) (N h0 : Nat) : ∀ i : Nat, Jvm.Free.Multi.outerC c N h0 i = arrV c N (fun j => va_rf (if j < i then some (h0 + 1 + j) else none))
  | 0 => by
    show ({ cls := c, slots := Array.replicate N .null, vm := .none } : Cell) = _
    rw [arrV_new]
    refine congrArg (arrV c N) (funext fun j => ?_)
    simp [va_rf]
  | i + 1 => by
    show (Jvm.Free.Multi.outerC c N h0 i).setSlot i (.ref (h0 + 1 + i)) = _
    rw [vr_outer c N h0 i, arrV_store]
    refine congrArg (arrV c N) (funext fun j => ?_)
    by_cases e : j = i
    · subst e
      simp [updV, va_rf]
    · by_cases h : j < i
      · simp [updV, e, h, Nat.lt_succ_of_lt h]
      · simp [updV, e, h, show ¬ j < i + 1 by omega]
section VGM
variable {p : Program} {l : Launch} {e : Env} {R : Room} {s : State} {m : MethodId} {args : Array Value} {below : List Frame} {meth : Method} {c : Code} {H : Heap} {locs : List Loc} {cells slots : Nat} {Q : State → Prop}
variable {cc : ByteArray} {pc : Nat} {ls : Array Slot} {rest : List Value} {D : va_G} {cl : List vw_C} {A : Nat → Prop} {a : Nat} {tys : List (ClassId × FieldType)} {ws : va_W} {H0 : Heap}
theorem va_mna {X : va_W} {L : List Nat} {f : Nat → va_E} {cc : ByteArray} (hexec : p.tables.exec = Jvm.exec) (hb : c.code = cc) {own : String} {index : Nat} {ty : FieldType} {cy : ClassId} (hown : s.vm.findClass own = some m.cls) (hclink : (Cond.classLink own index ("[" ++ (FieldType.array ty).toString)).before args s = true) (hover : va_AOA ty s) (harr : (Cond.arrayClass ty).before args s = true) (hcy : s.vm.findClass (FieldType.array ty).toString = some cy)
    (hK : va_K D cl tys s) (hP : va_P D cl (X ++ va_pl L f) H) (hD : va_D A (X ++ va_pl L f)) (hS : va_S A H0 H locs) (hA : ∀ q, H0.size ≤ q → A q) {n k : Int32} {N' K' : Nat} {z : vp_A} (hn : ¬ n < 0) (hk : ¬ k < 0) (hN : n.toNatClampNeg = N') (hM : k.toNatClampNeg = K')
    (hb1 : N' * 4 ≤ 536870912) (hb2 : K' * componentBytes ty ≤ 536870912) (hb3 : K' ≤ 536870912) (hdf : fits ty (defaultValue ty) = true) (hdd : (defaultValue ty).isDefault = true) (hcells : cells + (1 + N') ≤ R.cells) (hslots : slots + (N' + N' * K') ≤ R.slots) (hz : ∀ c : ClassId, Jvm.Free.Multi.innerC c K' (defaultValue ty) = vp_cell c z) (hdg : decode cc pc = .ok (.multianewarray index 2, 4))
    (kk : ∀ (q : Nat) (r : Nat → Nat) (cA : ClassId) (H1 : Heap), (∀ i j : Nat, i < N' → j < N' → r i = r j → i = j) → (∀ i : Nat, i < N' → r i ∉ L) → va_K D cl (tys ++ [(cA, .array ty)]) s →
      va_P D cl ((X ++ [(q, .inl (cA, N', .inr (.inr (.inr (.inr (fun i => if i < N' then some (r i) else none))))))]) ++ va_pl (L ++ (List.range N').map r) (vr_up f ((List.range N').map r) (.inl (cy, z)))) H1 → va_D A ((X ++ [(q, .inl (cA, N', .inr (.inr (.inr (.inr (fun i => if i < N' then some (r i) else none))))))]) ++ va_pl (L ++ (List.range N').map r) (vr_up f ((List.range N').map r) (.inl (cy, z)))) → va_S A H0 H1 locs →
      W p l e R s m args below meth c H1 locs (cells + 1 + N') (slots + N' + N' * K') Q (F0 m (pc + 4) ls (.ref q :: rest))) : W p l e R s m args below meth c H locs cells slots Q (F0 m pc ls (.int k :: .int n :: rest)) := by
  subst hN
  subst hM
  intro T hT Xs
  obtain ⟨vm₁, cA, comp, -, fA, fC, hO, -, X', step⟩ := Xs.multianewarray2F hexec hown hclink (va_AOA.use hover) harr (g := F0 m pc ls (.int k :: .int n :: rest)) rfl (by rw [hb]; exact hdg) rfl hn hk hb1 hb2 hb3 hdf hdd hcells hslots
  have ec : some cy = some comp := hcy.symm.trans fC
  cases ec
  generalize hF : Jvm.Free.Multi.fill (T.setVm vm₁) cA cy n.toNatClampNeg k.toNatClampNeg (defaultValue ty) n.toNatClampNeg = F at X' step
  have hTh : (T.setVm vm₁).heap = H := hT
  obtain ⟨f1, f2, -, -⟩ := Jvm.Free.Multi.fill_facts (T.setVm vm₁) cA cy n.toNatClampNeg k.toNatClampNeg (defaultValue ty) n.toNatClampNeg
  rw [hF, hTh] at f1 f2
  have hold : ∀ x : Nat, x < H.size → F.heap[x]? = H[x]? := fun x hx => by
    have := Jvm.Free.Multi.fill_old (T.setVm vm₁) cA cy n.toNatClampNeg k.toNatClampNeg (defaultValue ty) (a := x) (by rw [hTh]; exact hx) n.toNatClampNeg
    rw [hF, hTh] at this
    exact this
  have hrow : ∀ j : Nat, j < n.toNatClampNeg → F.heap[H.size + 1 + j]? = some (vp_cell cy z) := fun j hj => by
    have := Jvm.Free.Multi.fill_inner (T.setVm vm₁) cA cy n.toNatClampNeg k.toNatClampNeg (defaultValue ty) n.toNatClampNeg j hj
    rw [hF, hTh, hz] at this
    exact this
  have hout : Jvm.Free.Multi.outerC cA n.toNatClampNeg H.size n.toNatClampNeg = vp_cell cA (n.toNatClampNeg, .inr (.inr (.inr (.inr (fun i => if i < n.toNatClampNeg then some (H.size + 1 + i) else none))))) := by
    rw [vp_cell_q]
    exact vr_outer cA n.toNatClampNeg H.size n.toNatClampNeg
  rw [hout] at f2
  have hlt : ∀ a, a ∈ L → a < H.size := fun a ha => by
    obtain ⟨k9, hk9⟩ := va_pl_get (X := X) (f := f) ha
    exact (hP k9 _ hk9).lt
  have hnl : ∀ i : Nat, i < n.toNatClampNeg → H.size + 1 + i ∉ L := fun i _ h => by
    have := hlt _ h
    omega
  have hnm : ∀ a, a ∈ (List.range n.toNatClampNeg).map (fun i => H.size + 1 + i) → a ∉ L := fun a ha h => by
    obtain ⟨i, -, rfl⟩ := List.mem_map.mp ha
    have := hlt _ h
    omega
  have hP0 : va_P D cl (X ++ va_pl L f) F.heap := hP.kept (fun k9 x hx => hold x.1 ((hP k9 x hx).lt))
  have hP1 : va_P D cl ((X ++ va_pl L f) ++ [(H.size, .inl (cA, n.toNatClampNeg, .inr (.inr (.inr (.inr (fun i => if i < n.toNatClampNeg then some (H.size + 1 + i) else none))))))]) F.heap := hP0.app (fun k9 x hx => by
    have h0 : k9 < 1 := (List.getElem?_eq_some_iff.mp hx).1
    rw [show k9 = 0 by omega] at hx
    cases hx
    exact f2)
  have hP2 : va_P D cl (((X ++ va_pl L f) ++ [(H.size, .inl (cA, n.toNatClampNeg, .inr (.inr (.inr (.inr (fun i => if i < n.toNatClampNeg then some (H.size + 1 + i) else none))))))]) ++ ((List.range n.toNatClampNeg).map (fun i => H.size + 1 + i)).map (fun a => (a, .inl (cy, z)))) F.heap := hP1.app (fun k9 x hx => by
    obtain ⟨a, ha, rfl⟩ := List.mem_map.mp (List.mem_of_getElem? hx)
    obtain ⟨i, hi, rfl⟩ := List.mem_map.mp ha
    exact hrow i (List.mem_range.mp hi))
  have hD2 : va_D A (((X ++ va_pl L f) ++ [(H.size, .inl (cA, n.toNatClampNeg, .inr (.inr (.inr (.inr (fun i => if i < n.toNatClampNeg then some (H.size + 1 + i) else none))))))]) ++ ((List.range n.toNatClampNeg).map (fun i => H.size + 1 + i)).map (fun a => (a, .inl (cy, z)))) := by
    have hD1 := hD.push (e := .inl (cA, n.toNatClampNeg, .inr (.inr (.inr (.inr (fun i => if i < n.toNatClampNeg then some (H.size + 1 + i) else none)))))) hP rfl (hA _ hS.1)
    generalize hW1 : (X ++ va_pl L f) ++ [(H.size, .inl (cA, n.toNatClampNeg, .inr (.inr (.inr (.inr (fun i => if i < n.toNatClampNeg then some (H.size + 1 + i) else none))))))] = W1 at hD1 hP1 ⊢
    have hle : ∀ (k9 : Nat) (x : Nat × va_E), W1[k9]? = some x → x.1 ≤ H.size := fun k9 x hx => by
      rw [← hW1] at hx
      by_cases hl : k9 < (X ++ va_pl L f).length
      · rw [List.getElem?_append_left hl] at hx
        exact Nat.le_of_lt ((hP k9 x hx).lt)
      · rw [List.getElem?_append_right (by omega)] at hx
        have h0 : k9 - (X ++ va_pl L f).length < 1 := (List.getElem?_eq_some_iff.mp hx).1
        rw [show k9 - (X ++ va_pl L f).length = 0 by omega] at hx
        cases hx
        exact Nat.le_refl _
    have hr : ∀ (k9 : Nat) (x : Nat × va_E), (((List.range n.toNatClampNeg).map (fun i => H.size + 1 + i)).map (fun a => ((a, .inl (cy, z)) : Nat × va_E)))[k9]? = some x → x.1 = H.size + 1 + k9 := fun k9 x hx => by
      rw [List.getElem?_map, List.getElem?_map] at hx
      by_cases h9 : k9 < n.toNatClampNeg
      · rw [List.getElem?_range h9] at hx
        cases hx
        rfl
      · have hn0 : (List.range n.toNatClampNeg)[k9]? = none := List.getElem?_eq_none (by rw [List.length_range]; omega)
        rw [hn0] at hx
        cases hx
    refine ⟨fun i j x y hi hj hxy => ?_, fun k9 x hx => ?_⟩
    · by_cases h1 : i < W1.length <;> by_cases h2 : j < W1.length
      · rw [List.getElem?_append_left h1] at hi
        rw [List.getElem?_append_left h2] at hj
        exact hD1.1 i j x y hi hj hxy
      · rw [List.getElem?_append_left h1] at hi
        rw [List.getElem?_append_right (by omega)] at hj
        have := hle _ _ hi
        have := hr _ _ hj
        omega
      · rw [List.getElem?_append_right (by omega)] at hi
        rw [List.getElem?_append_left h2] at hj
        have := hle _ _ hj
        have := hr _ _ hi
        omega
      · rw [List.getElem?_append_right (by omega)] at hi hj
        have := hr _ _ hi
        have := hr _ _ hj
        omega
    · by_cases h1 : k9 < W1.length
      · rw [List.getElem?_append_left h1] at hx
        exact hD1.2 k9 x hx
      · rw [List.getElem?_append_right (by omega)] at hx
        have := hr _ _ hx
        exact hA _ (by have := hS.1; omega)
  have hAr : ArrOfT s cA (.array ty) := fun N9 z9 => by
    obtain ⟨-, k9, hk9, cm9, hkk9⟩ := (hO 0 0 0).1
    exact ⟨(fun q hq => by cases hq), k9, hk9, cm9, hkk9⟩
  have hK2 : va_K D cl (tys ++ [(cA, .array ty)]) s := ⟨hK.1, fun k9 x hx => by
    by_cases hl : k9 < tys.length
    · rw [List.getElem?_append_left hl] at hx
      exact hK.2 k9 x hx
    · rw [List.getElem?_append_right (by omega)] at hx
      have h0 : k9 - tys.length < 1 := (List.getElem?_eq_some_iff.mp hx).1
      rw [show k9 - tys.length = 0 by omega] at hx
      cases hx
      exact ⟨hAr, fA⟩⟩
  obtain ⟨t, a1, b1⟩ := kk H.size (fun i => H.size + 1 + i) cA F.heap (fun i j _ _ h => by have h9 : H.size + 1 + i = H.size + 1 + j := h; omega) hnl hK2 (by rw [← vr_rows hnm]; exact vr_lay hP2) (by rw [← vr_rows hnm]; exact vr_layD hD2) ⟨by rw [f1]; have := hS.1; omega, fun x h1 h2 => (hold x (Nat.lt_of_lt_of_le h1 hS.1)).trans (hS.2.1 x h1 h2), hS.2.2⟩ F rfl X'
  refine ⟨t, step t ?_, b1⟩
  have e : T.heap.size = H.size := by rw [hT]
  rw [e]
  exact a1
end VGM
/-! ===== END ===== -/
theorem zz_swapP {D : va_G} {cl : List vw_C} {X Y : va_W} {H : Heap} {a : Nat} {e e' : va_E} (hP : va_P D cl ((X ++ [(a, e)]) ++ Y) H) (he : va_P D cl [(a, e')] H) : va_P D cl ((X ++ [(a, e')]) ++ Y) H := by
  intro k q hk
  by_cases hl : k < X.length
  · rw [List.getElem?_append_left (by simp; omega), List.getElem?_append_left hl] at hk
    exact hP k q (by rw [List.getElem?_append_left (by simp; omega), List.getElem?_append_left hl]; exact hk)
  · by_cases h2 : k = X.length
    · subst h2
      have : q = (a, e') := by simp at hk; exact hk.symm
      rw [this]
      exact he 0 (a, e') rfl
    · rw [List.getElem?_append_right (by simp; omega)] at hk
      exact hP k q (by rw [List.getElem?_append_right (by simp; omega)]; simpa using hk)
theorem zz_swapD {X Y : va_W} {A : Nat → Prop} {a : Nat} {e e' : va_E} (hD : va_D A ((X ++ [(a, e)]) ++ Y)) : va_D A ((X ++ [(a, e')]) ++ Y) := by
  have key : ∀ (k : Nat) (q : Nat × va_E), ((X ++ [(a, e')]) ++ Y)[k]? = some q → ∃ q', ((X ++ [(a, e)]) ++ Y)[k]? = some q' ∧ q'.1 = q.1 := by
    intro k q hk
    have h : (((X ++ [(a, e')]) ++ Y).map Prod.fst)[k]? = (((X ++ [(a, e)]) ++ Y).map Prod.fst)[k]? := by simp
    rw [List.getElem?_map, List.getElem?_map, hk] at h
    cases hq : ((X ++ [(a, e)]) ++ Y)[k]? with
    | none => rw [hq] at h; cases h
    | some q' => rw [hq] at h; exact ⟨q', rfl, (Option.some.inj h).symm⟩
  refine ⟨fun i j p q hi hj hpq => ?_, fun k q hk => ?_⟩
  · obtain ⟨p', h1, h2⟩ := key i p hi
    obtain ⟨q', h3, h4⟩ := key j q hj
    exact hD.1 i j p' q' h1 h3 (by rw [h2, h4]; exact hpq)
  · obtain ⟨q', h1, h2⟩ := key k q hk
    rw [← h2]; exact hD.2 k q' h1
theorem va_pl_up {l : List Nat} {f : Nat → va_E} {e : va_E} : va_pl ([] ++ l) (vr_up f l e) = l.map (fun a => (a, e)) := by
  unfold va_pl
  rw [List.nil_append]
  exact List.map_congr_left (fun a ha => by rw [vr_up_in ha])
theorem qcell_eq (cA : ClassId) (N : Nat) (r : Nat → Nat) : vp_cell cA (N, .inr (.inr (.inr (.inr (fun i => if i < N then some (r i) else none))))) = vp_cell cA (N, .inr (.inr (.inr (.inr (fun j : Nat => some (r (j : Int).toNat)))))) := by
  rw [vp_cell_q, vp_cell_q]
  unfold arrV
  congr 2
  funext j
  show va_rf (if j.val < N then some (r j.val) else none) = va_rf (some (r ((j.val : Nat) : Int).toNat))
  rw [if_pos j.isLt, Int.toNat_natCast]
section ZN
variable {p : Program} {l : Launch} {e : Env} {R : Room} {s : State} {m : MethodId} {args : Array Value} {below : List Frame} {meth : Method} {c : Code} {z : zC} {A : Nat → Prop} {nL : Nat} {Q : State → Prop} {cells slots : Nat} {cc : ByteArray} {own : String} {ws : va_W} {ls : List (Nat × Value)} {st : List Value} {pc : Nat} {post : Option Value → va_W → Prop}
theorem zz_newI (C : zzFix p s m args meth c z A nL cc own) {n : Int} {N : Nat} (hn : n = (N : Int)) (hN : N ≤ 1000000) (hq : Cond.arrayClass .int ∈ lwG) (hc : cells + 1 ≤ R.cells ∧ slots + N ≤ R.slots) (d : decode cc pc = .ok (.newarray .int, 2)) (kk : ∀ q : Nat, zzW p l e R s m args below meth c z A nL Q (cells + 1) (slots + N) (ws ++ [(q, irow N (z.2.1 1) (fun _ => 0))]) ls (.ref q :: st) (pc + 2)) : zzW p l e R s m args below meth c z A nL Q (cells) (slots) (ws) ls (.int (iI n) :: st) (pc) := by
  intro H locs arr hP hD hS hl
  have hr : rI n := ⟨by omega, by omega⟩
  have h1 : ¬ iI n < 0 := fun h => by have := (iI_lt hr (b := 0) (by unfold rI; omega)).mp h; omega
  have h2 : (iI n).toNatClampNeg = N := by show (iI n).toInt.toNat = N; rw [iI_toInt hr]; omega
  refine va_newa (D := z.1) (atype := .int) C.1.1 C.1.2.1 (C.1.2.2.2.2 _ hq) (ty := .int) rfl C.2.1 hP hD hS C.2.2.1 (a0 := (N, .inl (fun _ : Nat => iI 0))) (fun cA => rfl) h1 h2 (by show N * 4 ≤ _; omega) hc.1 hc.2 d ?_
  intro q cA H1 hK1 hP1 hD1 hS1
  have e1 : s.vm.findClass ("[" ++ FieldType.toString .int) = some cA := (hK1.2 4 (cA, .int) rfl).2
  have e2 : s.vm.findClass ("[" ++ FieldType.toString .int) = some (z.2.1 1) := (C.2.1.2 1 (z.2.1 1, .int) rfl).2
  have e3 : cA = z.2.1 1 := Option.some.inj (e1.symm.trans e2)
  subst e3
  exact kk q H1 locs arr hP1 hD1 hS1 hl
theorem zz_newL (C : zzFix p s m args meth c z A nL cc own) {n : Int} {N : Nat} (hn : n = (N : Int)) (hN : N ≤ 1000000) (hq : Cond.arrayClass .long ∈ lwG) (hc : cells + 1 ≤ R.cells ∧ slots + N ≤ R.slots) (d : decode cc pc = .ok (.newarray .long, 2)) (kk : ∀ q : Nat, zzW p l e R s m args below meth c z A nL Q (cells + 1) (slots + N) (ws ++ [(q, lrow N (z.2.1 2) (fun _ => 0))]) ls (.ref q :: st) (pc + 2)) : zzW p l e R s m args below meth c z A nL Q (cells) (slots) (ws) ls (.int (iI n) :: st) (pc) := by
  intro H locs arr hP hD hS hl
  have hr : rI n := ⟨by omega, by omega⟩
  have h1 : ¬ iI n < 0 := fun h => by have := (iI_lt hr (b := 0) (by unfold rI; omega)).mp h; omega
  have h2 : (iI n).toNatClampNeg = N := by show (iI n).toInt.toNat = N; rw [iI_toInt hr]; omega
  refine va_newa (D := z.1) (atype := .long) C.1.1 C.1.2.1 (C.1.2.2.2.2 _ hq) (ty := .long) rfl C.2.1 hP hD hS C.2.2.1 (a0 := (N, .inr (.inl (fun _ : Nat => iL 0)))) (fun cA => rfl) h1 h2 (by show N * 8 ≤ _; omega) hc.1 hc.2 d ?_
  intro q cA H1 hK1 hP1 hD1 hS1
  have e1 : s.vm.findClass ("[" ++ FieldType.toString .long) = some cA := (hK1.2 4 (cA, .long) rfl).2
  have e2 : s.vm.findClass ("[" ++ FieldType.toString .long) = some (z.2.1 2) := (C.2.1.2 2 (z.2.1 2, .long) rfl).2
  have e3 : cA = z.2.1 2 := Option.some.inj (e1.symm.trans e2)
  subst e3
  exact kk q H1 locs arr hP1 hD1 hS1 hl
theorem zz_newB (C : zzFix p s m args meth c z A nL cc own) {n : Int} {N : Nat} (hn : n = (N : Int)) (hN : N ≤ 1000000) (hq : Cond.arrayClass .byte ∈ lwG) (hc : cells + 1 ≤ R.cells ∧ slots + N ≤ R.slots) (d : decode cc pc = .ok (.newarray .byte, 2)) (kk : ∀ q : Nat, zzW p l e R s m args below meth c z A nL Q (cells + 1) (slots + N) (ws ++ [(q, brow N (z.2.1 0) (fun _ => 0))]) ls (.ref q :: st) (pc + 2)) : zzW p l e R s m args below meth c z A nL Q (cells) (slots) (ws) ls (.int (iI n) :: st) (pc) := by
  intro H locs arr hP hD hS hl
  have hr : rI n := ⟨by omega, by omega⟩
  have h1 : ¬ iI n < 0 := fun h => by have := (iI_lt hr (b := 0) (by unfold rI; omega)).mp h; omega
  have h2 : (iI n).toNatClampNeg = N := by show (iI n).toInt.toNat = N; rw [iI_toInt hr]; omega
  refine va_newa (D := z.1) (atype := .byte) C.1.1 C.1.2.1 (C.1.2.2.2.2 _ hq) (ty := .byte) rfl C.2.1 hP hD hS C.2.2.1 (a0 := (N, .inl (fun _ : Nat => iI (sb 0)))) (fun cA => rfl) h1 h2 (by show N * 1 ≤ _; omega) hc.1 hc.2 d ?_
  intro q cA H1 hK1 hP1 hD1 hS1
  have e1 : s.vm.findClass ("[" ++ FieldType.toString .byte) = some cA := (hK1.2 4 (cA, .byte) rfl).2
  have e2 : s.vm.findClass ("[" ++ FieldType.toString .byte) = some (z.2.1 0) := (C.2.1.2 0 (z.2.1 0, .byte) rfl).2
  have e3 : cA = z.2.1 0 := Option.some.inj (e1.symm.trans e2)
  subst e3
  exact kk q H1 locs arr hP1 hD1 hS1 hl
theorem zz_mna (C : zzFix p s m args meth c z A nL cc own) (hAO : va_AOA .long s) {n k : Int} {N K index : Nat} (hn : n = (N : Int)) (hk : k = (K : Int)) (hN : N ≤ 1000) (hK : K ≤ 1000) (hq : Cond.classLink own index "[[J" ∈ lwG) (hq2 : Cond.arrayClass .long ∈ lwG) (hc : cells + (1 + N) ≤ R.cells ∧ slots + (N + N * K) ≤ R.slots) (d : decode cc pc = .ok (.multianewarray index 2, 4)) (kk : ∀ (q : Nat) (r : Int → Nat), zzW p l e R s m args below meth c z A nL Q (cells + (1 + N)) (slots + (N + N * K)) ((ws ++ [(q, qrow N (z.2.1 3) r)]) ++ (List.range N).map (fun i : Nat => (r (i : Int), lrow K (z.2.1 2) (fun _ => 0)))) ls (.ref q :: st) (pc + 4)) : zzW p l e R s m args below meth c z A nL Q (cells) (slots) (ws) ls (.int (iI k) :: .int (iI n) :: st) (pc) := by
  intro H locs arr hP hD hS hl
  have hr : rI n := ⟨by omega, by omega⟩
  have hrk : rI k := ⟨by omega, by omega⟩
  have e2 : s.vm.findClass ("[" ++ FieldType.toString .long) = some (z.2.1 2) := (C.2.1.2 2 (z.2.1 2, .long) rfl).2
  have e4 : s.vm.findClass ("[" ++ FieldType.toString (.array .long)) = some (z.2.1 3) := (C.2.1.2 3 (z.2.1 3, .array .long) rfl).2
  have hPn : va_P z.1 vwCl (ws ++ va_pl [] (fun _ => lrow 0 (z.2.1 2) (fun _ => 0))) H := by show va_P z.1 vwCl (ws ++ []) H; rw [List.append_nil]; exact hP
  have hDn : va_D A (ws ++ va_pl [] (fun _ => lrow 0 (z.2.1 2) (fun _ => 0))) := by show va_D A (ws ++ []); rw [List.append_nil]; exact hD
  refine va_mna (D := z.1) (X := ws) (L := []) (f := fun _ => lrow 0 (z.2.1 2) (fun _ => 0)) (ty := .long) (cy := z.2.1 2) (N' := N) (K' := K) (z := (K, .inr (.inl (fun _ : Nat => iL 0)))) C.1.1 C.1.2.1 C.1.2.2.2.1 (C.1.2.2.2.2 _ hq) hAO (C.1.2.2.2.2 _ hq2) e2 C.2.1 hPn hDn hS C.2.2.1 (fun h => by have := (iI_lt hr (b := 0) (by unfold rI; omega)).mp h; omega) (fun h => by have := (iI_lt hrk (b := 0) (by unfold rI; omega)).mp h; omega) (by show (iI n).toInt.toNat = N; rw [iI_toInt hr]; omega) (by show (iI k).toInt.toNat = K; rw [iI_toInt hrk]; omega) (by omega) (by show K * 8 ≤ _; omega) (by omega) rfl rfl hc.1 hc.2 (fun c => arrV_new c K (.long (iL 0))) d ?_
  intro q r cA H1 hinj hnot hK1 hP1 hD1 hS1
  have e1 : s.vm.findClass ("[" ++ FieldType.toString (.array .long)) = some cA := (hK1.2 4 (cA, .array .long) rfl).2
  have e3 : cA = z.2.1 3 := Option.some.inj (e1.symm.trans e4)
  subst e3
  rw [va_pl_up, List.map_map] at hP1 hD1
  have hq1 : va_P z.1 vwCl [(q, qrow N (z.2.1 3) (fun i : Int => r i.toNat))] H1 := by
    intro j x hx
    have h0 := hP1 ws.length (q, .inl (z.2.1 3, N, .inr (.inr (.inr (.inr (fun i => if i < N then some (r i) else none)))))) (by simp)
    have hj : j = 0 := by
      have := (List.getElem?_eq_some_iff.mp hx).1
      simp at this; exact this
    subst hj
    cases hx
    show H1[q]? = some (vp_cell _ _)
    have h0' : H1[q]? = some (vp_cell (z.2.1 3) (N, .inr (.inr (.inr (.inr (fun i => if i < N then some (r i) else none)))))) := h0
    rw [h0', qcell_eq]
  have hP2 := zz_swapP hP1 hq1
  have hD2 := zz_swapD (e' := qrow N (z.2.1 3) (fun i : Int => r i.toNat)) hD1
  have hz : (List.range N).map ((fun a => (a, (.inl (z.2.1 2, K, .inr (.inl (fun _ : Nat => iL 0))) : va_E))) ∘ r) = (List.range N).map (fun i : Nat => ((fun i : Int => r i.toNat) (i : Int), lrow K (z.2.1 2) (fun _ => 0))) := List.map_congr_left (fun i _ => by show (r i, _) = (r (i : Int).toNat, _); rw [Int.toNat_natCast]; rfl)
  rw [hz] at hP2 hD2
  have hs : slots + N + N * K = slots + (N + N * K) := by omega
  have hs1 : cells + 1 + N = cells + (1 + N) := by omega
  rw [hs, hs1]
  exact kk q (fun i : Int => r i.toNat) H1 locs arr hP2 hD2 hS1 hl
theorem zz_new (C : zzFix p s m args meth c z A nL cc own) {Cn : String} {T : u_T} {N ci index : Nat} {fs : List Value} (hc : vwCl[ci]? = some (Cn, T, N)) (hin : ∀ w ∈ u_ws Cn T N, w ∈ lwG) (ty : Nat → FieldType) (hty : ∀ k, k < N → parseFieldDescriptor (T k).2.2.1 = some (ty k)) (h1 : Cond.classLink own index Cn ∈ lwG) (h2 : Cond.instantiable Cn N ∈ lwG) (h3 : Cond.initialized Cn ∈ lwG) (hfs : ∀ j, j < N → defaultValue (ty j) = vp_V fs j) (hr : cells + 1 ≤ R.cells ∧ slots + N ≤ R.slots) (d : decode cc pc = .ok (.new index, 3)) (kk : ∀ q : Nat, zzW p l e R s m args below meth c z A nL Q (cells + 1) (slots + N) (ws ++ [(q, .inr (ci, fs))]) ls (.ref q :: st) (pc + 3)) : zzW p l e R s m args below meth c z A nL Q (cells) (slots) (ws) ls (st) (pc) :=
  fun H locs arr hP hD hS hl => va_new (D := z.1) C.1.1 C.1.2.1 C.1.2.2.2.2 hin ty hty C.1.2.2.2.1 (C.1.2.2.2.2 _ h1) (C.1.2.2.2.2 _ h2) (C.1.2.2.2.2 _ h3) C.2.1 hP hD hS C.2.2.1 hc hfs hr.1 hr.2 d (fun q H1 hP1 hD1 hS1 => kk q H1 locs arr hP1 hD1 hS1 hl)
end ZN
def zIn2 (z : zC) (ws : va_W) (sz : Nat) (U : State) : Prop := zIn z ws sz U ∧ va_AOA .long U
def zzMet2 (l : Launch) (y : MethodName) (cc : ByteArray) (nL : Nat) (ret : Option FieldType) (rm : Room) (z : zC) (as : List Value) (ws : va_W) (post : Option Value → va_W → Prop) : Prop :=
  ∀ sz : Nat, Met l y (Cond.code y cc nL ret :: lwG) rm (va_Pc as (zIn2 z ws sz)) (zQ z (va_A ws sz) post) rm.cells rm.slots (va_A ws sz)
theorem zIn2_blind (z : zC) (as : List Value) (ws : va_W) (sz : Nat) : FrameBlind (va_Pc as (zIn2 z ws sz)) := fun a U g mk q => by
  obtain ⟨q0, q1, q2⟩ := q
  exact ⟨q0, ((zIn_blind z as ws sz) a U g mk ⟨q0, q1⟩).2, zAO_same (u := U) (U := U.calling g mk a) rfl q2⟩
theorem zzMet2.of {l : Launch} {y : MethodName} {cc : ByteArray} {nL : Nat} {ret : Option FieldType} {rm : Room} {z : zC} {as : List Value} {ws : va_W} {post : Option Value → va_W → Prop} {own : String} {ls0 : List (Nat × Value)} (hy : plainName y.cls = true) (ho : y.cls = own) (hlen : (lg_sl as).length ≤ nL) (hls : lv_args 0 as = ls0)
    (body : ∀ (p : Program) (e : Env) (s : State) (m : MethodId) (below : List Frame) (meth : Method) (c : Code) (A : Nat → Prop), zzFix p s m as.toArray meth c z A nL cc own → meth.sig.returnType = ret → meth.name = y.name → va_AOA .long s → zzW p l e rm s m as.toArray below meth c z A nL (MQ below (zQ z A post) as.toArray s rm.cells rm.slots A) 0 0 ws ls0 [] 0) : zzMet2 l y cc nL ret rm z as ws post := by
  intro sz
  refine Met.ofW (cc := cc) (maxL := nL) (ret := ret) hy rfl ?_
  intro p e s m args below meth c s₁ B hml hv
  obtain ⟨rfl, ⟨hsz, hP, hK, hD0, hG⟩, hAO⟩ := hv
  subst hsz
  have hts := atoms_spec (ws := Cond.code y cc nL ret :: lwG) B.pre
  have hown : s.vm.findClass y.cls = some m.cls := findClass_of_methodNamed B.named
  rw [ho] at hown
  have hD := hD0.self (sz := s.heap.size)
  have hl := lv_entry as (n := nL) hlen
  rw [hls] at hl
  rw [lg_entry_eq]
  exact body p e s m below meth c (va_A ws s.heap.size) ⟨⟨B.exec, B.bytes, hml, hown, fun w h => hts w (List.mem_cons_of_mem _ h)⟩, hK, fun q h => Or.inr h, hG, B.notSynchronized⟩ B.returns (name_of_methodNamed B.named B.method).1 hAO s.heap [] _ hP hD va_S.rf hl
section ZN2
variable {p : Program} {l : Launch} {e : Env} {R : Room} {s : State} {m : MethodId} {args : Array Value} {below : List Frame} {meth : Method} {c : Code} {z : zC} {A : Nat → Prop} {nL : Nat} {Q : State → Prop} {cells slots : Nat} {cc : ByteArray} {own : String} {ws : va_W} {ls : List (Nat × Value)} {st : List Value} {pc : Nat} {post : Option Value → va_W → Prop}
theorem zz_callI2 (C : zzFix p s m args meth c z A nL cc own) {y : MethodName} {cc' : ByteArray} {nL' : Nat} {rm : Room} {wc wr : va_W} {b n index : Nat} {host : String} {As st0 : List Value} (hAO : va_AOA .long s) (hM : zzMet2 l y cc' nL' none rm z (.ref b :: As) wc post) (hy : zYI y cc' nL' n) (hq : Cond.methodLink own index y ∈ lwG ∨ Cond.methodLinkNest own index y host ∈ zNests) (hR : rm.frames + 1 ≤ R.frames ∧ 8 + (nL' + 11) + rm.locals ≤ R.locals)
    (isC isR : List Nat) (hC : isC.map (fun i => ws[i]?) = wc.map some) (hRr : isR.map (fun i => ws[i]?) = wr.map some) (hnC : va_nd isC = true) (hn : va_nd isR = true) (hdis : ∀ i ∈ isR, i ∉ isC) (hlen : As.length = n) (hst : st0 = As.reverse ++ .ref b :: st) (hW : (st.map fun v => v.category).sum ≤ 8) (d : decode cc pc = .ok (.invokespecial index, 3)) (hf : cells + rm.cells ≤ R.cells ∧ slots + rm.slots ≤ R.slots)
    (kk : ∀ (v : Option Value) (w : va_W), post v w → zzW p l e R s m args below meth c z A nL Q (cells + rm.cells) (slots + rm.slots) (wr ++ w) ls (v.toList ++ st) (pc + 3)) : zzW p l e R s m args below meth c z A nL Q cells slots ws ls st0 pc := by
  intro H locs arr hP hD hS hl
  obtain ⟨hPc, hpre⟩ := zz_pre C (as := .ref b :: As) hP hD hS isC hC hnC
  have hG : GoodIn lwG (Cond.code y cc' nL' none :: lwG) := fun w hw => by
    have : w ∈ lwG := by
      rcases List.mem_cons.mp hw with rfl | h
      · exact hy.2.2.1
      · exact h
    exact ⟨this, lwG_good this⟩
  have hts := C.1.2.2.2.2
  have hpre2 : ∀ U : State, U.heap = H → s.WarmedH U.vm → va_Pc (.ref b :: As) (zIn2 z wc H.size) (.ref b :: As).toArray U := fun U hU hW => ⟨(hpre U hU hW).1, (hpre U hU hW).2, zAO_warm hW hAO⟩
  rcases hq with hq | hq
  · exact zz_run C (as := .ref b :: As) (rm := rm) hP hD hS hl (va_runI C.1 (hM H.size) (cwI n hts hG rfl rfl rfl (hts _ hy.2.1) (hts _ hq) (hts _ hy.1) hy.2.2.2.1 hy.2.2.2.2 hR) ⟨zIn2_blind z _ wc H.size, hpre2⟩ rfl hlen hl.1 hst (lv_room hW) d hf) isC isR hC hRr hn hdis kk
  · exact zz_run C (as := .ref b :: As) (rm := rm) hP hD hS hl (va_runIN C.1 (hM H.size) ⟨va_cnB n hts hG rfl rfl rfl (C.2.2.2.1.2.2.2.2.1 _ hq) (hts _ hy.2.1) hy.2.2.2.2 hR, hy.2.2.2.1, hts _ hy.1⟩ ⟨zIn2_blind z _ wc H.size, hpre2⟩ rfl hlen hl.1 hst (lv_room hW) d hf) isC isR hC hRr hn hdis kk
end ZN2
