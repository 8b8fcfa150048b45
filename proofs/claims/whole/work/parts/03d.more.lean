theorem lw_ac1 : Cond.native arraycopyName ∈ lwG := lwG_t (k := 461) (by decide +kernel) rfl
theorem lw_ac2 : Cond.static arraycopyName ∈ lwG := lwG_t (k := 460) (by decide +kernel) rfl
theorem lw_ac3 : Cond.initialized "java/lang/System" ∈ lwG := lwG_t (k := 12) (by decide +kernel) rfl
theorem lw_mm1 : Cond.static Lib.MathLoose.max_long.x ∈ lwG := lwG_t (k := 774) (by decide +kernel) rfl
theorem lw_mm2 : Cond.initialized "java/lang/Math" ∈ lwG := lwG_t (k := 23) (by decide +kernel) rfl
theorem lw_mm3 : Cond.code Lib.MathLoose.max_long.x Lib.MathLoose.max_long.code 4 (some .long) ∈ lwG := lwG_t (k := 775) (by decide +kernel) rfl
theorem lw_oi1 : Cond.instanceMethod objectInit ∈ lwG := lwG_t (k := 30) (by decide +kernel) rfl
theorem lw_oi2 : Cond.code objectInit ⟨#[0xb1]⟩ 1 none ∈ lwG := lwG_t (k := 31) (by decide +kernel) rfl
def zcpy (f g : Int → Int) (n : Int) : Int → Int := fun j => if j < n then f j else g j
theorem zcpy_cpy {f g : Int → Int} {n : Int} (h : 0 ≤ n) : va_cpy (fun j : Nat => iI (f (j : Int))) (fun j : Nat => iI (g (j : Int))) 0 0 n.toNat = fun j : Nat => iI (zcpy f g n (j : Int)) := by
  funext j
  unfold va_cpy zcpy
  by_cases q : (j : Int) < n
  · rw [if_pos q, if_pos ⟨Nat.zero_le _, by omega⟩]
    simp
  · rw [if_neg q, if_neg (by omega)]
section ZD
variable {p : Program} {l : Launch} {e : Env} {R : Room} {s : State} {m : MethodId} {args : Array Value} {below : List Frame} {meth : Method} {c : Code} {z : zC} {A : Nat → Prop} {nL : Nat} {Q : State → Prop} {cells slots : Nat} {cc : ByteArray} {own : String} {ws : va_W} {ls : List (Nat × Value)} {st : List Value} {pc : Nat}
theorem zz_acopy (C : zzFix p s m args meth c z A nL cc own) (q0 q1 : Nat) {a0 a n0 n1 index : Nat} {f g : Int → Int} {n : Int} {ws' : va_W} (he0 : ws[q0]? = some (a0, irow n0 (z.2.1 1) f)) (he1 : ws[q1]? = some (a, irow n1 (z.2.1 1) g)) (hq : Cond.methodLink own index arraycopyName ∈ lwG) (hN : 0 ≤ n ∧ n < 2147483648) (h4 : n ≤ (n0 : Int)) (h5 : n ≤ (n1 : Int)) (hw : ws.set q1 (a, irow n1 (z.2.1 1) (zcpy f g n)) = ws') (hfr : 1 ≤ R.frames) (hlo : (st.map fun v => v.category).sum + (nativeFrameWords "java/lang/System" "arraycopy" 5 + 11) ≤ R.locals) (d : decode cc pc = .ok (.invokestatic index, 3)) (kk : zzW p l e R s m args below meth c z A nL Q cells slots ws' ls st (pc + 3)) : zzW p l e R s m args below meth c z A nL Q cells slots ws ls (.int (iI n) :: .int (iI 0) :: .ref a :: .int (iI 0) :: .ref a0 :: st) pc := by
  intro H locs arr hP hD hS hl
  have hts := C.1.2.2.2.2
  have hr : rI n := ⟨by omega, hN.2⟩
  have e1 : (iI n).toNatClampNeg = n.toNat := by show (iI n).toInt.toNat = _; rw [iI_toInt hr]
  have e0 : (iI 0).toNatClampNeg = 0 := rfl
  refine va_copyi (D := z.1) (ty := .int) C.1.1 C.1.2.1 (C.1.2.2.1.trans hl.1.symm) C.1.2.2.2.1 (hts _ hq) (hts _ lw_ac1) (hts _ lw_ac2) (hts _ lw_ac3) C.2.1 hP hD hS q0 q1 1 1 he0 he1 rfl rfl rfl (by decide) (by decide) (fun h => by have := (iI_lt hr rI_0).mp h; omega) (by rw [e0, e1]; omega) (by rw [e0, e1]; omega) (fun _ _ => rfl) hfr hlo d (fun H1 locs1 p1 p2 p3 => ?_)
  rw [e0, e1, zcpy_cpy hN.1] at p1 p2
  exact kk H1 locs1 arr (hw ▸ p1) (hw ▸ p2) p3 hl
theorem zz_mmax (C : zzFix p s m args meth c z A nL cc own) {a b : Int} {index : Nat} (hq : Cond.methodLink own index Lib.MathLoose.max_long.x ∈ lwG) (ha : rL a) (hb : rL b) (hfr : 1 ≤ R.frames ∧ (st.map fun v => v.category).sum + 15 ≤ R.locals) (hcs : cells ≤ R.cells ∧ slots ≤ R.slots) (d : decode cc pc = .ok (.invokestatic index, 3)) (kk : zzW p l e R s m args below meth c z A nL Q cells slots ws ls (.long (iL (max a b)) :: st) (pc + 3)) : zzW p l e R s m args below meth c z A nL Q cells slots ws ls (.long (iL b) :: .long (iL a) :: st) pc := by
  intro H locs arr hP hD hS hl
  have hts := C.1.2.2.2.2
  refine va_mmax_long C.1.1 C.1.2.1 (C.1.2.2.1.trans hl.1.symm) C.1.2.2.2.1 (hts _ hq) (hts _ lw_mm1) (hts _ lw_mm2) (hts _ lw_mm3) hfr.1 hfr.2 hcs.1 hcs.2 d ?_
  have h9 : (if iL b < iL a then iL a else iL b) = iL (max a b) := by
    by_cases h : b < a
    · rw [if_pos ((iL_lt hb ha).mpr h), Int.max_eq_left (by omega)]
    · rw [if_neg (fun g => h ((iL_lt hb ha).mp g)), Int.max_eq_right (by omega)]
  rw [h9]
  exact kk H locs arr hP hD hS hl
theorem zz_objInit (C : zzFix p s m args meth c z A nL cc own) {a index : Nat} (hq : Cond.methodLink own index objectInit ∈ lwG) (hfr : 1 ≤ R.frames) (hlo : (st.map fun v => v.category).sum + 12 ≤ R.locals) (d : decode cc pc = .ok (.invokespecial index, 3)) (kk : zzW p l e R s m args below meth c z A nL Q cells slots ws ls st (pc + 3)) : zzW p l e R s m args below meth c z A nL Q cells slots ws ls (.ref a :: st) pc := by
  intro H locs arr hP hD hS hl
  have hts := C.1.2.2.2.2
  refine W.objInit C.1.1 C.1.2.1 C.1.2.2.2.1 (hts _ hq) (hts _ lw_oi1) (hts _ lw_oi2) rfl (hl.1.trans C.1.2.2.1.symm) rfl d hfr (by show 2 * 0 + _ + 12 ≤ _; omega) ?_
  exact W.eq (g2 := F0 m (pc + 3) arr st) rfl (kk H locs arr hP hD hS hl)
end ZD
