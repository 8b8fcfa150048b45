section ZRAW
variable {p : Program} {l : Launch} {e : Env} {R : Room} {s : State} {m : MethodId} {args : Array Value} {below : List Frame} {meth : Method} {c : Code} {z : zC} {A : Nat → Prop} {nL : Nat} {Q : State → Prop} {cells slots : Nat} {cc : ByteArray} {own : String} {ws : va_W} {ls : List (Nat × Value)} {st : List Value} {pc : Nat}
theorem zz_iaddR (C : zzFix p s m args meth c z A nL cc own) {x y : Int32} (d : decode cc pc = .ok (.iadd, 1)) (k : zzW p l e R s m args below meth c z A nL Q cells slots ws ls (.int (x + y) :: st) (pc + 1)) : zzW p l e R s m args below meth c z A nL Q cells slots ws ls (.int y :: .int x :: st) pc :=
  fun H locs arr hP hD hS hl => lv_iadd C.1.1 C.1.2.1 d (k H locs arr hP hD hS hl)
theorem zz_isubR (C : zzFix p s m args meth c z A nL cc own) {x y : Int32} (d : decode cc pc = .ok (.isub, 1)) (k : zzW p l e R s m args below meth c z A nL Q cells slots ws ls (.int (x - y) :: st) (pc + 1)) : zzW p l e R s m args below meth c z A nL Q cells slots ws ls (.int y :: .int x :: st) pc :=
  fun H locs arr hP hD hS hl => lv_isub C.1.1 C.1.2.1 d (k H locs arr hP hD hS hl)
theorem zz_iandR (C : zzFix p s m args meth c z A nL cc own) {x y : Int32} (d : decode cc pc = .ok (.iand, 1)) (k : zzW p l e R s m args below meth c z A nL Q cells slots ws ls (.int (x &&& y) :: st) (pc + 1)) : zzW p l e R s m args below meth c z A nL Q cells slots ws ls (.int y :: .int x :: st) pc :=
  fun H locs arr hP hD hS hl => lv_iand C.1.1 C.1.2.1 d (k H locs arr hP hD hS hl)
def ushr9 (x y : Int32) : Int32 := (x.toUInt32 >>> (y.toUInt32 &&& Int32.toUInt32 31)).toInt32
theorem zz_iushrR (C : zzFix p s m args meth c z A nL cc own) {x y : Int32} (d : decode cc pc = .ok (.iushr, 1)) (k : zzW p l e R s m args below meth c z A nL Q cells slots ws ls (.int (ushr9 x y) :: st) (pc + 1)) : zzW p l e R s m args below meth c z A nL Q cells slots ws ls (.int y :: .int x :: st) pc :=
  fun H locs arr hP hD hS hl => lv_iushr C.1.1 C.1.2.1 d rfl (k H locs arr hP hD hS hl)
theorem zz_ldcw (C : zzFix p s m args meth c z A nL cc own) {v : Int32} {index : Nat} (hq : Cond.constant own index v ∈ lwG) (d : decode cc pc = .ok (.ldc_w index, 3)) (k : zzW p l e R s m args below meth c z A nL Q cells slots ws ls (.int v :: st) (pc + 3)) : zzW p l e R s m args below meth c z A nL Q cells slots ws ls st pc :=
  fun H locs arr hP hD hS hl => lv_ldcw C.1.1 C.1.2.1 C.1.2.2.2.1 (C.1.2.2.2.2 _ hq) d (k H locs arr hP hD hS hl)
end ZRAW
def bitC (m8 : Int) : Int32 :=
  let x1 : Int32 := (iI m8) - ((ushr9 (iI m8) (iI 1)) &&& (1431655765))
  let x2 : Int32 := ((x1) &&& (858993459)) + ((ushr9 (x1) (iI 2)) &&& (858993459))
  let x3 : Int32 := ((x2) + (ushr9 (x2) (iI 4))) &&& (252645135)
  let x4 : Int32 := (x3) + (ushr9 (x3) (iI 8))
  let x5 : Int32 := (x4) + (ushr9 (x4) (iI 16))
  (x5) &&& (iI 63)
set_option maxRecDepth 100000 in
theorem bitC_eq {m : Int} (h : 0 ≤ m ∧ m < 1024) : bitC m = iI (cntB m 10) := by
  have : ∀ j : Fin 1024, bitC (j.val : Int) = iI (cntB (j.val : Int) 10) := by decide +kernel
  have h2 := this ⟨m.toNat, by omega⟩
  rw [show ((m.toNat : Nat) : Int) = m from Int.toNat_of_nonneg h.1] at h2
  exact h2
abbrev po_J6_bitCount_0f7a4 (z : zC) (m8 : Int) : Option Value → va_W → Prop := fun v w => v = some (Value.int (iI (cntB m8 10))) ∧ w = ([] : va_W)
abbrev rm_J6_bitCount_0f7a4 : Room := { frames := 1, cells := 0, slots := 0, locals := 40 }
set_option maxHeartbeats 4000000 in
set_option maxRecDepth 100000 in
theorem cc_J6_bitCount_0f7a4 (l : Launch) (z : zC) (m8 : Int) (hm8 : 0 ≤ m8 ∧ m8 < 1024) : zzMet l yJ6_bitCount_0f7a4 cJ6_bitCount_0f7a4 1 (Option.some .int) rm_J6_bitCount_0f7a4 z [.int (iI m8)] (([] : va_W)) (po_J6_bitCount_0f7a4 z m8) := by
  refine zzMet.of (own := RJ6) (ls0 := [(0, .int (iI m8))]) (by decide) rfl (Nat.le_of_ble_eq_true rfl) rfl ?_
  intro p e s m below meth c A C hr hnm
  refine zz_iload_n C 0 dJ6_bitCount_0f7a4_0 rfl rfl ?_
  refine zz_iload_n C 0 dJ6_bitCount_0f7a4_1 rfl rfl ?_
  refine zz_iconst C dJ6_bitCount_0f7a4_2 ?_
  refine zz_iushrR C dJ6_bitCount_0f7a4_3 ?_
  refine zz_ldcw C qw_643 dJ6_bitCount_0f7a4_4 ?_
  refine zz_iandR C dJ6_bitCount_0f7a4_7 ?_
  refine zz_isubR C dJ6_bitCount_0f7a4_8 ?_
  refine zz_istore_n (ls' := [(0, .int _)]) C dJ6_bitCount_0f7a4_9 rfl (by decide) rfl ?_
  refine zz_iload_n C 0 dJ6_bitCount_0f7a4_10 rfl rfl ?_
  refine zz_ldcw C qw_644 dJ6_bitCount_0f7a4_11 ?_
  refine zz_iandR C dJ6_bitCount_0f7a4_14 ?_
  refine zz_iload_n C 0 dJ6_bitCount_0f7a4_15 rfl rfl ?_
  refine zz_iconst C dJ6_bitCount_0f7a4_16 ?_
  refine zz_iushrR C dJ6_bitCount_0f7a4_17 ?_
  refine zz_ldcw C qw_644 dJ6_bitCount_0f7a4_18 ?_
  refine zz_iandR C dJ6_bitCount_0f7a4_21 ?_
  refine zz_iaddR C dJ6_bitCount_0f7a4_22 ?_
  refine zz_istore_n (ls' := [(0, .int _)]) C dJ6_bitCount_0f7a4_23 rfl (by decide) rfl ?_
  refine zz_iload_n C 0 dJ6_bitCount_0f7a4_24 rfl rfl ?_
  refine zz_iload_n C 0 dJ6_bitCount_0f7a4_25 rfl rfl ?_
  refine zz_iconst C dJ6_bitCount_0f7a4_26 ?_
  refine zz_iushrR C dJ6_bitCount_0f7a4_27 ?_
  refine zz_iaddR C dJ6_bitCount_0f7a4_28 ?_
  refine zz_ldcw C qw_645 dJ6_bitCount_0f7a4_29 ?_
  refine zz_iandR C dJ6_bitCount_0f7a4_32 ?_
  refine zz_istore_n (ls' := [(0, .int _)]) C dJ6_bitCount_0f7a4_33 rfl (by decide) rfl ?_
  refine zz_iload_n C 0 dJ6_bitCount_0f7a4_34 rfl rfl ?_
  refine zz_iload_n C 0 dJ6_bitCount_0f7a4_35 rfl rfl ?_
  refine zz_bipush C dJ6_bitCount_0f7a4_36 (by decide +kernel) ?_
  refine zz_iushrR C dJ6_bitCount_0f7a4_38 ?_
  refine zz_iaddR C dJ6_bitCount_0f7a4_39 ?_
  refine zz_istore_n (ls' := [(0, .int _)]) C dJ6_bitCount_0f7a4_40 rfl (by decide) rfl ?_
  refine zz_iload_n C 0 dJ6_bitCount_0f7a4_41 rfl rfl ?_
  refine zz_iload_n C 0 dJ6_bitCount_0f7a4_42 rfl rfl ?_
  refine zz_bipush C dJ6_bitCount_0f7a4_43 (by decide +kernel) ?_
  refine zz_iushrR C dJ6_bitCount_0f7a4_45 ?_
  refine zz_iaddR C dJ6_bitCount_0f7a4_46 ?_
  refine zz_istore_n (ls' := [(0, .int _)]) C dJ6_bitCount_0f7a4_47 rfl (by decide) rfl ?_
  refine zz_iload_n C 0 dJ6_bitCount_0f7a4_48 rfl rfl ?_
  refine zz_bipush C dJ6_bitCount_0f7a4_49 (by decide +kernel) ?_
  refine zz_iandR C dJ6_bitCount_0f7a4_51 ?_
  exact zz_iret C hr dJ6_bitCount_0f7a4_52 ⟨by rw [← bitC_eq hm8]; rfl, rfl⟩
def cmpZ (a b : Int) : Int := if a < b then -1 else if a = b then 0 else 1
abbrev po_J13_compare_74951 (z : zC) (a8 : Int) (b8 : Int) : Option Value → va_W → Prop := fun v w => v = some (Value.int (iI (cmpZ a8 b8))) ∧ w = ([] : va_W)
abbrev rm_J13_compare_74951 : Room := { frames := 1, cells := 0, slots := 0, locals := 40 }
set_option maxHeartbeats 4000000 in
set_option maxRecDepth 100000 in
theorem cc_J13_compare_74951 (l : Launch) (z : zC) (a8 : Int) (b8 : Int) (ha8 : rL a8) (hb8 : rL b8) : zzMet l yJ13_compare_74951 cJ13_compare_74951 4 (Option.some .int) rm_J13_compare_74951 z [.long (iL a8), .long (iL b8)] (([] : va_W)) (po_J13_compare_74951 z a8 b8) := by
  refine zzMet.of (own := RJ13) (ls0 := [(0, .long (iL a8)), (2, .long (iL b8))]) (by decide) rfl (Nat.le_of_ble_eq_true rfl) rfl ?_
  intro p e s m below meth c A C hr hnm
  refine zz_lload_n C 0 dJ13_compare_74951_0 rfl rfl ?_
  refine zz_lload_n C 1 dJ13_compare_74951_1 rfl rfl ?_
  refine zz_lcmp_ge (tgt := 10) C dJ13_compare_74951_2 dJ13_compare_74951_3 (by decide) ha8 hb8 (fun c2 => ?_) (fun c2 => ?_)
  · skip
    refine zz_lload_n C 0 dJ13_compare_74951_10 rfl rfl ?_
    refine zz_lload_n C 1 dJ13_compare_74951_11 rfl rfl ?_
    refine zz_lcmp_ne (tgt := 20) C dJ13_compare_74951_12 dJ13_compare_74951_13 (by decide) ha8 hb8 (fun c12 => ?_) (fun c12 => ?_)
    · skip
      refine zz_iconst C dJ13_compare_74951_20 ?_
      exact zz_iret C hr dJ13_compare_74951_21 ⟨zz_vI (by unfold cmpZ; (repeat' split) <;> first | rfl | (exfalso; omega)), rfl⟩
    · skip
      refine zz_iconst C dJ13_compare_74951_16 ?_
      refine zz_goto (tgt := 21) C dJ13_compare_74951_17 (by decide) ?_
      exact zz_iret C hr dJ13_compare_74951_21 ⟨zz_vI (by unfold cmpZ; (repeat' split) <;> first | rfl | (exfalso; omega)), rfl⟩
  · skip
    refine zz_iconst C dJ13_compare_74951_6 ?_
    refine zz_goto (tgt := 21) C dJ13_compare_74951_7 (by decide) ?_
    exact zz_iret C hr dJ13_compare_74951_21 ⟨zz_vI (by unfold cmpZ; (repeat' split) <;> first | rfl | (exfalso; omega)), rfl⟩
