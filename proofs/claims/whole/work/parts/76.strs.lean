def kLen (i : Nat) : Int := ((zLenW.getD i 0 : Nat) : Int)
def kCh (i : Nat) (k : Int) : Int := ((zBytW.getD i []).getD k.toNat 0).toInt
theorem kCh_all : ∀ i, i < 5 → ∀ k, k < 5 → (0 ≤ ((zBytW.getD i []).getD k 0).toInt ∧ ((zBytW.getD i []).getD k 0).toInt < 128) := by decide +kernel
theorem kLen_all : ∀ i, i < 5 → 3 ≤ zLenW.getD i 0 ∧ zLenW.getD i 0 ≤ 5 := by decide +kernel
theorem kLen_rng {i : Nat} (hi : i < 5) : 3 ≤ kLen i ∧ kLen i ≤ 5 := by have := kLen_all i hi; unfold kLen; omega
theorem kCh_rng {i : Nat} {k : Int} (hi : i < 5) (h0 : 0 ≤ k) (h1 : k < kLen i) : 0 ≤ kCh i k ∧ kCh i k < 128 := by
  have := kLen_rng hi
  exact kCh_all i hi k.toNat (by omega)
theorem iI_c2 {x : Int} (h : 0 ≤ x ∧ x < 256) : ((iI x).toUInt32 % 65536).toInt32 = iI x := by
  have e : x = ((x.toNat : Nat) : Int) := by omega
  have key : ∀ n : Nat, n < 256 → ((Int32.ofInt (n : Int)).toUInt32 % 65536).toInt32 = Int32.ofInt (n : Int) := by decide +kernel
  rw [e]
  exact key x.toNat (by omega)
theorem nar_c {x : Int} (h : 0 ≤ x ∧ x < 256) : narrow .char (.int (iI x)) = .int (iI x) := by
  show Value.int ((iI x).toUInt32 % 65536).toInt32 = _
  rw [iI_c2 h]
section ZS
variable {p : Program} {l : Launch} {e : Env} {R : Room} {s : State} {m : MethodId} {args : Array Value} {below : List Frame} {meth : Method} {c : Code} {z : zC} {A : Nat → Prop} {nL : Nat} {Q : State → Prop} {cells slots : Nat} {cc : ByteArray} {own : String} {ws : va_W} {ls : List (Nat × Value)} {st : List Value} {pc : Nat} {post : Option Value → va_W → Prop}
theorem zz_kget (C : zzFix p s m args meth c z A nL cc own) {i index : Nat} (hi : i < 5) (hq : Cond.fieldLink own index "java/lang/String" "value" "[B" ∈ lwG) (d : decode cc pc = .ok (.getfield index, 3)) (kk : zzW p l e R s m args below meth c z A nL Q cells slots ws ls (.ref (z.2.2 (20 + i)) :: st) (pc + 3)) : zzW p l e R s m args below meth c z A nL Q cells slots ws ls (.ref (z.2.2 (10 + i)) :: st) (pc) :=
  fun H locs arr hP hD hS hl => vk_getf C.1.1 C.1.2.1 (C.2.2.2.1.2.2.2.2.2.1.1 i hi).2.2.1 hS C.1.2.2.2.1 (C.1.2.2.2.2 _ hq) (fun _ h => h) d (kk H locs arr hP hD hS hl)
theorem zz_kcod (C : zzFix p s m args meth c z A nL cc own) {i index : Nat} (hi : i < 5) (hq : Cond.fieldLink own index "java/lang/String" "coder" "B" ∈ lwG) (d : decode cc pc = .ok (.getfield index, 3)) (kk : zzW p l e R s m args below meth c z A nL Q cells slots ws ls (.int (iI 0) :: st) (pc + 3)) : zzW p l e R s m args below meth c z A nL Q cells slots ws ls (.ref (z.2.2 (10 + i)) :: st) (pc) :=
  fun H locs arr hP hD hS hl => vk_getf C.1.1 C.1.2.1 (C.2.2.2.1.2.2.2.2.2.1.1 i hi).2.1 hS C.1.2.2.2.1 (C.1.2.2.2.2 _ hq) (fun _ h => h) d (kk H locs arr hP hD hS hl)
theorem zz_klen (C : zzFix p s m args meth c z A nL cc own) {i : Nat} (hi : i < 5) (d : decode cc pc = .ok (.arraylength, 1)) (kk : zzW p l e R s m args below meth c z A nL Q cells slots ws ls (.int (iI (kLen i)) :: st) (pc + 1)) : zzW p l e R s m args below meth c z A nL Q cells slots ws ls (.ref (z.2.2 (20 + i)) :: st) (pc) :=
  fun H locs arr hP hD hS hl => va_tlen C.1.1 C.1.2.1 (C.2.2.2.1.2.2.2.2.2.1.1 i hi).2.2.2 hS (v := iI (kLen i)) (Int32.ofInt_eq_ofNat).symm d (kk H locs arr hP hD hS hl)
theorem zz_kbald (C : zzFix p s m args meth c z A nL cc own) {i : Nat} {k : Int} (hi : i < 5) (h0 : 0 ≤ k) (h1 : k < kLen i) (d : decode cc pc = .ok (.baload, 1)) (kk : zzW p l e R s m args below meth c z A nL Q cells slots ws ls (.int (iI (sb (kCh i k))) :: st) (pc + 1)) : zzW p l e R s m args below meth c z A nL Q cells slots ws ls (.int (iI k) :: .ref (z.2.2 (20 + i)) :: st) (pc) := by
  intro H locs arr hP hD hS hl
  have hr := kLen_rng hi
  obtain ⟨g1, g2⟩ := iI_idx (n := zLenW.getD i 0) h0 (by unfold kLen at h1; omega) (by unfold kLen at hr; omega)
  have hc := kCh_rng hi h0 h1
  refine va_tb C.1.1 C.1.2.1 (C.2.2.2.1.2.2.2.2.2.1.1 i hi).2.2.2 hS g1 (v := .int (iI (sb (kCh i k)))) ?_ d (kk H locs arr hP hD hS hl)
  rw [g2]
  show Value.int ((zBytW.getD i []).getD k.toNat 0) = _
  have : sb (kCh i k) = ((zBytW.getD i []).getD k.toNat 0).toInt := by unfold sb; rw [if_pos hc.2]; rfl
  rw [this, ← iI_of]
theorem zz_kcomp (C : zzFix p s m args meth c z A nL cc own) {index : Nat} {ref : String} (hq : Cond.fieldLink own index ref "COMPACT_STRINGS" "Z" ∈ lwG) (href : ref = "java/lang/String") (d : decode cc pc = .ok (.getstatic index, 3)) (kk : zzW p l e R s m args below meth c z A nL Q cells slots ws ls (.int (iI 1) :: st) (pc + 3)) : zzW p l e R s m args below meth c z A nL Q cells slots ws ls (st) (pc) :=
  fun H locs arr hP hD hS hl => va_gets C.1.1 C.1.2.1 C.2.2.2.1.2.2.2.2.2.2.2.1 hS C.1.2.2.2.1 (C.1.2.2.2.2 _ hq) (fun _ h => by rw [href]; exact h) d (kk H locs arr hP hD hS hl)
theorem zz_kfmt (C : zzFix p s m args meth c z A nL cc own) {index : Nat} {ref : String} (hq : Cond.fieldLink own index ref "SIOOBE_FORMATTER" "Ljava/util/function/BiFunction;" ∈ lwG) (href : ref = "jdk/internal/util/Preconditions") (d : decode cc pc = .ok (.getstatic index, 3)) (kk : ∀ v : Value, (v = .null ∨ ∃ t : Nat, v = .ref t) → zzW p l e R s m args below meth c z A nL Q cells slots ws ls (v :: st) (pc + 3)) : zzW p l e R s m args below meth c z A nL Q cells slots ws ls (st) (pc) := by
  intro H locs arr hP hD hS hl
  rcases C.2.2.2.1.2.2.2.2.2.2.2.2.1 with h | ⟨t, h⟩
  · exact va_gets C.1.1 C.1.2.1 h hS C.1.2.2.2.1 (C.1.2.2.2.2 _ hq) (fun _ h => by rw [href]; exact h) d (kk .null (Or.inl rfl) H locs arr hP hD hS hl)
  · exact va_gets C.1.1 C.1.2.1 h hS C.1.2.2.2.1 (C.1.2.2.2.2 _ hq) (fun _ h => by rw [href]; exact h) d (kk (.ref t) (Or.inr ⟨t, rfl⟩) H locs arr hP hD hS hl)
theorem zz_ldcS (C : zzFix p s m args meth c z A nL cc own) {index q : Nat} {tx : String} (hZ : vk_R own index tx q s) (d : decode cc pc = .ok (.ldc index, 2)) (kk : zzW p l e R s m args below meth c z A nL Q cells slots ws ls (.ref q :: st) (pc + 2)) : zzW p l e R s m args below meth c z A nL Q cells slots ws ls (st) (pc) :=
  fun H locs arr hP hD hS hl => va_ldcS C.1.1 C.1.2.1 C.1.2.2.2.1 hZ d (kk H locs arr hP hD hS hl)
theorem zz_i2c (C : zzFix p s m args meth c z A nL cc own) {x : Int} (hx : 0 ≤ x ∧ x < 256) (d : decode cc pc = .ok (.i2c, 1)) (kk : zzW p l e R s m args below meth c z A nL Q cells slots ws ls (.int (iI x) :: st) (pc + 1)) : zzW p l e R s m args below meth c z A nL Q cells slots ws ls (.int (iI x) :: st) (pc) :=
  fun H locs arr hP hD hS hl => lv_i2c C.1.1 C.1.2.1 d (iI_c2 hx) (kk H locs arr hP hD hS hl)
theorem zz_nret (C : zzFix p s m args meth c z A nL cc own) {ty : FieldType} (hr : meth.sig.returnType = some ty) {v : Int32} (hn : narrow ty (.int v) = .int v) (d : decode cc pc = .ok (.ireturn, 1)) (hp : post (some (.int v)) ws) : zzW p l e R s m args below meth c z A nL (MQ below (zQ z A post) args s cells slots A) cells slots ws ls [.int v] pc :=
  fun H locs arr hP hD hS hl => W.zret C.1.1 C.1.2.1 hr hn (fun t ht hW => ⟨⟨_, ws, rfl, hp, by rw [ht]; exact hP, va_K.moved hW.alike C.2.1, hD⟩, hS.F ht⟩) hS.2.2 d C.2.2.2.2
theorem zz_aret (C : zzFix p s m args meth c z A nL cc own) {nm : String} (hr : meth.sig.returnType = some (.object nm)) {a : Nat} (d : decode cc pc = .ok (.areturn, 1)) (hp : post (some (.ref a)) ws) : zzW p l e R s m args below meth c z A nL (MQ below (zQ z A post) args s cells slots A) cells slots ws ls [.ref a] pc :=
  fun H locs arr hP hD hS hl => W.aret C.1.1 C.1.2.1 hr (Or.inl ⟨nm, rfl⟩) (Or.inr ⟨a, rfl⟩) (fun t ht hW => ⟨⟨_, ws, rfl, hp, by rw [ht]; exact hP, va_K.moved hW.alike C.2.1, hD⟩, hS.F ht⟩) hS.2.2 d C.2.2.2.2
theorem zz_callK (C : zzFix p s m args meth c z A nL cc own) {y : MethodName} {cc' : ByteArray} {nL' : Nat} {ret' : Option FieldType} {rm : Room} {wc wr : va_W} {n index wi : Nat} {As st0 : List Value} (hwi : wi < 5) (hM : zzMet l y cc' nL' ret' rm z (.ref (z.2.2 (10 + wi)) :: As) wc post) (hy : zYV RJ0 y cc' nL' ret' n) (hq : Cond.methodLink own index y ∈ lwG) (hR : rm.frames + 1 ≤ R.frames ∧ 8 + (nL' + 11) + rm.locals ≤ R.locals)
    (isC isR : List Nat) (hC : isC.map (fun i => ws[i]?) = wc.map some) (hRr : isR.map (fun i => ws[i]?) = wr.map some) (hnC : va_nd isC = true) (hn : va_nd isR = true) (hdis : ∀ i ∈ isR, i ∉ isC) (hlen : As.length = n) (hst : st0 = As.reverse ++ .ref (z.2.2 (10 + wi)) :: st) (hW : (st.map fun v => v.category).sum ≤ 8) (d : decode cc pc = .ok (.invokevirtual index, 3)) (hf : cells + rm.cells ≤ R.cells ∧ slots + rm.slots ≤ R.slots)
    (kk : ∀ (v : Option Value) (w : va_W), post v w → zzW p l e R s m args below meth c z A nL Q (cells + rm.cells) (slots + rm.slots) (wr ++ w) ls (v.toList ++ st) (pc + 3)) : zzW p l e R s m args below meth c z A nL Q cells slots ws ls st0 pc := by
  intro H locs arr hP hD hS hl
  obtain ⟨hPc, hpre⟩ := zz_pre C (as := .ref (z.2.2 (10 + wi)) :: As) hP hD hS isC hC hnC
  have hG : GoodIn lwG (wsV own index RJ0 y (Cond.code y cc' nL' ret' :: lwG)) := fun w hw => by
    have : w ∈ lwG := by
      simp only [wsV, List.mem_append, List.mem_cons, List.not_mem_nil, or_false] at hw
      rcases hw with (rfl | rfl | rfl | rfl) | (rfl | h)
      · exact hq
      · exact hy.1
      · exact hy.2.1
      · exact hy.2.2.1
      · exact hy.2.2.2.1
      · exact h
    exact ⟨this, lwG_good this⟩
  exact zz_run C (as := .ref (z.2.2 (10 + wi)) :: As) (rm := rm) hP hD hS hl (va_runV C.1 (hM H.size) (cwV n C.1.2.2.2.2 hG rfl rfl rfl hy.2.2.2.2 hR) ⟨zIn_blind z _ wc H.size, vk_recv (A := A) (i := wi) (adK := fun i => z.2.2 (10 + i)) (adV := fun i => z.2.2 (20 + i)) C.2.2.2.1.2.2.2.2.2.1 hwi hS, hpre⟩ rfl hlen hl.1 hst (lv_room hW) d hf) isC isR hC hRr hn hdis kk
end ZS
abbrev po_J0_coder_7d493 (z : zC) (wi : Nat) : Option Value → va_W → Prop := fun v w => v = some (Value.int (iI 0)) ∧ w = ([] : va_W)
abbrev rm_J0_coder_7d493 : Room := { frames := 1, cells := 0, slots := 0, locals := 40 }
set_option maxHeartbeats 4000000 in
set_option maxRecDepth 100000 in
theorem cc_J0_coder_7d493 (l : Launch) (z : zC) (wi : Nat) (hwi : wi < 5) : zzMet l yJ0_coder_7d493 cJ0_coder_7d493 1 (Option.some .byte) rm_J0_coder_7d493 z [.ref (z.2.2 (10 + wi))] (([] : va_W)) (po_J0_coder_7d493 z wi) := by
  refine zzMet.of (own := RJ0) (ls0 := [(0, .ref (z.2.2 (10 + wi)))]) (by decide) rfl (Nat.le_of_ble_eq_true rfl) rfl ?_
  intro p e s m below meth c A C hr hnm
  refine zz_kcomp C qw_519 rfl dJ0_coder_7d493_0 ?_
  refine zz_if_eq (tgt := 13) C dJ0_coder_7d493_3 (by decide) (by unfold rI; omega) (fun c3 => ?_) (fun c3 => ?_)
  · skip
    exfalso; omega
  · skip
    refine zz_aload_n C 0 dJ0_coder_7d493_6 rfl rfl ?_
    refine zz_kcod (i := wi) C (by omega) qw_1351 dJ0_coder_7d493_7 ?_
    refine zz_goto (tgt := 14) C dJ0_coder_7d493_10 (by decide) ?_
    exact zz_nret C hr (by decide +kernel) dJ0_coder_7d493_14 ⟨zz_vI rfl, rfl⟩
abbrev po_J0_length_8abf5 (z : zC) (wi : Nat) : Option Value → va_W → Prop := fun v w => v = some (Value.int (iI (kLen wi))) ∧ w = ([] : va_W)
abbrev rm_J0_length_8abf5 : Room := { frames := 2, cells := 0, slots := 0, locals := 60 }
set_option maxHeartbeats 4000000 in
set_option maxRecDepth 100000 in
theorem cc_J0_length_8abf5 (l : Launch) (z : zC) (wi : Nat) (hwi : wi < 5) : zzMet l yJ0_length_8abf5 cJ0_length_8abf5 1 (Option.some .int) rm_J0_length_8abf5 z [.ref (z.2.2 (10 + wi))] (([] : va_W)) (po_J0_length_8abf5 z wi) := by
  refine zzMet.of (own := RJ0) (ls0 := [(0, .ref (z.2.2 (10 + wi)))]) (by decide) rfl (Nat.le_of_ble_eq_true rfl) rfl ?_
  intro p e s m below meth c A C hr hnm
  have hkl := kLen_rng hwi
  refine zz_aload_n C 0 dJ0_length_8abf5_0 rfl rfl ?_
  refine zz_kget (i := wi) C (by omega) qw_1350 dJ0_length_8abf5_1 ?_
  refine zz_klen (i := wi) C (by omega) dJ0_length_8abf5_4 ?_
  refine zz_aload_n C 0 dJ0_length_8abf5_5 rfl rfl ?_
  refine zz_callK (wr := ([] : va_W)) (st := [.int (iI (kLen wi))]) (wi := wi) C (by omega) (cc_J0_coder_7d493 l z wi (by omega)) yk_J0_coder_7d493 qw_515 ⟨by decide, by decide⟩ [] [] rfl rfl rfl rfl (by decide) rfl rfl (Nat.le_of_ble_eq_true rfl) dJ0_length_8abf5_6 ⟨by decide, by decide⟩ ?_
  rintro _ _ ⟨rfl, rfl⟩
  refine zz_st (st' := [.int (iI 0), .int (iI (kLen wi))]) rfl (zz_ws (ws' := ([] : va_W)) rfl ?_)
  refine zz_ishr C (by unfold rI; omega) (by omega) dJ0_length_8abf5_9 ?_
  exact zz_iret C hr dJ0_length_8abf5_10 ⟨zz_vI (by show kLen wi / 2 ^ (0 : Int).toNat = _; rw [show (2 : Int) ^ (0 : Int).toNat = 1 from rfl, Int.ediv_one]), rfl⟩
abbrev po_J0_isLatin1_aae02 (z : zC) (wi : Nat) : Option Value → va_W → Prop := fun v w => v = some (Value.int (iI 1)) ∧ w = ([] : va_W)
abbrev rm_J0_isLatin1_aae02 : Room := { frames := 1, cells := 0, slots := 0, locals := 40 }
set_option maxHeartbeats 4000000 in
set_option maxRecDepth 100000 in
theorem cc_J0_isLatin1_aae02 (l : Launch) (z : zC) (wi : Nat) (hwi : wi < 5) : zzMet l yJ0_isLatin1_aae02 cJ0_isLatin1_aae02 1 (Option.some .boolean) rm_J0_isLatin1_aae02 z [.ref (z.2.2 (10 + wi))] (([] : va_W)) (po_J0_isLatin1_aae02 z wi) := by
  refine zzMet.of (own := RJ0) (ls0 := [(0, .ref (z.2.2 (10 + wi)))]) (by decide) rfl (Nat.le_of_ble_eq_true rfl) rfl ?_
  intro p e s m below meth c A C hr hnm
  refine zz_kcomp C qw_519 rfl dJ0_isLatin1_aae02_0 ?_
  refine zz_if_eq (tgt := 17) C dJ0_isLatin1_aae02_3 (by decide) (by unfold rI; omega) (fun c3 => ?_) (fun c3 => ?_)
  · skip
    exfalso; omega
  · skip
    refine zz_aload_n C 0 dJ0_isLatin1_aae02_6 rfl rfl ?_
    refine zz_kcod (i := wi) C (by omega) qw_1351 dJ0_isLatin1_aae02_7 ?_
    refine zz_if_ne (tgt := 17) C dJ0_isLatin1_aae02_10 (by decide) (by unfold rI; omega) (fun c10 => ?_) (fun c10 => ?_)
    · skip
      exfalso; omega
    · skip
      refine zz_iconst C dJ0_isLatin1_aae02_13 ?_
      refine zz_goto (tgt := 18) C dJ0_isLatin1_aae02_14 (by decide) ?_
      exact zz_zret C hr (by decide +kernel) dJ0_isLatin1_aae02_18 ⟨zz_vI rfl, rfl⟩
abbrev po_J3_checkIndex_8e157_n (z : zC) (ix : Int) (nn : Int) : Option Value → va_W → Prop := fun v w => v = some (Value.int (iI ix)) ∧ w = ([] : va_W)
abbrev rm_J3_checkIndex_8e157_n : Room := { frames := 1, cells := 0, slots := 0, locals := 40 }
set_option maxHeartbeats 4000000 in
set_option maxRecDepth 100000 in
theorem cc_J3_checkIndex_8e157_n (l : Launch) (z : zC) (ix : Int) (nn : Int) (hix : 0 ≤ ix ∧ ix < nn ∧ nn ≤ 5) : zzMet l yJ3_checkIndex_8e157 cJ3_checkIndex_8e157 3 (Option.some .int) rm_J3_checkIndex_8e157_n z [.int (iI ix), .int (iI nn), .null] (([] : va_W)) (po_J3_checkIndex_8e157_n z ix nn) := by
  refine zzMet.of (own := RJ3) (ls0 := [(0, .int (iI ix)), (1, .int (iI nn)), (2, .null)]) (by decide) rfl (Nat.le_of_ble_eq_true rfl) rfl ?_
  intro p e s m below meth c A C hr hnm
  refine zz_iload_n C 0 dJ3_checkIndex_8e157_0 rfl rfl ?_
  refine zz_if_lt (tgt := 9) C dJ3_checkIndex_8e157_1 (by decide) (by unfold rI; omega) (fun c1 => ?_) (fun c1 => ?_)
  · skip
    exfalso; omega
  · skip
    refine zz_iload_n C 0 dJ3_checkIndex_8e157_4 rfl rfl ?_
    refine zz_iload_n C 1 dJ3_checkIndex_8e157_5 rfl rfl ?_
    refine zz_icmp_lt (tgt := 16) C dJ3_checkIndex_8e157_6 (by decide) (by unfold rI; omega) (by unfold rI; omega) (fun c6 => ?_) (fun c6 => ?_)
    · skip
      refine zz_iload_n C 0 dJ3_checkIndex_8e157_16 rfl rfl ?_
      exact zz_iret C hr dJ3_checkIndex_8e157_17 ⟨zz_vI rfl, rfl⟩
    · skip
      exfalso; omega
abbrev po_J3_checkIndex_8e157_r (z : zC) (ix : Int) (nn : Int) (t9 : Nat) : Option Value → va_W → Prop := fun v w => v = some (Value.int (iI ix)) ∧ w = ([] : va_W)
abbrev rm_J3_checkIndex_8e157_r : Room := { frames := 1, cells := 0, slots := 0, locals := 40 }
set_option maxHeartbeats 4000000 in
set_option maxRecDepth 100000 in
theorem cc_J3_checkIndex_8e157_r (l : Launch) (z : zC) (ix : Int) (nn : Int) (t9 : Nat) (hix : 0 ≤ ix ∧ ix < nn ∧ nn ≤ 5) : zzMet l yJ3_checkIndex_8e157 cJ3_checkIndex_8e157 3 (Option.some .int) rm_J3_checkIndex_8e157_r z [.int (iI ix), .int (iI nn), .ref t9] (([] : va_W)) (po_J3_checkIndex_8e157_r z ix nn t9) := by
  refine zzMet.of (own := RJ3) (ls0 := [(0, .int (iI ix)), (1, .int (iI nn)), (2, .ref t9)]) (by decide) rfl (Nat.le_of_ble_eq_true rfl) rfl ?_
  intro p e s m below meth c A C hr hnm
  refine zz_iload_n C 0 dJ3_checkIndex_8e157_0 rfl rfl ?_
  refine zz_if_lt (tgt := 9) C dJ3_checkIndex_8e157_1 (by decide) (by unfold rI; omega) (fun c1 => ?_) (fun c1 => ?_)
  · skip
    exfalso; omega
  · skip
    refine zz_iload_n C 0 dJ3_checkIndex_8e157_4 rfl rfl ?_
    refine zz_iload_n C 1 dJ3_checkIndex_8e157_5 rfl rfl ?_
    refine zz_icmp_lt (tgt := 16) C dJ3_checkIndex_8e157_6 (by decide) (by unfold rI; omega) (by unfold rI; omega) (fun c6 => ?_) (fun c6 => ?_)
    · skip
      refine zz_iload_n C 0 dJ3_checkIndex_8e157_16 rfl rfl ?_
      exact zz_iret C hr dJ3_checkIndex_8e157_17 ⟨zz_vI rfl, rfl⟩
    · skip
      exfalso; omega
abbrev po_J0_checkIndex_df160 (z : zC) (ix : Int) (nn : Int) : Option Value → va_W → Prop := fun v w => v = none ∧ w = ([] : va_W)
abbrev rm_J0_checkIndex_df160 : Room := { frames := 2, cells := 0, slots := 0, locals := 62 }
set_option maxHeartbeats 4000000 in
set_option maxRecDepth 100000 in
theorem cc_J0_checkIndex_df160 (l : Launch) (z : zC) (ix : Int) (nn : Int) (hix : 0 ≤ ix ∧ ix < nn ∧ nn ≤ 5) : zzMet l yJ0_checkIndex_df160 cJ0_checkIndex_df160 2 none rm_J0_checkIndex_df160 z [.int (iI ix), .int (iI nn)] (([] : va_W)) (po_J0_checkIndex_df160 z ix nn) := by
  refine zzMet.of (own := RJ0) (ls0 := [(0, .int (iI ix)), (1, .int (iI nn))]) (by decide) rfl (Nat.le_of_ble_eq_true rfl) rfl ?_
  intro p e s m below meth c A C hr hnm
  refine zz_iload_n C 0 dJ0_checkIndex_df160_0 rfl rfl ?_
  refine zz_iload_n C 1 dJ0_checkIndex_df160_1 rfl rfl ?_
  refine zz_kfmt C qw_535 rfl dJ0_checkIndex_df160_2 (fun vf2 hvf2 => ?_)
  rcases hvf2 with rfl | ⟨t9, rfl⟩
  · skip
    refine zz_callS (wr := ([] : va_W)) (st := []) C (cc_J3_checkIndex_8e157_n l z ix nn (by omega)) yk_J3_checkIndex_8e157 qw_537 ⟨by decide, by decide⟩ [] [] rfl rfl rfl rfl (by decide) rfl rfl (Nat.le_of_ble_eq_true rfl) dJ0_checkIndex_df160_5 ⟨by decide, by decide⟩ ?_
    rintro _ _ ⟨rfl, rfl⟩
    refine zz_st (st' := [.int (iI ix)]) rfl (zz_ws (ws' := ([] : va_W)) rfl ?_)
    refine zz_pop C dJ0_checkIndex_df160_8 rfl ?_
    exact zz_vret C hr dJ0_checkIndex_df160_9 ⟨rfl, rfl⟩
  · skip
    refine zz_callS (wr := ([] : va_W)) (st := []) C (cc_J3_checkIndex_8e157_r l z ix nn t9 (by omega)) yk_J3_checkIndex_8e157 qw_537 ⟨by decide, by decide⟩ [] [] rfl rfl rfl rfl (by decide) rfl rfl (Nat.le_of_ble_eq_true rfl) dJ0_checkIndex_df160_5 ⟨by decide, by decide⟩ ?_
    rintro _ _ ⟨rfl, rfl⟩
    refine zz_st (st' := [.int (iI ix)]) rfl (zz_ws (ws' := ([] : va_W)) rfl ?_)
    refine zz_pop C dJ0_checkIndex_df160_8 rfl ?_
    exact zz_vret C hr dJ0_checkIndex_df160_9 ⟨rfl, rfl⟩
abbrev po_J1_charAt_3b067 (z : zC) (wi : Nat) (ix : Int) : Option Value → va_W → Prop := fun v w => v = some (Value.int (iI (kCh wi ix))) ∧ w = ([] : va_W)
abbrev rm_J1_charAt_3b067 : Room := { frames := 3, cells := 0, slots := 0, locals := 83 }
set_option maxHeartbeats 4000000 in
set_option maxRecDepth 100000 in
theorem cc_J1_charAt_3b067 (l : Launch) (z : zC) (wi : Nat) (ix : Int) (hwi : wi < 5) (hik : 0 ≤ ix ∧ ix < kLen wi) : zzMet l yJ1_charAt_3b067 cJ1_charAt_3b067 2 (Option.some .char) rm_J1_charAt_3b067 z [.ref (z.2.2 (20 + wi)), .int (iI ix)] (([] : va_W)) (po_J1_charAt_3b067 z wi ix) := by
  refine zzMet.of (own := RJ1) (ls0 := [(0, .ref (z.2.2 (20 + wi))), (1, .int (iI ix))]) (by decide) rfl (Nat.le_of_ble_eq_true rfl) rfl ?_
  intro p e s m below meth c A C hr hnm
  have hkl := kLen_rng hwi
  have hkc := kCh_rng hwi hik.1 hik.2
  refine zz_iload_n C 1 dJ1_charAt_3b067_0 rfl rfl ?_
  refine zz_aload_n C 0 dJ1_charAt_3b067_1 rfl rfl ?_
  refine zz_klen (i := wi) C (by omega) dJ1_charAt_3b067_2 ?_
  refine zz_callS (wr := ([] : va_W)) (st := []) C (cc_J0_checkIndex_df160 l z ix (kLen wi) (by omega)) yk_J0_checkIndex_df160 qw_532 ⟨by decide, by decide⟩ [] [] rfl rfl rfl rfl (by decide) rfl rfl (Nat.le_of_ble_eq_true rfl) dJ1_charAt_3b067_3 ⟨by decide, by decide⟩ ?_
  rintro _ _ ⟨rfl, rfl⟩
  refine zz_st (st' := []) rfl (zz_ws (ws' := ([] : va_W)) rfl ?_)
  refine zz_aload_n C 0 dJ1_charAt_3b067_6 rfl rfl ?_
  refine zz_iload_n C 1 dJ1_charAt_3b067_7 rfl rfl ?_
  refine zz_kbald (i := wi) C (by omega) (by omega) (by omega) dJ1_charAt_3b067_8 ?_
  refine zz_sipush C dJ1_charAt_3b067_9 (by decide +kernel) ?_
  refine zz_iandb C (by omega) dJ1_charAt_3b067_12 ?_
  refine zz_i2c C (by omega) dJ1_charAt_3b067_13 ?_
  exact zz_nret C hr (nar_c (by omega)) dJ1_charAt_3b067_14 ⟨zz_vI rfl, rfl⟩
abbrev po_J0_charAt_5068e (z : zC) (wi : Nat) (ix : Int) : Option Value → va_W → Prop := fun v w => v = some (Value.int (iI (kCh wi ix))) ∧ w = ([] : va_W)
abbrev rm_J0_charAt_5068e : Room := { frames := 4, cells := 0, slots := 0, locals := 104 }
set_option maxHeartbeats 4000000 in
set_option maxRecDepth 100000 in
theorem cc_J0_charAt_5068e (l : Launch) (z : zC) (wi : Nat) (ix : Int) (hwi : wi < 5) (hik : 0 ≤ ix ∧ ix < kLen wi) : zzMet l yJ0_charAt_5068e cJ0_charAt_5068e 2 (Option.some .char) rm_J0_charAt_5068e z [.ref (z.2.2 (10 + wi)), .int (iI ix)] (([] : va_W)) (po_J0_charAt_5068e z wi ix) := by
  refine zzMet.of (own := RJ0) (ls0 := [(0, .ref (z.2.2 (10 + wi))), (1, .int (iI ix))]) (by decide) rfl (Nat.le_of_ble_eq_true rfl) rfl ?_
  intro p e s m below meth c A C hr hnm
  have hkc := kCh_rng hwi hik.1 hik.2
  refine zz_aload_n C 0 dJ0_charAt_5068e_0 rfl rfl ?_
  refine zz_callK (wr := ([] : va_W)) (st := []) (wi := wi) C (by omega) (cc_J0_isLatin1_aae02 l z wi (by omega)) yk_J0_isLatin1_aae02 qw_525 ⟨by decide, by decide⟩ [] [] rfl rfl rfl rfl (by decide) rfl rfl (Nat.le_of_ble_eq_true rfl) dJ0_charAt_5068e_1 ⟨by decide, by decide⟩ ?_
  rintro _ _ ⟨rfl, rfl⟩
  refine zz_st (st' := [.int (iI 1)]) rfl (zz_ws (ws' := ([] : va_W)) rfl ?_)
  refine zz_if_eq (tgt := 16) C dJ0_charAt_5068e_4 (by decide) (by unfold rI; omega) (fun c4 => ?_) (fun c4 => ?_)
  · skip
    exfalso; omega
  · skip
    refine zz_aload_n C 0 dJ0_charAt_5068e_7 rfl rfl ?_
    refine zz_kget (i := wi) C (by omega) qw_1350 dJ0_charAt_5068e_8 ?_
    refine zz_iload_n C 1 dJ0_charAt_5068e_11 rfl rfl ?_
    refine zz_callS (wr := ([] : va_W)) (st := []) C (cc_J1_charAt_3b067 l z wi ix (by omega) (by omega)) yk_J1_charAt_3b067 qw_529 ⟨by decide, by decide⟩ [] [] rfl rfl rfl rfl (by decide) rfl rfl (Nat.le_of_ble_eq_true rfl) dJ0_charAt_5068e_12 ⟨by decide, by decide⟩ ?_
    rintro _ _ ⟨rfl, rfl⟩
    refine zz_st (st' := [.int (iI (kCh wi ix))]) rfl (zz_ws (ws' := ([] : va_W)) rfl ?_)
    exact zz_nret C hr (nar_c (by omega)) dJ0_charAt_5068e_15 ⟨zz_vI rfl, rfl⟩
