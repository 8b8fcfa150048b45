theorem iI_bits (a : Int) : (iI a).toBitVec.toNat = (a % 4294967296).toNat := by
  show (BitVec.ofInt 32 a).toNat = _
  rw [BitVec.toNat_ofInt]
  rfl
theorem nI_iI (n : Nat) : nI n = iI (n : Int) := (Int32.ofInt_eq_ofNat).symm
theorem iI_and1 (a : Int) : iI a &&& iI 1 = iI (a % 2) := by
  rw [pk_and (iI a) (m := iI 1) 1 (by decide +kernel), nI_iI, iI_bits]
  congr 1
  omega
theorem iI_and31 (a : Int) : iI a &&& iI 31 = iI (a % 32) := by
  rw [pk_and (iI a) (m := iI 31) 5 (by decide +kernel), nI_iI, iI_bits]
  congr 1
  omega
theorem iI_and255 (a : Int) : iI a &&& iI 255 = iI (a % 256) := by
  rw [pk_and (iI a) (m := iI 255) 8 (by decide +kernel), nI_iI, iI_bits]
  congr 1
  omega
theorem iI_sh32 (k : Int) (h : 0 ≤ k ∧ k < 32) : ((iI k &&& 31).toBitVec.smod 32).toNat = k.toNat := by
  have : ∀ j : Fin 32, ((iI (j.val : Int) &&& 31).toBitVec.smod 32).toNat = j.val := by decide +kernel
  have h2 := this ⟨k.toNat, by omega⟩
  rw [show ((k.toNat : Nat) : Int) = k from Int.toNat_of_nonneg h.1] at h2
  exact h2
theorem iI_shr {a k : Int} (ha : rI a) (h : 0 ≤ k ∧ k < 32) : iI a >>> (iI k &&& 31) = iI (a / 2 ^ k.toNat) := by
  refine Int32.toInt_inj.mp ?_
  rw [pk_shr _ _ k.toNat (iI_sh32 k h), iI_toInt ha, Int.shiftRight_eq_div_pow]
  have e : ((2 ^ k.toNat : Nat) : Int) = (2 : Int) ^ k.toNat := by norm_cast
  rw [e, iI_toInt]
  have hp : (0 : Int) < 2 ^ k.toNat := Int.pow_pos (by omega)
  have := ha.1
  have := ha.2
  refine ⟨?_, ?_⟩
  · refine (Int.le_ediv_iff_mul_le hp).mpr ?_
    have : (-2147483648 : Int) * 2 ^ k.toNat ≤ -2147483648 * 1 := Int.mul_le_mul_of_nonpos_left (by omega) (by omega)
    omega
  · refine (Int.ediv_lt_iff_lt_mul hp).mpr ?_
    have : (2147483648 : Int) * 1 ≤ 2147483648 * 2 ^ k.toNat := Int.mul_le_mul_of_nonneg_left (by omega) (by omega)
    omega
theorem iI_shl1 (k : Int) (h : 0 ≤ k ∧ k < 31) : iI 1 <<< (iI k &&& 31) = iI (2 ^ k.toNat) := by
  have : ∀ j : Fin 31, iI 1 <<< (iI (j.val : Int) &&& 31) = iI (2 ^ j.val) := by decide +kernel
  have h2 := this ⟨k.toNat, by omega⟩
  rw [show ((k.toNat : Nat) : Int) = k from Int.toNat_of_nonneg h.1] at h2
  exact h2
/-- a byte as Java has it -/
def sb (u : Int) : Int := if u < 128 then u else u - 256
def byteZ (v k : Int) : Int := v / 2 ^ k.toNat % 256
theorem byteZ_rng (v k : Int) : 0 ≤ byteZ v k ∧ byteZ v k < 256 := by unfold byteZ; omega
theorem sb_mod {u : Int} (h : 0 ≤ u ∧ u < 256) : sb u % 256 = u := by unfold sb; split <;> omega
theorem sb_rng {u : Int} (h : 0 ≤ u ∧ u < 256) : -128 ≤ sb u ∧ sb u < 128 := by unfold sb; split <;> omega
theorem iI_8 (x : Int32) : x.toInt8.toInt32 = iI (sb (x.toInt % 256)) := by
  refine Int32.toInt_inj.mp ?_
  have h9 := sb_rng (u := x.toInt % 256) (by omega)
  rw [iI_toInt ⟨by omega, by omega⟩, Int8.toInt_toInt32, Int32.toInt_toInt8]
  unfold sb Int.bmod
  simp only []
  omega
theorem iI_bits2 (x : Int32) : (x.toBitVec.toNat : Int) % 256 = x.toInt % 256 := by
  have h1 : x = iI x.toInt := iI_of x
  have h2 := iI_bits x.toInt
  rw [← h1] at h2
  rw [h2]
  omega
theorem iI_ub {a k : Int} (hk : k = 0 ∨ k = 8 ∨ k = 16 ∨ k = 24) : (((iI a).toUInt32 >>> ((iI k).toUInt32 &&& Int32.toUInt32 31)).toInt32).toInt8.toInt32 = iI (sb (byteZ a k)) := by
  rw [iI_8, ← iI_bits2]
  congr 2
  rcases hk with rfl | rfl | rfl | rfl
  · rw [pk_ushr (iI a) (iI 0) 0 (by decide +kernel), iI_bits]
    show (((a % 4294967296).toNat / 1 : Nat) : Int) % 256 = a / 1 % 256
    omega
  · rw [pk_ushr (iI a) (iI 8) 8 (by decide +kernel), iI_bits]
    show (((a % 4294967296).toNat / 256 : Nat) : Int) % 256 = a / 256 % 256
    omega
  · rw [pk_ushr (iI a) (iI 16) 16 (by decide +kernel), iI_bits]
    show (((a % 4294967296).toNat / 65536 : Nat) : Int) % 256 = a / 65536 % 256
    omega
  · rw [pk_ushr (iI a) (iI 24) 24 (by decide +kernel), iI_bits]
    show (((a % 4294967296).toNat / 16777216 : Nat) : Int) % 256 = a / 16777216 % 256
    omega
def brow (n : Nat) (cA : ClassId) (T : Int → Int) : va_E := .inl (cA, n, .inl (fun j : Nat => iI (sb (T (j : Int)))))
theorem brow_up {T : Int → Int} {i u : Int} (h0 : 0 ≤ i) : upd (fun j : Nat => iI (sb (T (j : Int)))) i.toNat (iI (sb u)) = fun j : Nat => iI (sb (zup T i u (j : Int))) := by
  funext j
  unfold upd zup
  by_cases h : j = i.toNat
  · rw [if_pos h, if_pos (by omega)]
  · rw [if_neg h, if_neg (by omega)]
section ZB
variable {p : Program} {l : Launch} {e : Env} {R : Room} {s : State} {m : MethodId} {args : Array Value} {below : List Frame} {meth : Method} {c : Code} {z : zC} {A : Nat → Prop} {nL : Nat} {Q : State → Prop} {cells slots : Nat} {cc : ByteArray} {own : String} {ws : va_W} {ls : List (Nat × Value)} {st : List Value} {pc : Nat}
theorem zz_iand1 (C : zzFix p s m args meth c z A nL cc own) {a : Int} (d : decode cc pc = .ok (.iand, 1)) (k : zzW p l e R s m args below meth c z A nL Q cells slots ws ls (.int (iI (a % 2)) :: st) (pc + 1)) : zzW p l e R s m args below meth c z A nL Q cells slots ws ls (.int (iI 1) :: .int (iI a) :: st) pc :=
  fun H locs arr hP hD hS hl => lv_iand C.1.1 C.1.2.1 d (by rw [iI_and1]; exact k H locs arr hP hD hS hl)
theorem zz_iand31 (C : zzFix p s m args meth c z A nL cc own) {a : Int} (d : decode cc pc = .ok (.iand, 1)) (k : zzW p l e R s m args below meth c z A nL Q cells slots ws ls (.int (iI (a % 32)) :: st) (pc + 1)) : zzW p l e R s m args below meth c z A nL Q cells slots ws ls (.int (iI 31) :: .int (iI a) :: st) pc :=
  fun H locs arr hP hD hS hl => lv_iand C.1.1 C.1.2.1 d (by rw [iI_and31]; exact k H locs arr hP hD hS hl)
theorem zz_iand255 (C : zzFix p s m args meth c z A nL cc own) {a : Int} (d : decode cc pc = .ok (.iand, 1)) (k : zzW p l e R s m args below meth c z A nL Q cells slots ws ls (.int (iI (a % 256)) :: st) (pc + 1)) : zzW p l e R s m args below meth c z A nL Q cells slots ws ls (.int (iI 255) :: .int (iI a) :: st) pc :=
  fun H locs arr hP hD hS hl => lv_iand C.1.1 C.1.2.1 d (by rw [iI_and255]; exact k H locs arr hP hD hS hl)
theorem zz_iandb (C : zzFix p s m args meth c z A nL cc own) {u : Int} (hu : 0 ≤ u ∧ u < 256) (d : decode cc pc = .ok (.iand, 1)) (k : zzW p l e R s m args below meth c z A nL Q cells slots ws ls (.int (iI u) :: st) (pc + 1)) : zzW p l e R s m args below meth c z A nL Q cells slots ws ls (.int (iI 255) :: .int (iI (sb u)) :: st) pc :=
  fun H locs arr hP hD hS hl => lv_iand C.1.1 C.1.2.1 d (by rw [iI_and255, sb_mod hu]; exact k H locs arr hP hD hS hl)
theorem zz_ishr (C : zzFix p s m args meth c z A nL cc own) {a b : Int} (ha : rI a) (hb : 0 ≤ b ∧ b < 32) (d : decode cc pc = .ok (.ishr, 1)) (k : zzW p l e R s m args below meth c z A nL Q cells slots ws ls (.int (iI (a / 2 ^ b.toNat)) :: st) (pc + 1)) : zzW p l e R s m args below meth c z A nL Q cells slots ws ls (.int (iI b) :: .int (iI a) :: st) pc :=
  fun H locs arr hP hD hS hl => lv_ishr C.1.1 C.1.2.1 d (by rw [iI_shr ha hb]; exact k H locs arr hP hD hS hl)
theorem zz_ishl1 (C : zzFix p s m args meth c z A nL cc own) {b : Int} (hb : 0 ≤ b ∧ b < 31) (d : decode cc pc = .ok (.ishl, 1)) (k : zzW p l e R s m args below meth c z A nL Q cells slots ws ls (.int (iI (2 ^ b.toNat)) :: st) (pc + 1)) : zzW p l e R s m args below meth c z A nL Q cells slots ws ls (.int (iI b) :: .int (iI 1) :: st) pc :=
  fun H locs arr hP hD hS hl => lv_ishl C.1.1 C.1.2.1 d (by rw [iI_shl1 _ hb]; exact k H locs arr hP hD hS hl)
theorem zz_ushrb (C : zzFix p s m args meth c z A nL cc own) {a b : Int} (hb : b = 0 ∨ b = 8 ∨ b = 16 ∨ b = 24) (d : decode cc pc = .ok (.iushr, 1)) (d2 : decode cc (pc + 1) = .ok (.i2b, 1)) (k : zzW p l e R s m args below meth c z A nL Q cells slots ws ls (.int (iI (sb (byteZ a b))) :: st) (pc + 1 + 1)) : zzW p l e R s m args below meth c z A nL Q cells slots ws ls (.int (iI b) :: .int (iI a) :: st) pc :=
  fun H locs arr hP hD hS hl => lv_iushr C.1.1 C.1.2.1 d rfl (lv_i2b C.1.1 C.1.2.1 d2 (iI_ub hb) (k H locs arr hP hD hS hl))
theorem zz_bald (C : zzFix p s m args meth c z A nL cc own) (q0 : Nat) {a n : Nat} {T : Int → Int} {i : Int} (he : ws[q0]? = some (a, brow n (z.2.1 0) T)) (h0 : 0 ≤ i) (h1 : i < (n : Int)) (hn : n ≤ 1000000) (d : decode cc pc = .ok (.baload, 1)) (kk : zzW p l e R s m args below meth c z A nL Q cells slots ws ls (.int (iI (sb (T i))) :: st) (pc + 1)) : zzW p l e R s m args below meth c z A nL Q cells slots ws ls (.int (iI i) :: .ref a :: st) pc := by
  intro H locs arr hP hD hS hl
  obtain ⟨g1, g2⟩ := iI_idx h0 h1 hn
  refine va_bald (D := z.1) C.1.1 C.1.2.1 C.2.1 hP q0 0 he rfl g1 d ?_
  rw [g2, Int.toNat_of_nonneg h0]
  exact kk H locs arr hP hD hS hl
theorem zz_bast (C : zzFix p s m args meth c z A nL cc own) (q0 : Nat) {a n : Nat} {T : Int → Int} {i u : Int} {ws' : va_W} (he : ws[q0]? = some (a, brow n (z.2.1 0) T)) (h0 : 0 ≤ i) (h1 : i < (n : Int)) (hn : n ≤ 1000000) (hu : 0 ≤ u ∧ u < 256) (hw : ws.set q0 (a, brow n (z.2.1 0) (zup T i u)) = ws') (d : decode cc pc = .ok (.bastore, 1)) (kk : zzW p l e R s m args below meth c z A nL Q cells slots ws' ls st (pc + 1)) : zzW p l e R s m args below meth c z A nL Q cells slots ws ls (.int (iI (sb u)) :: .int (iI i) :: .ref a :: st) pc := by
  intro H locs arr hP hD hS hl
  obtain ⟨g1, g2⟩ := iI_idx h0 h1 hn
  refine va_bast (D := z.1) C.1.1 C.1.2.1 C.2.1 hP hD hS q0 0 he rfl g1 d (fun H1 locs1 p1 p2 p3 => ?_)
  have e9 : vp_nar .byte (iI (sb u)) = iI (sb u) := by
    rw [vp_nar_byte, iI_8]
    have h9 := sb_rng hu
    rw [iI_toInt ⟨by omega, by omega⟩, sb_mod hu]
  rw [g2, e9, brow_up h0] at p1 p2
  exact kk H1 locs1 arr (hw ▸ p1) (hw ▸ p2) p3 hl
theorem zz_tabIn (C : zzFix p s m args meth c z A nL cc own) (j : Int) {a dflt lo hi off : Int} {offs : Array Int} {len tgt : Nat} (d : decode cc pc = .ok (.tableswitch dflt lo hi offs, len)) (hj : a = j) (hr : rI j) (h1 : ¬ j < lo) (h2 : ¬ hi < j) (ho : offs[(j - lo).toNat]? = some off) (ht : (pc : Int) + off = (tgt : Int)) (k : zzW p l e R s m args below meth c z A nL Q cells slots ws ls st tgt) : zzW p l e R s m args below meth c z A nL Q cells slots ws ls (.int (iI a) :: st) pc := by
  intro H locs arr hP hD hS hl
  subst hj
  exact lv_tableIn C.1.1 C.1.2.1 d (by rw [iI_toInt hr]; exact h1) (by rw [iI_toInt hr]; exact h2) (by rw [iI_toInt hr]; exact ho) ht (k H locs arr hP hD hS hl)
theorem zz_tabOut (C : zzFix p s m args meth c z A nL cc own) {a dflt lo hi : Int} {offs : Array Int} {len tgt : Nat} (d : decode cc pc = .ok (.tableswitch dflt lo hi offs, len)) (hr : rI a) (h : a < lo ∨ hi < a) (ht : (pc : Int) + dflt = (tgt : Int)) (k : zzW p l e R s m args below meth c z A nL Q cells slots ws ls st tgt) : zzW p l e R s m args below meth c z A nL Q cells slots ws ls (.int (iI a) :: st) pc := by
  intro H locs arr hP hD hS hl
  exact lv_tableOut C.1.1 C.1.2.1 d (by rw [iI_toInt hr]; exact h) ht (k H locs arr hP hD hS hl)
end ZB
