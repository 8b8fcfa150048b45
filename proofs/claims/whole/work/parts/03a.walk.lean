def iI (a : Int) : Int32 := Int32.ofInt a
def iL (a : Int) : Int64 := Int64.ofInt a
theorem iI_add (a b : Int) : iI a + iI b = iI (a + b) := Int32.toBitVec.inj (by simp [iI, BitVec.ofInt_add])
theorem iI_mul (a b : Int) : iI a * iI b = iI (a * b) := Int32.toBitVec.inj (by simp [iI, BitVec.ofInt_mul])
theorem iI_neg (a : Int) : -iI a = iI (-a) := Int32.neg_ofInt
theorem iI_sub (a b : Int) : iI a - iI b = iI (a - b) := by rw [Int32.sub_eq_add_neg, iI_neg, iI_add, Int.sub_eq_add_neg]
theorem iL_add (a b : Int) : iL a + iL b = iL (a + b) := Int64.toBitVec.inj (by simp [iL, BitVec.ofInt_add])
theorem iL_mul (a b : Int) : iL a * iL b = iL (a * b) := Int64.toBitVec.inj (by simp [iL, BitVec.ofInt_mul])
theorem iL_neg (a : Int) : -iL a = iL (-a) := Int64.neg_ofInt
theorem iL_sub (a b : Int) : iL a - iL b = iL (a - b) := by rw [Int64.sub_eq_add_neg, iL_neg, iL_add, Int.sub_eq_add_neg]
/-- in the range of an int, of a long -/
def rI (a : Int) : Prop := -2147483648 ≤ a ∧ a < 2147483648
def rL (a : Int) : Prop := -9223372036854775808 ≤ a ∧ a < 9223372036854775808
theorem iI_toInt {a : Int} (h : rI a) : (iI a).toInt = a := Int32.toInt_ofInt_of_le (by have := h.1; omega) (by have := h.2; omega)
theorem iL_toInt {a : Int} (h : rL a) : (iL a).toInt = a := Int64.toInt_ofInt_of_le (by have := h.1; omega) (by have := h.2; omega)
theorem iI_of (x : Int32) : x = iI x.toInt := (Int32.ofInt_toInt x).symm
theorem iI_rng (x : Int32) : rI x.toInt := ⟨by have := Int32.le_toInt x; omega, by have := Int32.toInt_lt x; omega⟩
theorem iL_of (x : Int64) : x = iL x.toInt := (Int64.ofInt_toInt x).symm
theorem iI_eq {a b : Int} (ha : rI a) (hb : rI b) : iI a = iI b ↔ a = b := ⟨fun h => by have := congrArg Int32.toInt h; rwa [iI_toInt ha, iI_toInt hb] at this, fun h => by rw [h]⟩
theorem iI_lt {a b : Int} (ha : rI a) (hb : rI b) : iI a < iI b ↔ a < b := by rw [Int32.lt_iff_toInt_lt, iI_toInt ha, iI_toInt hb]
theorem iI_le {a b : Int} (ha : rI a) (hb : rI b) : iI a ≤ iI b ↔ a ≤ b := by rw [Int32.le_iff_toInt_le, iI_toInt ha, iI_toInt hb]
theorem iL_eq {a b : Int} (ha : rL a) (hb : rL b) : iL a = iL b ↔ a = b := ⟨fun h => by have := congrArg Int64.toInt h; rwa [iL_toInt ha, iL_toInt hb] at this, fun h => by rw [h]⟩
theorem iL_lt {a b : Int} (ha : rL a) (hb : rL b) : iL a < iL b ↔ a < b := by rw [Int64.lt_iff_toInt_lt, iL_toInt ha, iL_toInt hb]
theorem iL_le {a b : Int} (ha : rL a) (hb : rL b) : iL a ≤ iL b ↔ a ≤ b := by rw [Int64.le_iff_toInt_le, iL_toInt ha, iL_toInt hb]
theorem iI_wide {a : Int} (h : rI a) : (iI a).toInt64 = iL a := Int32.toInt64_ofInt (by have := h.1; exact this) (by have := h.2; show a ≤ 2147483647; omega)
theorem iL_narrow (a : Int) : (iL a).toInt32 = iI a := Int64.toInt32_ofInt
theorem iL_div {a b : Int} (ha : rL a) (hb : rL b) (hm : a ≠ -9223372036854775808) : iL a / iL b = iL (a.tdiv b) := by
  refine Int64.toInt_inj.mp ?_
  rw [Int64.toInt_div_of_ne_left _ _ (fun h => hm (by have := congrArg Int64.toInt h; rw [iL_toInt ha] at this; exact this)), iL_toInt ha, iL_toInt hb, iL_toInt]
  have h1 := Int.natAbs_tdiv a b
  have h2 : (a.tdiv b).natAbs ≤ a.natAbs := by rw [h1]; exact Nat.div_le_self _ _
  have := ha.1; have := ha.2
  exact ⟨by omega, by omega⟩
theorem iL_rem {a b : Int} (ha : rL a) (hb : rL b) (hm : a ≠ -9223372036854775808) : iL a - iL a / iL b * iL b = iL (a.tmod b) := by
  rw [iL_div ha hb hm, iL_mul, iL_sub]
  have := Int.mul_tdiv_add_tmod a b
  congr 1
  have h2 : a.tdiv b * b = b * a.tdiv b := Int.mul_comm _ _
  omega
theorem iI_idx {i : Int} {n : Nat} (h0 : 0 ≤ i) (h1 : i < (n : Int)) (hn : n ≤ 1000000) : vp_in (iI i) n ∧ (iI i).toNatClampNeg = i.toNat := by
  have hr : rI i := ⟨by omega, by omega⟩
  refine ⟨vp_in_iff.mpr ⟨by rw [iI_toInt hr]; exact h0, by rw [iI_toInt hr]; exact h1⟩, ?_⟩
  show (iI i).toInt.toNat = _
  rw [iI_toInt hr]
/-- contents of arrays by Int places -/
def zup (T : Int → Int) (i v : Int) : Int → Int := fun j => if j = i then v else T j
theorem zup_eq (T : Int → Int) (i v : Int) : zup T i v i = v := if_pos rfl
theorem zup_ne {T : Int → Int} {i v j : Int} (h : j ≠ i) : zup T i v j = T j := if_neg h
def irow (n : Nat) (cA : ClassId) (T : Int → Int) : va_E := .inl (cA, n, .inl (fun j : Nat => iI (T (j : Int))))
def lrow (n : Nat) (cA : ClassId) (T : Int → Int) : va_E := .inl (cA, n, .inr (.inl (fun j : Nat => iL (T (j : Int)))))
def qrow (n : Nat) (cA : ClassId) (r : Int → Nat) : va_E := .inl (cA, n, .inr (.inr (.inr (.inr (fun j : Nat => some (r (j : Int)))))))
theorem irow_up {T : Int → Int} {i v : Int} (h0 : 0 ≤ i) : upd (fun j : Nat => iI (T (j : Int))) i.toNat (iI v) = fun j : Nat => iI (zup T i v (j : Int)) := by
  funext j
  unfold upd zup
  by_cases h : j = i.toNat
  · rw [if_pos h, if_pos (by omega)]
  · rw [if_neg h, if_neg (by omega)]
theorem lrow_up {T : Int → Int} {i v : Int} (h0 : 0 ≤ i) : vp_updL (fun j : Nat => iL (T (j : Int))) i.toNat (iL v) = fun j : Nat => iL (zup T i v (j : Int)) := by
  funext j
  unfold vp_updL zup
  by_cases h : j = i.toNat
  · rw [if_pos h, if_pos (by omega)]
  · rw [if_neg h, if_neg (by omega)]
/-- the world's constants: slots of classes, array classes (0 byte, 1 int, 2 long, 3 rows of long), cells of the static arrays -/
abbrev zC : Type := va_G × (Nat → ClassId) × (Nat → Nat)
def zT (z : zC) : List (ClassId × FieldType) := [(z.2.1 0, .byte), (z.2.1 1, .int), (z.2.1 2, .long), (z.2.1 3, .array .long)]
def zLEAST (j : Nat) : Int := [1, 1, 0, 0, 0, 0, 1, 1, 0, 0, 0].getD j 0
def zGREATEST (j : Nat) : Int := [4, 0, 200, 6, 0, 20, 40, 200, 12, 99, 9999].getD j 0
def zNUMBERS (j : Nat) : Int := [1, 2, 2, 4, 2].getD j 0
def zROLES (j : Nat) : Int := [0, -1, -1, -1, 1, 2, -1, -1, 1, 3, -1, -1, 5, 6, 1, 7, 4, 8, -1, -1].getD j 0
def zArr (C n : String) (N : Nat) (f : Nat → Int) (t : Nat) (A : Nat → Prop) (U : State) : Prop := va_Z C n "[I" (.ref t) A U U.heap ∧ va_T .int t N (fun j => .int (iI (f j))) A U U.heap
/-- the links between nest mates -/
def zNests : List Cond := [.fieldLinkNest RX6 34 "LiabilityMatcher" "LEAST" "[I" "LiabilityMatcher", .fieldLinkNest RX6 37 "LiabilityMatcher" "GREATEST" "[I" "LiabilityMatcher", .methodLinkNest "LiabilityMatcher" 11 ⟨"LiabilityMatcher$Text", "<init>", "()V"⟩ "LiabilityMatcher", .methodLinkNest "LiabilityMatcher" 18 ⟨"LiabilityMatcher$BestCover", "<init>", "()V"⟩ "LiabilityMatcher", .methodLinkNest "LiabilityMatcher$BestCover" 11 ⟨"LiabilityMatcher$Cover", "<init>", "()V"⟩ "LiabilityMatcher", .methodLinkNest "LiabilityMatcher$BestCover" 20 ⟨"LiabilityMatcher$Proof", "<init>", "()V"⟩ "LiabilityMatcher", .methodLinkNest "LiabilityMatcher$BestCover" 40 ⟨"LiabilityMatcher$Equations", "<init>", "()V"⟩ "LiabilityMatcher", .methodLinkNest "LiabilityMatcher$BestCover" 47 ⟨"LiabilityMatcher$Basis", "<init>", "()V"⟩ "LiabilityMatcher", .methodLinkNest "LiabilityMatcher" 25 ⟨"LiabilityMatcher$LotCover", "<init>", "()V"⟩ "LiabilityMatcher", .methodLinkNest "LiabilityMatcher" 32 ⟨"LiabilityMatcher$HeldRun", "<init>", "()V"⟩ "LiabilityMatcher", .methodLinkNest "LiabilityMatcher" 39 ⟨"LiabilityMatcher$Plan", "<init>", "()V"⟩ "LiabilityMatcher"]
def zLenW : List Nat := [5, 3, 4, 4, 4]
def zBytW : List (List Int32) := [[100, 97, 116, 101, 115], [112, 97, 121], [114, 97, 116, 101], [98, 111, 110, 100], [109, 111, 115, 116]]
def zRs (z : zC) (U : State) : Prop := vk_R "LiabilityMatcher$Text" 111 "dates" (z.2.2 10) U ∧ vk_R "LiabilityMatcher$Text" 113 "pay" (z.2.2 11) U ∧ vk_R "LiabilityMatcher$Text" 115 "\x72ate" (z.2.2 12) U ∧ vk_R "LiabilityMatcher$Text" 117 "bond" (z.2.2 13) U ∧ vk_R "LiabilityMatcher$Text" 119 "most" (z.2.2 14) U ∧ vk_R "LiabilityMatcher" 134 "no such bond" (z.2.2 15) U ∧ vk_R "LiabilityMatcher" 139 "nothing such of a bond" (z.2.2 16) U
/-- the String constants, what String and Throwable hold -/
def zK (z : zC) (A : Nat → Prop) (U : State) : Prop := vk_S 5 zLenW zBytW (fun i => z.2.2 (10 + i)) (fun i => z.2.2 (20 + i)) A U U.heap ∧ zRs z U ∧ va_Z "java/lang/String" "COMPACT_STRINGS" "Z" (.int 1) A U U.heap ∧ va_Zq "jdk/internal/util/Preconditions" "SIOOBE_FORMATTER" "Ljava/util/function/BiFunction;" A U U.heap ∧ vx_Zq Bundle.tN "UNASSIGNED_STACK" Bundle.steD A U U.heap ∧ vx_Zq Bundle.tN "SUPPRESSED_SENTINEL" Bundle.listD A U U.heap
theorem zRs.warm {z : zC} {s U : State} (hW : s.WarmedH U.vm) (h : zRs z s) : zRs z U :=
  ⟨h.1.warm hW, h.2.1.warm hW, h.2.2.1.warm hW, h.2.2.2.1.warm hW, h.2.2.2.2.1.warm hW, h.2.2.2.2.2.1.warm hW, h.2.2.2.2.2.2.warm hW⟩
theorem zRs.same {z : zC} {s U : State} (hv : U.vm = s.vm) (h : zRs z s) : zRs z U :=
  ⟨h.1.same hv, h.2.1.same hv, h.2.2.1.same hv, h.2.2.2.1.same hv, h.2.2.2.2.1.same hv, h.2.2.2.2.2.1.same hv, h.2.2.2.2.2.2.same hv⟩
theorem zK.go {z : zC} {A B : Nat → Prop} {s U : State} {locs : List Loc} (h : zK z A s) (hS : va_S A s.heap U.heap locs) (hvm : s.vm.Alike U.vm) (hR : zRs z U) (hAB : ∀ q, B q → A q) : zK z B U :=
  ⟨((h.1.kept hS.2.1).moved hvm).narrow hAB, hR, ((h.2.2.1.kept hS.2.1).moved hvm).narrow hAB, ((h.2.2.2.1.kept hS.2.1).moved hvm).narrow hAB, ((h.2.2.2.2.1.kept hS.2.1).moved hvm).narrow hAB, ((h.2.2.2.2.2.kept hS.2.1).moved hvm).narrow hAB⟩
def zG (z : zC) (A : Nat → Prop) (U : State) : Prop := zArr "LiabilityMatcher" "LEAST" 11 zLEAST (z.2.2 0) A U ∧ zArr "LiabilityMatcher" "GREATEST" 11 zGREATEST (z.2.2 1) A U ∧ zArr "LiabilityMatcher$Text" "NUMBERS" 5 zNUMBERS (z.2.2 2) A U ∧ zArr "LiabilityMatcher$Text" "ROLES" 20 zROLES (z.2.2 3) A U ∧ (∀ w ∈ zNests, va_Nw w U) ∧ zK z A U
theorem zArr.go {C n : String} {N : Nat} {f : Nat → Int} {t : Nat} {A B : Nat → Prop} {s U : State} {locs : List Loc} (h : zArr C n N f t A s) (hS : va_S A s.heap U.heap locs) (hvm : s.vm.Alike U.vm) (hAB : ∀ q, B q → A q) : zArr C n N f t B U :=
  ⟨((h.1.kept hS.2.1).moved hvm).narrow hAB, ((h.2.kept hS.2.1).moved hvm).narrow hAB⟩
theorem zNest_warm {w : Cond} (hw : w ∈ zNests) {s U : State} (hW : s.WarmedH U.vm) (h : va_Nw w s) : va_Nw w U := by
  simp only [zNests, List.mem_cons, List.not_mem_nil, or_false] at hw
  rcases hw with rfl | rfl | rfl | rfl | rfl | rfl | rfl | rfl | rfl | rfl | rfl <;> first | exact va_Nw.warmF hW h | exact va_Nw.warmM hW h
theorem zNest_same {w : Cond} (hw : w ∈ zNests) {s U : State} (hv : s.vm = U.vm) (h : va_Nw w s) : va_Nw w U := by
  simp only [zNests, List.mem_cons, List.not_mem_nil, or_false] at hw
  rcases hw with rfl | rfl | rfl | rfl | rfl | rfl | rfl | rfl | rfl | rfl | rfl <;> exact va_Nw.same rfl hv h
theorem zG.go {z : zC} {A B : Nat → Prop} {s U : State} {locs : List Loc} (h : zG z A s) (hS : va_S A s.heap U.heap locs) (hW : s.WarmedH U.vm) (hAB : ∀ q, B q → A q) : zG z B U :=
  ⟨h.1.go hS hW.alike hAB, h.2.1.go hS hW.alike hAB, h.2.2.1.go hS hW.alike hAB, h.2.2.2.1.go hS hW.alike hAB, fun w hw => zNest_warm hw hW (h.2.2.2.2.1 w hw), h.2.2.2.2.2.go hS hW.alike (h.2.2.2.2.2.2.1.warm hW) hAB⟩
theorem zG.calling {z : zC} {A : Nat → Prop} {U : State} {g : JFrame} {mk : MethodId} {a : Array Value} (h : zG z A U) : zG z A (U.calling g mk a) :=
  have hS : va_S A U.heap (U.calling g mk a).heap [] := va_S.rf
  have hv : U.vm.Alike (U.calling g mk a).vm := Vm.Alike.refl U.vm
  ⟨h.1.go hS hv (fun _ h => h), h.2.1.go hS hv (fun _ h => h), h.2.2.1.go hS hv (fun _ h => h), h.2.2.2.1.go hS hv (fun _ h => h), fun w hw => zNest_same (s := U) (U := U.calling g mk a) hw rfl (h.2.2.2.2.1 w hw), h.2.2.2.2.2.go hS hv (h.2.2.2.2.2.2.1.same rfl) (fun _ h => h)⟩
/-- what stays the same through a method's walk -/
def zzFix (p : Program) (s : State) (m : MethodId) (args : Array Value) (meth : Method) (c : Code) (z : zC) (A : Nat → Prop) (nL : Nat) (cc : ByteArray) (own : String) : Prop :=
  CallFix p m c cc nL s args lwG own ∧ va_K z.1 vwCl (zT z) s ∧ (∀ q, s.heap.size ≤ q → A q) ∧ zG z A s ∧ meth.locks = false
/-- the walk: world, locals, stack, place -/
def zzW (p : Program) (l : Launch) (e : Env) (R : Room) (s : State) (m : MethodId) (args : Array Value) (below : List Frame) (meth : Method) (c : Code) (z : zC) (A : Nat → Prop) (nL : Nat) (Q : State → Prop) (cells slots : Nat) (ws : va_W) (ls : List (Nat × Value)) (st : List Value) (pc : Nat) : Prop :=
  ∀ (H : Heap) (locs : List Loc) (arr : Array Slot), va_P z.1 vwCl ws H → va_D A ws → va_S A s.heap H locs → lv_has arr nL ls → W p l e R s m args below meth c H locs cells slots Q (F0 m pc arr st)
