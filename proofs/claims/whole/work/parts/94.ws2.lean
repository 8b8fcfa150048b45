/-- what the law's entry gives: the constants of the walk -/
theorem ws_A (sz : Nat) : ∀ a : Nat, a < sz → ¬ va_A [] sz a := by
  intro a h hA
  rcases hA with ⟨k, e, h1⟩ | h1
  · rw [List.getElem?_nil] at h1; cases h1
  · omega
theorem ws_cls {s : State} {args : Array Value} (hts : ∀ w ∈ lwG, w.before args s = true) : ∃ D : va_G, ∀ (c : Nat) (q : vw_C), vwCl[c]? = some q → u_Kn s q.1 q.2.1 q.2.2 (D.1 c) (D.2 c) := by
  obtain ⟨c0, i0, h0⟩ := u_known (C := RX0) (T := TX0) (N := 4) hts in_X0 (hts _ qw_154)
  obtain ⟨c1, i1, h1⟩ := u_known (C := RX1) (T := TX1) (N := 8) hts in_X1 (hts _ qw_65)
  obtain ⟨c2, i2, h2⟩ := u_known (C := RX2) (T := TX2) (N := 3) hts in_X2 (hts _ qw_71)
  obtain ⟨c3, i3, h3⟩ := u_known (C := RX3) (T := TX3) (N := 6) hts in_X3 (hts _ qw_113)
  obtain ⟨c4, i4, h4⟩ := u_known (C := RX4) (T := TX4) (N := 5) hts in_X4 (hts _ qw_260)
  obtain ⟨c5, i5, h5⟩ := u_known (C := RX5) (T := TX5) (N := 13) hts in_X5 (hts _ qw_209)
  obtain ⟨c6, i6, h6⟩ := u_known (C := RX6) (T := TX6) (N := 5) hts in_X6 (hts _ qw_287)
  obtain ⟨c7, i7, h7⟩ := u_known (C := RX7) (T := TX7) (N := 3) hts in_X7 (hts _ qw_94)
  obtain ⟨c8, i8, h8⟩ := u_known (C := RX8) (T := TX8) (N := 7) hts in_X8 (hts _ qw_33)
  obtain ⟨c9, i9, h9⟩ := u_known (C := RX9) (T := TX9) (N := 10) hts in_X9 (hts _ qw_25)
  obtain ⟨c10, i10, h10⟩ := u_known (C := RX10) (T := TX10) (N := 38) hts in_X10 (hts _ qw_921)
  refine ⟨(fun k => [c0, c1, c2, c3, c4, c5, c6, c7, c8, c9, c10].getD k c0, fun k => [i0, i1, i2, i3, i4, i5, i6, i7, i8, i9, i10].getD k i0), fun c q h => ?_⟩
  match c, h with
  | 0, h => cases h; exact h0
  | 1, h => cases h; exact h1
  | 2, h => cases h; exact h2
  | 3, h => cases h; exact h3
  | 4, h => cases h; exact h4
  | 5, h => cases h; exact h5
  | 6, h => cases h; exact h6
  | 7, h => cases h; exact h7
  | 8, h => cases h; exact h8
  | 9, h => cases h; exact h9
  | 10, h => cases h; exact h10
  | n + 11, h => cases h
theorem ws_tys {s : State} {args : Array Value} (hts : ∀ w ∈ lwG, w.before args s = true) (hAO : va_AOA .long s) : ∃ y : Nat → ClassId, ∀ (k : Nat) (q : ClassId × FieldType), [(y 0, FieldType.byte), (y 1, .int), (y 2, .long), (y 3, .array .long)][k]? = some q → ArrOfT s q.1 q.2 ∧ va_RA s q.1 q.2 := by
  obtain ⟨c0, h0⟩ := ws_arr (ty := .byte) (fun C h => by cases h) (hts _ qw_62)
  obtain ⟨c1, h1⟩ := ws_arr (ty := .int) (fun C h => by cases h) (hts _ qw_63)
  obtain ⟨c2, h2⟩ := ws_arr (ty := .long) (fun C h => by cases h) (hts _ qw_92)
  obtain ⟨c3, h3⟩ := ws_arr2 hAO
  refine ⟨fun k => [c0, c1, c2, c3].getD k c0, fun k q h => ?_⟩
  match k, h with
  | 0, h => cases h; exact h0
  | 1, h => cases h; exact h1
  | 2, h => cases h; exact h2
  | 3, h => cases h; exact h3
  | n + 4, h => cases h
theorem ws_stat {s : State} {args : Array Value} {C n : String} {N : Nat} {f : Nat → Int} (hN : N < 2 ^ 31) (hl : (Cond.laysStatic C n "[I").before args s = true) (hini : (Cond.initialized C).before args s = true) (harr : (Cond.arrayOf (.static C n "[I") .int).before args s = true) (hlen : (Cond.eq (.length (.static C n "[I")) (.int (Int32.ofNat N))).before args s = true) (hel : ∀ j : Nat, j < N → (Cond.eq (.elem (.static C n "[I") (.int (Int32.ofNat j))) (.int (iI (f j)))).before args s = true) : ∃ t : Nat, zArr C n N f t (va_A [] s.heap.size) s := by
  obtain ⟨t, ht, hT⟩ := va_Tof (f := fun j => .int (iI (f j))) hN harr (va_eqt hlen) (fun j hj => va_eqt (hel j hj)) (ws_A s.heap.size)
  exact ⟨t, va_Zof hl hini ht (ws_A s.heap.size), hT⟩
theorem vk_S_congr {N : Nat} {len : List Nat} {byt : List (List Int32)} {f g f' g' : Nat → Nat} {A : Nat → Prop} {U : State} {H : Heap} (hf : ∀ i, i < N → f i = f' i) (hg : ∀ i, i < N → g i = g' i) (h : vk_S N len byt f' g' A U H) : vk_S N len byt f g A U H :=
  ⟨fun i hi => by rw [hf i hi, hg i hi]; exact h.1 i hi, fun i j hi hj e => h.2 i j hi hj (by rw [← hf i hi, ← hf j hj]; exact e)⟩
def wsTm (i : Nat) : Term := .string "LiabilityMatcher$Text" ([111, 113, 115, 117, 119].getD i 0)
def wsN : List Cond := flatC (Cond.and given_1 narrow_1)
def wsE : List Cond := [.eq (.static "java/lang/String" "COMPACT_STRINGS" "Z") (.int 1), .isRef (.static "jdk/internal/util/Preconditions" "SIOOBE_FORMATTER" "Ljava/util/function/BiFunction;"), .isRef (.static Bundle.tN "UNASSIGNED_STACK" Bundle.steD), .isRef (.static Bundle.tN "SUPPRESSED_SENTINEL" Bundle.listD), .exactly (.string "LiabilityMatcher" 134) "java/lang/String", .exactly (.string "LiabilityMatcher" 139) "java/lang/String"]
theorem wsE_in : ∀ w ∈ wsE, w ∈ wsN := by decide +kernel
theorem ws_LEAST : Cond.arrayOf (.static "LiabilityMatcher" "LEAST" "[I") .int ∈ wsN ∧ Cond.eq (.length (.static "LiabilityMatcher" "LEAST" "[I")) (.int (Int32.ofNat 11)) ∈ wsN ∧ ∀ j : Nat, j < 11 → Cond.eq (.elem (.static "LiabilityMatcher" "LEAST" "[I") (.int (Int32.ofNat j))) (.int (iI (zLEAST j))) ∈ wsN := by decide +kernel
theorem ws_GREATEST : Cond.arrayOf (.static "LiabilityMatcher" "GREATEST" "[I") .int ∈ wsN ∧ Cond.eq (.length (.static "LiabilityMatcher" "GREATEST" "[I")) (.int (Int32.ofNat 11)) ∈ wsN ∧ ∀ j : Nat, j < 11 → Cond.eq (.elem (.static "LiabilityMatcher" "GREATEST" "[I") (.int (Int32.ofNat j))) (.int (iI (zGREATEST j))) ∈ wsN := by decide +kernel
theorem ws_NUMBERS : Cond.arrayOf (.static "LiabilityMatcher$Text" "NUMBERS" "[I") .int ∈ wsN ∧ Cond.eq (.length (.static "LiabilityMatcher$Text" "NUMBERS" "[I")) (.int (Int32.ofNat 5)) ∈ wsN ∧ ∀ j : Nat, j < 5 → Cond.eq (.elem (.static "LiabilityMatcher$Text" "NUMBERS" "[I") (.int (Int32.ofNat j))) (.int (iI (zNUMBERS j))) ∈ wsN := by decide +kernel
theorem ws_ROLES : Cond.arrayOf (.static "LiabilityMatcher$Text" "ROLES" "[I") .int ∈ wsN ∧ Cond.eq (.length (.static "LiabilityMatcher$Text" "ROLES" "[I")) (.int (Int32.ofNat 20)) ∈ wsN ∧ ∀ j : Nat, j < 20 → Cond.eq (.elem (.static "LiabilityMatcher$Text" "ROLES" "[I") (.int (Int32.ofNat j))) (.int (iI (zROLES j))) ∈ wsN := by decide +kernel
theorem ws_S1 : ∀ i : Nat, i < 5 → Cond.exactly (wsTm i) "java/lang/String" ∈ wsN ∧ Cond.eq (.field (wsTm i) "java/lang/String" "coder" "B") (.int 0) ∈ wsN ∧ Cond.arrayOf (.field (wsTm i) "java/lang/String" "value" "[B") .byte ∈ wsN ∧ Cond.eq (.length (.field (wsTm i) "java/lang/String" "value" "[B")) (.int (Int32.ofNat (zLenW.getD i 0))) ∈ wsN := by decide +kernel
theorem ws_S2 : ∀ i : Nat, i < 5 → ∀ j : Nat, j < zLenW.getD i 0 → Cond.eq (.elem (.field (wsTm i) "java/lang/String" "value" "[B") (.int (Int32.ofNat j))) (.int ((zBytW.getD i []).getD j 0)) ∈ wsN := by decide +kernel
theorem ws_S3 : ∀ i : Nat, i < 5 → ∀ j : Nat, j < 5 → i ≠ j → Cond.not (Cond.eq (wsTm i) (wsTm j)) ∈ wsN ∨ Cond.not (Cond.eq (wsTm j) (wsTm i)) ∈ wsN := by decide +kernel
def wsT : List Cond := [.laysStatic "LiabilityMatcher" "LEAST" "[I", .laysStatic "LiabilityMatcher" "GREATEST" "[I", .laysStatic "LiabilityMatcher$Text" "NUMBERS" "[I", .laysStatic "LiabilityMatcher$Text" "ROLES" "[I", .laysStatic "java/lang/String" "COMPACT_STRINGS" "Z", .laysStatic "jdk/internal/util/Preconditions" "SIOOBE_FORMATTER" "Ljava/util/function/BiFunction;", .laysStatic Bundle.tN "UNASSIGNED_STACK" Bundle.steD, .laysStatic Bundle.tN "SUPPRESSED_SENTINEL" Bundle.listD, .initialized "LiabilityMatcher", .initialized "LiabilityMatcher$Text", .initialized "java/lang/String", .initialized "jdk/internal/util/Preconditions", .initialized Bundle.tN, .stringRef "LiabilityMatcher$Text" 111 "dates", .stringRef "LiabilityMatcher$Text" 113 "pay", .stringRef "LiabilityMatcher$Text" 115 "\x72ate", .stringRef "LiabilityMatcher$Text" 117 "bond", .stringRef "LiabilityMatcher$Text" 119 "most", .stringRef "LiabilityMatcher" 134 "no such bond", .stringRef "LiabilityMatcher" 139 "nothing such of a bond", .arrayOver (.array .long)]
theorem wsT_in : ∀ w ∈ wsT ++ zNests ++ zNL, w ∈ lw_tbl := by decide +kernel
theorem wsT_on : ∀ w ∈ zNests, w.onTables = true := by decide +kernel
def wsP (t0 t1 t2 t3 : Nat) (k v : Nat → Nat) (a b : Nat) (n : Nat) : Nat := if n < 10 then [t0, t1, t2, t3].getD n 0 else if n < 15 then k (n - 10) else if n < 20 then [a, b].getD (n - 15) 0 else v (n - 20)
theorem wsP_k {t0 t1 t2 t3 a b : Nat} {k v : Nat → Nat} (i : Nat) (h : i < 5) : wsP t0 t1 t2 t3 k v a b (10 + i) = k i := by
  unfold wsP
  rw [if_neg (by omega), if_pos (by omega), Nat.add_sub_cancel_left]
theorem wsP_v {t0 t1 t2 t3 a b : Nat} {k v : Nat → Nat} (i : Nat) (h : i < 5) : wsP t0 t1 t2 t3 k v a b (20 + i) = v i := by
  unfold wsP
  rw [if_neg (by omega), if_neg (by omega), if_neg (by omega), Nat.add_sub_cancel_left]
theorem ws_AO {s : State} {args : Array Value} (hts : ∀ w ∈ lw_tbl, w.before args s = true) : va_AOA .long s :=
  have h : (Cond.arrayOver (.array .long)).before args s = true := hts _ (wsT_in (.arrayOver (.array .long)) (by decide +kernel))
  h
theorem ws_NB {s : State} {args : Array Value} (hts : ∀ w ∈ lw_tbl, w.before args s = true) : zNB s := fun w hw =>
  va_tabs (zNL_ok w hw).2 (rfl : s.vm = s.vm) (hts _ (wsT_in w (List.mem_append_right _ hw)))
set_option maxRecDepth 100000 in
theorem ws_z {s : State} {args : Array Value} (hts : ∀ w ∈ lw_tbl, w.before args s = true) (hgv : (Cond.and given_1 narrow_1).before args s = true) : ∃ z : zC, va_K z.1 vwCl (zT z) s ∧ zG z (va_A [] s.heap.size) s := by
  have hs : ∀ w ∈ wsN, w.before args s = true := flat_of_before _ hgv
  have ht : ∀ w ∈ wsT, w.before args s = true := fun w h => hts w (wsT_in w (List.mem_append_left _ (List.mem_append_left _ h)))
  have he : ∀ w ∈ wsE, w.before args s = true := fun w h => hs w (wsE_in w h)
  have htg : ∀ w ∈ lwG, w.before args s = true := fun w h => hts w (List.mem_filter.mp h).1
  have hA := ws_A s.heap.size
  obtain ⟨D, hD⟩ := ws_cls htg
  obtain ⟨y, hy⟩ := ws_tys htg (ws_AO hts)
  obtain ⟨t0, h0⟩ := ws_stat (f := zLEAST) (by decide) (ht _ (by decide +kernel)) (ht _ (by decide +kernel)) (hs _ ws_LEAST.1) (hs _ ws_LEAST.2.1) (fun j hj => hs _ (ws_LEAST.2.2 j hj))
  obtain ⟨t1, h1⟩ := ws_stat (f := zGREATEST) (by decide) (ht _ (by decide +kernel)) (ht _ (by decide +kernel)) (hs _ ws_GREATEST.1) (hs _ ws_GREATEST.2.1) (fun j hj => hs _ (ws_GREATEST.2.2 j hj))
  obtain ⟨t2, h2⟩ := ws_stat (f := zNUMBERS) (by decide) (ht _ (by decide +kernel)) (ht _ (by decide +kernel)) (hs _ ws_NUMBERS.1) (hs _ ws_NUMBERS.2.1) (fun j hj => hs _ (ws_NUMBERS.2.2 j hj))
  obtain ⟨t3, h3⟩ := ws_stat (f := zROLES) (by decide) (ht _ (by decide +kernel)) (ht _ (by decide +kernel)) (hs _ ws_ROLES.1) (hs _ ws_ROLES.2.1) (fun j hj => hs _ (ws_ROLES.2.2 j hj))
  obtain ⟨adK, adV, hS, hev⟩ := vk_Sof (N := 5) (tm := wsTm) (len := zLenW) (byt := zBytW) (by decide) (fun i hi => hs _ (ws_S1 i hi).1) (fun i hi => hs _ (ws_S1 i hi).2.1) (fun i hi => hs _ (ws_S1 i hi).2.2.1) (fun i hi => hs _ (ws_S1 i hi).2.2.2) (fun i hi j hj => hs _ (ws_S2 i hi j hj)) (fun i j hi hj hn => (ws_S3 i hi j hj hn).imp (hs _) (hs _)) hA
  obtain ⟨a, -, -, -, ha, -⟩ := Cond.exactly_spec (args := args) (first := s) (o := none) (s := s) (idx := []) (t := .string "LiabilityMatcher" 134) (cls := "java/lang/String") (he _ (by decide +kernel))
  obtain ⟨b, -, -, -, hb, -⟩ := Cond.exactly_spec (args := args) (first := s) (o := none) (s := s) (idx := []) (t := .string "LiabilityMatcher" 139) (cls := "java/lang/String") (he _ (by decide +kernel))
  refine ⟨(D, y, wsP t0 t1 t2 t3 adK adV a b), ⟨hD, hy⟩, h0, h1, h2, h3, fun w hw => ?_, vk_S_congr (fun i hi => wsP_k i hi) (fun i hi => wsP_v i hi) hS, ?_, va_Zof (ht _ (by decide +kernel)) (ht _ (by decide +kernel)) (va_eqt (he _ (by decide +kernel))) hA, va_Zqof (ht _ (by decide +kernel)) (ht _ (by decide +kernel)) (he _ (by decide +kernel)) hA, vx_Zqof (ht _ (by decide +kernel)) (ht _ (by decide +kernel)) (he _ (by decide +kernel)) hA, vx_Zqof (ht _ (by decide +kernel)) (ht _ (by decide +kernel)) (he _ (by decide +kernel)) hA⟩
  · have q := wsT_in w (List.mem_append_left _ (List.mem_append_right _ hw))
    exact va_Nw.of (wsT_on w hw) (hts w q)
  · exact ⟨vk_R.of (ht _ (by decide +kernel)) (hev 0 (by decide)), vk_R.of (ht _ (by decide +kernel)) (hev 1 (by decide)), vk_R.of (ht _ (by decide +kernel)) (hev 2 (by decide)), vk_R.of (ht _ (by decide +kernel)) (hev 3 (by decide)), vk_R.of (ht _ (by decide +kernel)) (hev 4 (by decide)), vk_R.of (ht _ (by decide +kernel)) ha, vk_R.of (ht _ (by decide +kernel)) hb⟩
theorem ws_tr {l : Launch} (h : l.flags = flags0) : l.stackTraces = false := by
  unfold Launch.stackTraces
  rw [h]
  decide +kernel
