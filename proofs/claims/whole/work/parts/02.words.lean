def lwG : List Cond := lw_tbl.filter goodWord
theorem lwG_t {k : Nat} {w : Cond} (h : tables_1[k]? = some w) (hg : goodWord w = true) : w ∈ lwG := List.mem_filter.mpr ⟨List.mem_append_right _ (List.mem_of_getElem? h), hg⟩
theorem lwG_s {k : Nat} {q : MethodName × Nat} (h : lw_privs[k]? = some q) : Cond.selects q.1.cls q.1 q.1 ∈ lwG := List.mem_filter.mpr ⟨List.mem_append_left _ (List.mem_map.mpr ⟨q, List.mem_of_getElem? h, rfl⟩), rfl⟩
/-- what a call of an instance method needs of the tables, but for its link -/
def zYV (C : String) (y : MethodName) (cc : ByteArray) (nL : Nat) (ret : Option FieldType) (n : Nat) : Prop :=
  Cond.instanceMethod y ∈ lwG ∧ Cond.selects C y y ∈ lwG ∧ Cond.initialized C ∈ lwG ∧ Cond.code y cc nL ret ∈ lwG ∧ y.cls = C ∧ y.cls ≠ "java/lang/invoke/MethodHandle" ∧ y.cls ≠ "java/lang/invoke/VarHandle" ∧ (parseMethodDescriptor y.desc).map (fun d => d.parameters.length) = some n
/-- of a static method -/
def zYS (y : MethodName) (cc : ByteArray) (nL : Nat) (ret : Option FieldType) (n : Nat) : Prop :=
  Cond.static y ∈ lwG ∧ Cond.initialized y.cls ∈ lwG ∧ Cond.code y cc nL ret ∈ lwG ∧ y.cls ≠ "java/lang/invoke/MethodHandle" ∧ y.cls ≠ "java/lang/invoke/VarHandle" ∧ (parseMethodDescriptor y.desc).map (fun d => d.parameters.length) = some n
/-- of a constructor -/
def zYI (y : MethodName) (cc : ByteArray) (nL : Nat) (n : Nat) : Prop :=
  Cond.instanceMethod y ∈ lwG ∧ Cond.initialized y.cls ∈ lwG ∧ Cond.code y cc nL none ∈ lwG ∧ y.name = "<init>" ∧ y.cls ≠ "java/lang/invoke/MethodHandle" ∧ y.cls ≠ "java/lang/invoke/VarHandle" ∧ (parseMethodDescriptor y.desc).map (fun d => d.parameters.length) = some n
theorem qw_0 : Cond.initialized "LiabilityMatcherLaw" ∈ lwG := lwG_t (k := 0) (by decide +kernel) rfl
theorem qw_1 : Cond.initialized "LiabilityMatcher" ∈ lwG := lwG_t (k := 1) (by decide +kernel) rfl
theorem qw_2 : Cond.initialized "LiabilityMatcher$Text" ∈ lwG := lwG_t (k := 2) (by decide +kernel) rfl
theorem qw_3 : Cond.initialized "LiabilityMatcher$BestCover" ∈ lwG := lwG_t (k := 3) (by decide +kernel) rfl
theorem qw_4 : Cond.initialized "LiabilityMatcher$Cover" ∈ lwG := lwG_t (k := 4) (by decide +kernel) rfl
theorem qw_5 : Cond.initialized "LiabilityMatcher$Proof" ∈ lwG := lwG_t (k := 5) (by decide +kernel) rfl
theorem qw_6 : Cond.initialized "LiabilityMatcher$Equations" ∈ lwG := lwG_t (k := 6) (by decide +kernel) rfl
theorem qw_7 : Cond.initialized "LiabilityMatcher$Basis" ∈ lwG := lwG_t (k := 7) (by decide +kernel) rfl
theorem qw_8 : Cond.initialized "LiabilityMatcher$LotCover" ∈ lwG := lwG_t (k := 8) (by decide +kernel) rfl
theorem qw_9 : Cond.initialized "LiabilityMatcher$HeldRun" ∈ lwG := lwG_t (k := 9) (by decide +kernel) rfl
theorem qw_10 : Cond.initialized "LiabilityMatcher$Plan" ∈ lwG := lwG_t (k := 10) (by decide +kernel) rfl
theorem qw_11 : Cond.initialized "LiabilityMatcherModel" ∈ lwG := lwG_t (k := 11) (by decide +kernel) rfl
theorem qw_12 : Cond.initialized "java/lang/System" ∈ lwG := lwG_t (k := 12) (by decide +kernel) rfl
theorem qw_13 : Cond.initialized "java/lang/String" ∈ lwG := lwG_t (k := 13) (by decide +kernel) rfl
theorem qw_14 : Cond.initialized "java/lang/StringLatin1" ∈ lwG := lwG_t (k := 14) (by decide +kernel) rfl
theorem qw_15 : Cond.initialized "jdk/internal/util/Preconditions" ∈ lwG := lwG_t (k := 15) (by decide +kernel) rfl
theorem qw_16 : Cond.initialized "java/lang/StringUTF16" ∈ lwG := lwG_t (k := 16) (by decide +kernel) rfl
theorem qw_17 : Cond.initialized "java/lang/Throwable" ∈ lwG := lwG_t (k := 17) (by decide +kernel) rfl
theorem qw_18 : Cond.initialized "java/lang/Exception" ∈ lwG := lwG_t (k := 18) (by decide +kernel) rfl
theorem qw_19 : Cond.initialized "java/lang/RuntimeException" ∈ lwG := lwG_t (k := 19) (by decide +kernel) rfl
theorem qw_20 : Cond.initialized "java/util/NoSuchElementException" ∈ lwG := lwG_t (k := 20) (by decide +kernel) rfl
theorem qw_21 : Cond.initialized "java/lang/Integer" ∈ lwG := lwG_t (k := 21) (by decide +kernel) rfl
theorem qw_22 : Cond.initialized "java/lang/Long" ∈ lwG := lwG_t (k := 22) (by decide +kernel) rfl
theorem qw_23 : Cond.initialized "java/lang/Math" ∈ lwG := lwG_t (k := 23) (by decide +kernel) rfl
theorem qw_24 : Cond.classLink "LiabilityMatcherLaw" 8 "LiabilityMatcher" ∈ lwG := lwG_t (k := 24) (by decide +kernel) rfl
theorem qw_25 : Cond.instantiable "LiabilityMatcher" 10 ∈ lwG := lwG_t (k := 25) (by decide +kernel) rfl
theorem qw_26 : Cond.methodLink "LiabilityMatcherLaw" 15 yX9_init ∈ lwG := lwG_t (k := 26) (by decide +kernel) rfl
theorem qw_29 : Cond.methodLink "LiabilityMatcher" 3 objectInit ∈ lwG := lwG_t (k := 29) (by decide +kernel) rfl
theorem qw_32 : Cond.classLink "LiabilityMatcher" 9 "LiabilityMatcher$Text" ∈ lwG := lwG_t (k := 32) (by decide +kernel) rfl
theorem qw_33 : Cond.instantiable "LiabilityMatcher$Text" 7 ∈ lwG := lwG_t (k := 33) (by decide +kernel) rfl
theorem qw_37 : Cond.methodLink "LiabilityMatcher$Text" 3 objectInit ∈ lwG := lwG_t (k := 37) (by decide +kernel) rfl
theorem qw_38 : Cond.fieldLink "LiabilityMatcher$Text" 9 "LiabilityMatcher$Text" "size" "I" ∈ lwG := lwG_t (k := 38) (by decide +kernel) rfl
theorem qw_39 : Cond.fieldLink "LiabilityMatcher" 108 "LiabilityMatcher$Text" "size" "I" ∈ lwG := lwG_t (k := 39) (by decide +kernel) rfl
theorem qw_40 : Cond.fieldLink "LiabilityMatcher$Text" 15 "LiabilityMatcher$Text" "foundFault" "I" ∈ lwG := lwG_t (k := 40) (by decide +kernel) rfl
theorem qw_41 : Cond.fieldLink "LiabilityMatcher" 119 "LiabilityMatcher$Text" "foundFault" "I" ∈ lwG := lwG_t (k := 41) (by decide +kernel) rfl
theorem qw_42 : Cond.fieldLink "LiabilityMatcher$Text" 18 "LiabilityMatcher$Text" "bytes" "[B" ∈ lwG := lwG_t (k := 42) (by decide +kernel) rfl
theorem qw_43 : Cond.fieldLink "LiabilityMatcher$Text" 22 "LiabilityMatcher$Text" "numbers" "[I" ∈ lwG := lwG_t (k := 43) (by decide +kernel) rfl
theorem qw_44 : Cond.fieldLink "LiabilityMatcher$Text" 26 "LiabilityMatcher$Text" "token" "I" ∈ lwG := lwG_t (k := 44) (by decide +kernel) rfl
theorem qw_45 : Cond.fieldLink "LiabilityMatcher$Text" 29 "LiabilityMatcher$Text" "tokenAt" "I" ∈ lwG := lwG_t (k := 45) (by decide +kernel) rfl
theorem qw_46 : Cond.fieldLink "LiabilityMatcher$Text" 32 "LiabilityMatcher$Text" "behindToken" "I" ∈ lwG := lwG_t (k := 46) (by decide +kernel) rfl
theorem qw_62 : Cond.arrayClass .byte ∈ lwG := lwG_t (k := 62) (by decide +kernel) rfl
theorem qw_63 : Cond.arrayClass .int ∈ lwG := lwG_t (k := 63) (by decide +kernel) rfl
theorem qw_64 : Cond.classLink "LiabilityMatcher" 16 "LiabilityMatcher$BestCover" ∈ lwG := lwG_t (k := 64) (by decide +kernel) rfl
theorem qw_65 : Cond.instantiable "LiabilityMatcher$BestCover" 8 ∈ lwG := lwG_t (k := 65) (by decide +kernel) rfl
theorem qw_69 : Cond.methodLink "LiabilityMatcher$BestCover" 3 objectInit ∈ lwG := lwG_t (k := 69) (by decide +kernel) rfl
theorem qw_70 : Cond.classLink "LiabilityMatcher$BestCover" 9 "LiabilityMatcher$Cover" ∈ lwG := lwG_t (k := 70) (by decide +kernel) rfl
theorem qw_71 : Cond.instantiable "LiabilityMatcher$Cover" 3 ∈ lwG := lwG_t (k := 71) (by decide +kernel) rfl
theorem qw_75 : Cond.methodLink "LiabilityMatcher$Cover" 3 objectInit ∈ lwG := lwG_t (k := 75) (by decide +kernel) rfl
theorem qw_76 : Cond.fieldLink "LiabilityMatcher$Cover" 9 "LiabilityMatcher$Cover" "below" "J" ∈ lwG := lwG_t (k := 76) (by decide +kernel) rfl
theorem qw_77 : Cond.fieldLink "LiabilityMatcher$BestCover" 56 "LiabilityMatcher$Cover" "below" "J" ∈ lwG := lwG_t (k := 77) (by decide +kernel) rfl
theorem qw_78 : Cond.fieldLink "LiabilityMatcher" 157 "LiabilityMatcher$Cover" "below" "J" ∈ lwG := lwG_t (k := 78) (by decide +kernel) rfl
theorem qw_79 : Cond.fieldLink "LiabilityMatcher$Cover" 15 "LiabilityMatcher$Cover" "price" "J" ∈ lwG := lwG_t (k := 79) (by decide +kernel) rfl
theorem qw_80 : Cond.fieldLink "LiabilityMatcher$BestCover" 105 "LiabilityMatcher$Cover" "price" "J" ∈ lwG := lwG_t (k := 80) (by decide +kernel) rfl
theorem qw_81 : Cond.fieldLink "LiabilityMatcher" 151 "LiabilityMatcher$Cover" "price" "J" ∈ lwG := lwG_t (k := 81) (by decide +kernel) rfl
theorem qw_82 : Cond.fieldLink "LiabilityMatcher$Cover" 18 "LiabilityMatcher$Cover" "values" "[J" ∈ lwG := lwG_t (k := 82) (by decide +kernel) rfl
theorem qw_83 : Cond.fieldLink "LiabilityMatcher$BestCover" 102 "LiabilityMatcher$Cover" "values" "[J" ∈ lwG := lwG_t (k := 83) (by decide +kernel) rfl
theorem qw_84 : Cond.fieldLink "LiabilityMatcher" 166 "LiabilityMatcher$Cover" "values" "[J" ∈ lwG := lwG_t (k := 84) (by decide +kernel) rfl
theorem qw_92 : Cond.arrayClass .long ∈ lwG := lwG_t (k := 92) (by decide +kernel) rfl
theorem qw_93 : Cond.classLink "LiabilityMatcher$BestCover" 18 "LiabilityMatcher$Proof" ∈ lwG := lwG_t (k := 93) (by decide +kernel) rfl
theorem qw_94 : Cond.instantiable "LiabilityMatcher$Proof" 3 ∈ lwG := lwG_t (k := 94) (by decide +kernel) rfl
theorem qw_98 : Cond.methodLink "LiabilityMatcher$Proof" 3 objectInit ∈ lwG := lwG_t (k := 98) (by decide +kernel) rfl
theorem qw_99 : Cond.fieldLink "LiabilityMatcher$Proof" 9 "LiabilityMatcher$Proof" "below" "J" ∈ lwG := lwG_t (k := 99) (by decide +kernel) rfl
theorem qw_100 : Cond.fieldLink "LiabilityMatcher$BestCover" 60 "LiabilityMatcher$Proof" "below" "J" ∈ lwG := lwG_t (k := 100) (by decide +kernel) rfl
theorem qw_101 : Cond.fieldLink "LiabilityMatcher" 179 "LiabilityMatcher$Proof" "below" "J" ∈ lwG := lwG_t (k := 101) (by decide +kernel) rfl
theorem qw_102 : Cond.fieldLink "LiabilityMatcher$Proof" 15 "LiabilityMatcher$Proof" "worth" "J" ∈ lwG := lwG_t (k := 102) (by decide +kernel) rfl
theorem qw_103 : Cond.fieldLink "LiabilityMatcher$Proof" 18 "LiabilityMatcher$Proof" "values" "[J" ∈ lwG := lwG_t (k := 103) (by decide +kernel) rfl
theorem qw_104 : Cond.fieldLink "LiabilityMatcher" 176 "LiabilityMatcher$Proof" "values" "[J" ∈ lwG := lwG_t (k := 104) (by decide +kernel) rfl
theorem qw_112 : Cond.classLink "LiabilityMatcher$BestCover" 38 "LiabilityMatcher$Equations" ∈ lwG := lwG_t (k := 112) (by decide +kernel) rfl
theorem qw_113 : Cond.instantiable "LiabilityMatcher$Equations" 6 ∈ lwG := lwG_t (k := 113) (by decide +kernel) rfl
theorem qw_117 : Cond.methodLink "LiabilityMatcher$Equations" 3 objectInit ∈ lwG := lwG_t (k := 117) (by decide +kernel) rfl
theorem qw_118 : Cond.classLink "LiabilityMatcher$Equations" 21 "[[J" ∈ lwG := lwG_t (k := 118) (by decide +kernel) rfl
theorem qw_120 : Cond.fieldLink "LiabilityMatcher$Equations" 9 "LiabilityMatcher$Equations" "dates" "I" ∈ lwG := lwG_t (k := 120) (by decide +kernel) rfl
theorem qw_121 : Cond.fieldLink "LiabilityMatcher$Proof" 27 "LiabilityMatcher$Equations" "dates" "I" ∈ lwG := lwG_t (k := 121) (by decide +kernel) rfl
theorem qw_122 : Cond.fieldLink "LiabilityMatcher$Cover" 36 "LiabilityMatcher$Equations" "dates" "I" ∈ lwG := lwG_t (k := 122) (by decide +kernel) rfl
theorem qw_123 : Cond.fieldLink "LiabilityMatcher$BestCover" 74 "LiabilityMatcher$Equations" "dates" "I" ∈ lwG := lwG_t (k := 123) (by decide +kernel) rfl
theorem qw_124 : Cond.fieldLink "LiabilityMatcher$Equations" 15 "LiabilityMatcher$Equations" "bonds" "I" ∈ lwG := lwG_t (k := 124) (by decide +kernel) rfl
theorem qw_125 : Cond.fieldLink "LiabilityMatcher$BestCover" 61 "LiabilityMatcher$Equations" "bonds" "I" ∈ lwG := lwG_t (k := 125) (by decide +kernel) rfl
theorem qw_126 : Cond.fieldLink "LiabilityMatcher$Equations" 18 "LiabilityMatcher$Equations" "columns" "I" ∈ lwG := lwG_t (k := 126) (by decide +kernel) rfl
theorem qw_127 : Cond.fieldLink "LiabilityMatcher$Cover" 27 "LiabilityMatcher$Equations" "columns" "I" ∈ lwG := lwG_t (k := 127) (by decide +kernel) rfl
theorem qw_128 : Cond.fieldLink "LiabilityMatcher$BestCover" 65 "LiabilityMatcher$Equations" "columns" "I" ∈ lwG := lwG_t (k := 128) (by decide +kernel) rfl
theorem qw_129 : Cond.fieldLink "LiabilityMatcher$Proof" 50 "LiabilityMatcher$Equations" "columns" "I" ∈ lwG := lwG_t (k := 129) (by decide +kernel) rfl
theorem qw_130 : Cond.fieldLink "LiabilityMatcher$Basis" 47 "LiabilityMatcher$Equations" "columns" "I" ∈ lwG := lwG_t (k := 130) (by decide +kernel) rfl
theorem qw_131 : Cond.fieldLink "LiabilityMatcher$Equations" 23 "LiabilityMatcher$Equations" "entries" "[[J" ∈ lwG := lwG_t (k := 131) (by decide +kernel) rfl
theorem qw_132 : Cond.fieldLink "LiabilityMatcher$Proof" 57 "LiabilityMatcher$Equations" "entries" "[[J" ∈ lwG := lwG_t (k := 132) (by decide +kernel) rfl
theorem qw_133 : Cond.fieldLink "LiabilityMatcher$Basis" 52 "LiabilityMatcher$Equations" "entries" "[[J" ∈ lwG := lwG_t (k := 133) (by decide +kernel) rfl
theorem qw_134 : Cond.fieldLink "LiabilityMatcher$Equations" 26 "LiabilityMatcher$Equations" "prices" "[J" ∈ lwG := lwG_t (k := 134) (by decide +kernel) rfl
theorem qw_135 : Cond.fieldLink "LiabilityMatcher$Proof" 36 "LiabilityMatcher$Equations" "prices" "[J" ∈ lwG := lwG_t (k := 135) (by decide +kernel) rfl
theorem qw_136 : Cond.fieldLink "LiabilityMatcher$Cover" 50 "LiabilityMatcher$Equations" "prices" "[J" ∈ lwG := lwG_t (k := 136) (by decide +kernel) rfl
theorem qw_137 : Cond.fieldLink "LiabilityMatcher$Equations" 30 "LiabilityMatcher$Equations" "owed" "[J" ∈ lwG := lwG_t (k := 137) (by decide +kernel) rfl
theorem qw_138 : Cond.fieldLink "LiabilityMatcher$Cover" 43 "LiabilityMatcher$Equations" "owed" "[J" ∈ lwG := lwG_t (k := 138) (by decide +kernel) rfl
theorem qw_139 : Cond.fieldLink "LiabilityMatcher$Proof" 47 "LiabilityMatcher$Equations" "owed" "[J" ∈ lwG := lwG_t (k := 139) (by decide +kernel) rfl
theorem qw_153 : Cond.classLink "LiabilityMatcher$BestCover" 45 "LiabilityMatcher$Basis" ∈ lwG := lwG_t (k := 153) (by decide +kernel) rfl
theorem qw_154 : Cond.instantiable "LiabilityMatcher$Basis" 4 ∈ lwG := lwG_t (k := 154) (by decide +kernel) rfl
theorem qw_158 : Cond.methodLink "LiabilityMatcher$Basis" 3 objectInit ∈ lwG := lwG_t (k := 158) (by decide +kernel) rfl
theorem qw_159 : Cond.classLink "LiabilityMatcher$Basis" 23 "[[J" ∈ lwG := lwG_t (k := 159) (by decide +kernel) rfl
theorem qw_160 : Cond.fieldLink "LiabilityMatcher$Basis" 9 "LiabilityMatcher$Basis" "size" "I" ∈ lwG := lwG_t (k := 160) (by decide +kernel) rfl
theorem qw_161 : Cond.fieldLink "LiabilityMatcher$Proof" 33 "LiabilityMatcher$Basis" "size" "I" ∈ lwG := lwG_t (k := 161) (by decide +kernel) rfl
theorem qw_162 : Cond.fieldLink "LiabilityMatcher$Cover" 33 "LiabilityMatcher$Basis" "size" "I" ∈ lwG := lwG_t (k := 162) (by decide +kernel) rfl
theorem qw_163 : Cond.fieldLink "LiabilityMatcher$Basis" 15 "LiabilityMatcher$Basis" "determinant" "J" ∈ lwG := lwG_t (k := 163) (by decide +kernel) rfl
theorem qw_164 : Cond.fieldLink "LiabilityMatcher$Cover" 22 "LiabilityMatcher$Basis" "determinant" "J" ∈ lwG := lwG_t (k := 164) (by decide +kernel) rfl
theorem qw_165 : Cond.fieldLink "LiabilityMatcher$Proof" 22 "LiabilityMatcher$Basis" "determinant" "J" ∈ lwG := lwG_t (k := 165) (by decide +kernel) rfl
theorem qw_166 : Cond.fieldLink "LiabilityMatcher$Basis" 19 "LiabilityMatcher$Basis" "chosen" "[I" ∈ lwG := lwG_t (k := 166) (by decide +kernel) rfl
theorem qw_167 : Cond.fieldLink "LiabilityMatcher$Proof" 39 "LiabilityMatcher$Basis" "chosen" "[I" ∈ lwG := lwG_t (k := 167) (by decide +kernel) rfl
theorem qw_168 : Cond.fieldLink "LiabilityMatcher$Cover" 46 "LiabilityMatcher$Basis" "chosen" "[I" ∈ lwG := lwG_t (k := 168) (by decide +kernel) rfl
theorem qw_169 : Cond.fieldLink "LiabilityMatcher$Basis" 25 "LiabilityMatcher$Basis" "rows" "[[J" ∈ lwG := lwG_t (k := 169) (by decide +kernel) rfl
theorem qw_179 : Cond.fieldLink "LiabilityMatcher$BestCover" 12 "LiabilityMatcher$BestCover" "cover" "LLiabilityMatcher$Cover;" ∈ lwG := lwG_t (k := 179) (by decide +kernel) rfl
theorem qw_180 : Cond.fieldLink "LiabilityMatcher" 147 "LiabilityMatcher$BestCover" "cover" "LLiabilityMatcher$Cover;" ∈ lwG := lwG_t (k := 180) (by decide +kernel) rfl
theorem qw_181 : Cond.fieldLink "LiabilityMatcher$BestCover" 21 "LiabilityMatcher$BestCover" "proof" "LLiabilityMatcher$Proof;" ∈ lwG := lwG_t (k := 181) (by decide +kernel) rfl
theorem qw_182 : Cond.fieldLink "LiabilityMatcher" 172 "LiabilityMatcher$BestCover" "proof" "LLiabilityMatcher$Proof;" ∈ lwG := lwG_t (k := 182) (by decide +kernel) rfl
theorem qw_183 : Cond.fieldLink "LiabilityMatcher$BestCover" 25 "LiabilityMatcher$BestCover" "priceWithout" "[J" ∈ lwG := lwG_t (k := 183) (by decide +kernel) rfl
theorem qw_184 : Cond.fieldLink "LiabilityMatcher" 184 "LiabilityMatcher$BestCover" "priceWithout" "[J" ∈ lwG := lwG_t (k := 184) (by decide +kernel) rfl
theorem qw_185 : Cond.fieldLink "LiabilityMatcher$BestCover" 29 "LiabilityMatcher$BestCover" "belowWithout" "[J" ∈ lwG := lwG_t (k := 185) (by decide +kernel) rfl
theorem qw_186 : Cond.fieldLink "LiabilityMatcher" 187 "LiabilityMatcher$BestCover" "belowWithout" "[J" ∈ lwG := lwG_t (k := 186) (by decide +kernel) rfl
theorem qw_187 : Cond.fieldLink "LiabilityMatcher$BestCover" 32 "LiabilityMatcher$BestCover" "nextCover" "LLiabilityMatcher$Cover;" ∈ lwG := lwG_t (k := 187) (by decide +kernel) rfl
theorem qw_188 : Cond.fieldLink "LiabilityMatcher$BestCover" 35 "LiabilityMatcher$BestCover" "nextProof" "LLiabilityMatcher$Proof;" ∈ lwG := lwG_t (k := 188) (by decide +kernel) rfl
theorem qw_189 : Cond.fieldLink "LiabilityMatcher$BestCover" 41 "LiabilityMatcher$BestCover" "equations" "LLiabilityMatcher$Equations;" ∈ lwG := lwG_t (k := 189) (by decide +kernel) rfl
theorem qw_190 : Cond.fieldLink "LiabilityMatcher$BestCover" 48 "LiabilityMatcher$BestCover" "basis" "LLiabilityMatcher$Basis;" ∈ lwG := lwG_t (k := 190) (by decide +kernel) rfl
theorem qw_208 : Cond.classLink "LiabilityMatcher" 23 "LiabilityMatcher$LotCover" ∈ lwG := lwG_t (k := 208) (by decide +kernel) rfl
theorem qw_209 : Cond.instantiable "LiabilityMatcher$LotCover" 13 ∈ lwG := lwG_t (k := 209) (by decide +kernel) rfl
theorem qw_213 : Cond.methodLink "LiabilityMatcher$LotCover" 3 objectInit ∈ lwG := lwG_t (k := 213) (by decide +kernel) rfl
theorem qw_214 : Cond.classLink "LiabilityMatcher$LotCover" 39 "[[J" ∈ lwG := lwG_t (k := 214) (by decide +kernel) rfl
theorem qw_215 : Cond.fieldLink "LiabilityMatcher$LotCover" 9 "LiabilityMatcher$LotCover" "scale" "J" ∈ lwG := lwG_t (k := 215) (by decide +kernel) rfl
theorem qw_216 : Cond.fieldLink "LiabilityMatcher" 203 "LiabilityMatcher$LotCover" "scale" "J" ∈ lwG := lwG_t (k := 216) (by decide +kernel) rfl
theorem qw_217 : Cond.fieldLink "LiabilityMatcher$LotCover" 15 "LiabilityMatcher$LotCover" "cheapest" "J" ∈ lwG := lwG_t (k := 217) (by decide +kernel) rfl
theorem qw_218 : Cond.fieldLink "LiabilityMatcher" 197 "LiabilityMatcher$LotCover" "cheapest" "J" ∈ lwG := lwG_t (k := 218) (by decide +kernel) rfl
theorem qw_219 : Cond.fieldLink "LiabilityMatcher$LotCover" 18 "LiabilityMatcher$LotCover" "atFirst" "J" ∈ lwG := lwG_t (k := 219) (by decide +kernel) rfl
theorem qw_220 : Cond.fieldLink "LiabilityMatcher" 200 "LiabilityMatcher$LotCover" "atFirst" "J" ∈ lwG := lwG_t (k := 220) (by decide +kernel) rfl
theorem qw_221 : Cond.fieldLink "LiabilityMatcher$LotCover" 21 "LiabilityMatcher$LotCover" "chosen" "[I" ∈ lwG := lwG_t (k := 221) (by decide +kernel) rfl
theorem qw_222 : Cond.fieldLink "LiabilityMatcher" 193 "LiabilityMatcher$LotCover" "chosen" "[I" ∈ lwG := lwG_t (k := 222) (by decide +kernel) rfl
theorem qw_223 : Cond.fieldLink "LiabilityMatcher$LotCover" 25 "LiabilityMatcher$LotCover" "dates" "I" ∈ lwG := lwG_t (k := 223) (by decide +kernel) rfl
theorem qw_224 : Cond.fieldLink "LiabilityMatcher$LotCover" 29 "LiabilityMatcher$LotCover" "bonds" "I" ∈ lwG := lwG_t (k := 224) (by decide +kernel) rfl
theorem qw_225 : Cond.fieldLink "LiabilityMatcher$LotCover" 32 "LiabilityMatcher$LotCover" "prices" "[J" ∈ lwG := lwG_t (k := 225) (by decide +kernel) rfl
theorem qw_226 : Cond.fieldLink "LiabilityMatcher$LotCover" 36 "LiabilityMatcher$LotCover" "limits" "[I" ∈ lwG := lwG_t (k := 226) (by decide +kernel) rfl
theorem qw_227 : Cond.fieldLink "LiabilityMatcher$LotCover" 41 "LiabilityMatcher$LotCover" "yielded" "[[J" ∈ lwG := lwG_t (k := 227) (by decide +kernel) rfl
theorem qw_228 : Cond.fieldLink "LiabilityMatcher$LotCover" 44 "LiabilityMatcher$LotCover" "saving" "[[J" ∈ lwG := lwG_t (k := 228) (by decide +kernel) rfl
theorem qw_229 : Cond.fieldLink "LiabilityMatcher$LotCover" 47 "LiabilityMatcher$LotCover" "owing" "[[J" ∈ lwG := lwG_t (k := 229) (by decide +kernel) rfl
theorem qw_230 : Cond.fieldLink "LiabilityMatcher$LotCover" 50 "LiabilityMatcher$LotCover" "spent" "[J" ∈ lwG := lwG_t (k := 230) (by decide +kernel) rfl
theorem qw_231 : Cond.fieldLink "LiabilityMatcher$LotCover" 53 "LiabilityMatcher$LotCover" "lot" "[I" ∈ lwG := lwG_t (k := 231) (by decide +kernel) rfl
theorem qw_259 : Cond.classLink "LiabilityMatcher" 30 "LiabilityMatcher$HeldRun" ∈ lwG := lwG_t (k := 259) (by decide +kernel) rfl
theorem qw_260 : Cond.instantiable "LiabilityMatcher$HeldRun" 5 ∈ lwG := lwG_t (k := 260) (by decide +kernel) rfl
theorem qw_264 : Cond.methodLink "LiabilityMatcher$HeldRun" 3 objectInit ∈ lwG := lwG_t (k := 264) (by decide +kernel) rfl
theorem qw_265 : Cond.fieldLink "LiabilityMatcher$HeldRun" 9 "LiabilityMatcher$HeldRun" "failsAt" "I" ∈ lwG := lwG_t (k := 265) (by decide +kernel) rfl
theorem qw_266 : Cond.fieldLink "LiabilityMatcher" 214 "LiabilityMatcher$HeldRun" "failsAt" "I" ∈ lwG := lwG_t (k := 266) (by decide +kernel) rfl
theorem qw_267 : Cond.fieldLink "LiabilityMatcher$HeldRun" 15 "LiabilityMatcher$HeldRun" "lackUpper" "J" ∈ lwG := lwG_t (k := 267) (by decide +kernel) rfl
theorem qw_268 : Cond.fieldLink "LiabilityMatcher" 226 "LiabilityMatcher$HeldRun" "lackUpper" "J" ∈ lwG := lwG_t (k := 268) (by decide +kernel) rfl
theorem qw_269 : Cond.fieldLink "LiabilityMatcher$HeldRun" 19 "LiabilityMatcher$HeldRun" "lackLower" "J" ∈ lwG := lwG_t (k := 269) (by decide +kernel) rfl
theorem qw_270 : Cond.fieldLink "LiabilityMatcher" 229 "LiabilityMatcher$HeldRun" "lackLower" "J" ∈ lwG := lwG_t (k := 270) (by decide +kernel) rfl
theorem qw_271 : Cond.fieldLink "LiabilityMatcher$HeldRun" 22 "LiabilityMatcher$HeldRun" "upper" "[J" ∈ lwG := lwG_t (k := 271) (by decide +kernel) rfl
theorem qw_272 : Cond.fieldLink "LiabilityMatcher" 217 "LiabilityMatcher$HeldRun" "upper" "[J" ∈ lwG := lwG_t (k := 272) (by decide +kernel) rfl
theorem qw_273 : Cond.fieldLink "LiabilityMatcher$HeldRun" 26 "LiabilityMatcher$HeldRun" "lower" "[J" ∈ lwG := lwG_t (k := 273) (by decide +kernel) rfl
theorem qw_274 : Cond.fieldLink "LiabilityMatcher" 220 "LiabilityMatcher$HeldRun" "lower" "[J" ∈ lwG := lwG_t (k := 274) (by decide +kernel) rfl
theorem qw_286 : Cond.classLink "LiabilityMatcher" 37 "LiabilityMatcher$Plan" ∈ lwG := lwG_t (k := 286) (by decide +kernel) rfl
theorem qw_287 : Cond.instantiable "LiabilityMatcher$Plan" 5 ∈ lwG := lwG_t (k := 287) (by decide +kernel) rfl
theorem qw_291 : Cond.methodLink "LiabilityMatcher$Plan" 3 objectInit ∈ lwG := lwG_t (k := 291) (by decide +kernel) rfl
theorem qw_292 : Cond.fieldLink "LiabilityMatcher$Plan" 9 "LiabilityMatcher$Plan" "dates" "I" ∈ lwG := lwG_t (k := 292) (by decide +kernel) rfl
theorem qw_293 : Cond.fieldLink "LiabilityMatcher$Equations" 33 "LiabilityMatcher$Plan" "dates" "I" ∈ lwG := lwG_t (k := 293) (by decide +kernel) rfl
theorem qw_294 : Cond.fieldLink "LiabilityMatcher$HeldRun" 29 "LiabilityMatcher$Plan" "dates" "I" ∈ lwG := lwG_t (k := 294) (by decide +kernel) rfl
theorem qw_295 : Cond.fieldLink "LiabilityMatcher$LotCover" 74 "LiabilityMatcher$Plan" "dates" "I" ∈ lwG := lwG_t (k := 295) (by decide +kernel) rfl
theorem qw_296 : Cond.fieldLink "LiabilityMatcher" 122 "LiabilityMatcher$Plan" "dates" "I" ∈ lwG := lwG_t (k := 296) (by decide +kernel) rfl
theorem qw_297 : Cond.fieldLink "LiabilityMatcher$Plan" 15 "LiabilityMatcher$Plan" "bonds" "I" ∈ lwG := lwG_t (k := 297) (by decide +kernel) rfl
theorem qw_298 : Cond.fieldLink "LiabilityMatcher$Equations" 36 "LiabilityMatcher$Plan" "bonds" "I" ∈ lwG := lwG_t (k := 298) (by decide +kernel) rfl
theorem qw_299 : Cond.fieldLink "LiabilityMatcher$HeldRun" 47 "LiabilityMatcher$Plan" "bonds" "I" ∈ lwG := lwG_t (k := 299) (by decide +kernel) rfl
theorem qw_300 : Cond.fieldLink "LiabilityMatcher$LotCover" 77 "LiabilityMatcher$Plan" "bonds" "I" ∈ lwG := lwG_t (k := 300) (by decide +kernel) rfl
theorem qw_301 : Cond.fieldLink "LiabilityMatcher" 87 "LiabilityMatcher$Plan" "bonds" "I" ∈ lwG := lwG_t (k := 301) (by decide +kernel) rfl
theorem qw_302 : Cond.fieldLink "LiabilityMatcher$Plan" 18 "LiabilityMatcher$Plan" "paid" "[I" ∈ lwG := lwG_t (k := 302) (by decide +kernel) rfl
theorem qw_303 : Cond.fieldLink "LiabilityMatcher$Plan" 22 "LiabilityMatcher$Plan" "rates" "[I" ∈ lwG := lwG_t (k := 303) (by decide +kernel) rfl
theorem qw_304 : Cond.fieldLink "LiabilityMatcher$Plan" 25 "LiabilityMatcher$Plan" "terms" "[I" ∈ lwG := lwG_t (k := 304) (by decide +kernel) rfl
theorem qw_316 : Cond.fieldLink "LiabilityMatcher" 12 "LiabilityMatcher" "text" "LLiabilityMatcher$Text;" ∈ lwG := lwG_t (k := 316) (by decide +kernel) rfl
theorem qw_317 : Cond.fieldLink "LiabilityMatcher" 19 "LiabilityMatcher" "best" "LLiabilityMatcher$BestCover;" ∈ lwG := lwG_t (k := 317) (by decide +kernel) rfl
theorem qw_318 : Cond.fieldLink "LiabilityMatcher" 26 "LiabilityMatcher" "lotCover" "LLiabilityMatcher$LotCover;" ∈ lwG := lwG_t (k := 318) (by decide +kernel) rfl
theorem qw_319 : Cond.fieldLink "LiabilityMatcher" 33 "LiabilityMatcher" "run" "LLiabilityMatcher$HeldRun;" ∈ lwG := lwG_t (k := 319) (by decide +kernel) rfl
theorem qw_320 : Cond.fieldLink "LiabilityMatcher" 40 "LiabilityMatcher" "plan" "LLiabilityMatcher$Plan;" ∈ lwG := lwG_t (k := 320) (by decide +kernel) rfl
theorem qw_321 : Cond.fieldLink "LiabilityMatcher" 44 "LiabilityMatcher" "draft" "LLiabilityMatcher$Plan;" ∈ lwG := lwG_t (k := 321) (by decide +kernel) rfl
theorem qw_322 : Cond.fieldLink "LiabilityMatcher" 47 "LiabilityMatcher" "sum" "I" ∈ lwG := lwG_t (k := 322) (by decide +kernel) rfl
theorem qw_323 : Cond.fieldLink "LiabilityMatcher" 51 "LiabilityMatcher" "latestFault" "I" ∈ lwG := lwG_t (k := 323) (by decide +kernel) rfl
theorem qw_324 : Cond.fieldLink "LiabilityMatcher" 54 "LiabilityMatcher" "bestKnown" "Z" ∈ lwG := lwG_t (k := 324) (by decide +kernel) rfl
theorem qw_325 : Cond.fieldLink "LiabilityMatcher" 58 "LiabilityMatcher" "lotsKnown" "Z" ∈ lwG := lwG_t (k := 325) (by decide +kernel) rfl
theorem qw_347 : Cond.methodLink "LiabilityMatcherLaw" 19 yX9_dates ∈ lwG := lwG_t (k := 347) (by decide +kernel) rfl
theorem qw_351 : Cond.methodLink "LiabilityMatcher" 61 yX6_fits ∈ lwG := lwG_t (k := 351) (by decide +kernel) rfl
theorem qw_359 : Cond.methodLink "LiabilityMatcher$Plan" 40 yX6_greatest ∈ lwG := lwG_t (k := 359) (by decide +kernel) rfl
theorem qw_363 : Cond.methodLink "LiabilityMatcher" 65 yX6_begin ∈ lwG := lwG_t (k := 363) (by decide +kernel) rfl
theorem qw_367 : Cond.methodLink "LiabilityMatcher" 69 yX9_forgetAnswers ∈ lwG := lwG_t (k := 367) (by decide +kernel) rfl
theorem qw_371 : Cond.methodLink "LiabilityMatcherLaw" 24 yX9_pay ∈ lwG := lwG_t (k := 371) (by decide +kernel) rfl
theorem qw_375 : Cond.methodLink "LiabilityMatcher" 72 yX6_setPaid ∈ lwG := lwG_t (k := 375) (by decide +kernel) rfl
theorem qw_379 : Cond.methodLink "LiabilityMatcher$Plan" 63 yX6_isDate ∈ lwG := lwG_t (k := 379) (by decide +kernel) rfl
theorem qw_383 : Cond.methodLink "LiabilityMatcherLaw" 29 yX9_rate ∈ lwG := lwG_t (k := 383) (by decide +kernel) rfl
theorem qw_387 : Cond.methodLink "LiabilityMatcher" 76 yX6_setRate ∈ lwG := lwG_t (k := 387) (by decide +kernel) rfl
theorem qw_391 : Cond.methodLink "LiabilityMatcherLaw" 33 yX9_bond ∈ lwG := lwG_t (k := 391) (by decide +kernel) rfl
theorem qw_395 : Cond.methodLink "LiabilityMatcher" 79 yX6_isFull ∈ lwG := lwG_t (k := 395) (by decide +kernel) rfl
theorem qw_399 : Cond.methodLink "LiabilityMatcher" 83 yX6_addBond ∈ lwG := lwG_t (k := 399) (by decide +kernel) rfl
theorem qw_403 : Cond.methodLink "LiabilityMatcher$Plan" 44 yX6_isFull ∈ lwG := lwG_t (k := 403) (by decide +kernel) rfl
theorem qw_404 : Cond.methodLink "LiabilityMatcher$Plan" 48 yX6_setTerm ∈ lwG := lwG_t (k := 404) (by decide +kernel) rfl
theorem qw_408 : Cond.methodLink "LiabilityMatcher$Plan" 56 yX6_isTerm ∈ lwG := lwG_t (k := 408) (by decide +kernel) rfl
theorem qw_412 : Cond.methodLink "LiabilityMatcherLaw" 38 yX9_most ∈ lwG := lwG_t (k := 412) (by decide +kernel) rfl
theorem qw_416 : Cond.methodLink "LiabilityMatcher" 90 yX6_setTerm ∈ lwG := lwG_t (k := 416) (by decide +kernel) rfl
theorem qw_417 : Cond.methodLink "LiabilityMatcherLaw" 42 yX9_call ∈ lwG := lwG_t (k := 417) (by decide +kernel) rfl
theorem qw_421 : Cond.methodLink "LiabilityMatcher" 94 yX6_term ∈ lwG := lwG_t (k := 421) (by decide +kernel) rfl
theorem qw_425 : Cond.methodLink "LiabilityMatcherLaw" 46 yX9_drop ∈ lwG := lwG_t (k := 425) (by decide +kernel) rfl
theorem qw_429 : Cond.methodLink "LiabilityMatcher" 98 yX6_removeBond ∈ lwG := lwG_t (k := 429) (by decide +kernel) rfl
theorem qw_433 : Cond.methodLink "LiabilityMatcher$Plan" 52 yX6_fits ∈ lwG := lwG_t (k := 433) (by decide +kernel) rfl
theorem qw_434 : Cond.methodLink "LiabilityMatcherLaw" 51 yX9_feed ∈ lwG := lwG_t (k := 434) (by decide +kernel) rfl
theorem qw_438 : Cond.methodLink "LiabilityMatcher" 101 yX8_hasRoom ∈ lwG := lwG_t (k := 438) (by decide +kernel) rfl
theorem qw_442 : Cond.methodLink "LiabilityMatcher" 105 yX8_addBytes ∈ lwG := lwG_t (k := 442) (by decide +kernel) rfl
theorem qw_446 : Cond.methodLink "LiabilityMatcher$Text" 35 yX8_hasRoom ∈ lwG := lwG_t (k := 446) (by decide +kernel) rfl
theorem qw_447 : Cond.methodLink "LiabilityMatcherLaw" 56 yX9_end ∈ lwG := lwG_t (k := 447) (by decide +kernel) rfl
theorem qw_451 : Cond.methodLink "LiabilityMatcherLaw" 60 yX9_tell ∈ lwG := lwG_t (k := 451) (by decide +kernel) rfl
theorem qw_455 : Cond.methodLink "LiabilityMatcher" 111 yX6_copyFrom ∈ lwG := lwG_t (k := 455) (by decide +kernel) rfl
theorem qw_459 : Cond.methodLink "LiabilityMatcher$Plan" 28 ⟨RJ10, "arraycopy", "(Ljava/lang/Object;ILjava/lang/Object;II)V"⟩ ∈ lwG := lwG_t (k := 459) (by decide +kernel) rfl
theorem qw_462 : Cond.methodLink "LiabilityMatcher" 115 yX8_tellTo ∈ lwG := lwG_t (k := 462) (by decide +kernel) rfl
theorem qw_466 : Cond.methodLink "LiabilityMatcher$Text" 39 yX8_readToken ∈ lwG := lwG_t (k := 466) (by decide +kernel) rfl
theorem qw_470 : Cond.methodLink "LiabilityMatcher$Text" 63 yX8_byteAt ∈ lwG := lwG_t (k := 470) (by decide +kernel) rfl
theorem qw_474 : Cond.methodLink "LiabilityMatcher$Text" 130 yX8_isBlank ∈ lwG := lwG_t (k := 474) (by decide +kernel) rfl
theorem qw_477 : Cond.methodLink "LiabilityMatcher$Text" 133 yX8_isLetter ∈ lwG := lwG_t (k := 477) (by decide +kernel) rfl
theorem qw_480 : Cond.methodLink "LiabilityMatcher$Text" 136 yX8_readWord ∈ lwG := lwG_t (k := 480) (by decide +kernel) rfl
theorem qw_484 : Cond.methodLink "LiabilityMatcher$Text" 139 yX8_isDigit ∈ lwG := lwG_t (k := 484) (by decide +kernel) rfl
theorem qw_487 : Cond.methodLink "LiabilityMatcher$Text" 142 yX8_readNumber ∈ lwG := lwG_t (k := 487) (by decide +kernel) rfl
theorem qw_491 : Cond.methodLink "LiabilityMatcher$Text" 42 yX8_tellStatement ∈ lwG := lwG_t (k := 491) (by decide +kernel) rfl
theorem qw_495 : Cond.methodLink "LiabilityMatcher$Text" 46 yX8_statementOfToken ∈ lwG := lwG_t (k := 495) (by decide +kernel) rfl
theorem qw_499 : Cond.methodLink "LiabilityMatcher$Text" 103 yX8_wordOf ∈ lwG := lwG_t (k := 499) (by decide +kernel) rfl
theorem qw_507 : Cond.methodLink "LiabilityMatcher$Text" 107 yX8_tokenIs ∈ lwG := lwG_t (k := 507) (by decide +kernel) rfl
theorem qw_511 : Cond.methodLink "LiabilityMatcher$Text" 121 yJ0_length_8abf5 ∈ lwG := lwG_t (k := 511) (by decide +kernel) rfl
theorem qw_515 : Cond.methodLink "java/lang/String" 335 yJ0_coder_7d493 ∈ lwG := lwG_t (k := 515) (by decide +kernel) rfl
theorem qw_519 : Cond.fieldLink "java/lang/String" 38 "java/lang/String" "COMPACT_STRINGS" "Z" ∈ lwG := lwG_t (k := 519) (by decide +kernel) rfl
theorem qw_521 : Cond.methodLink "LiabilityMatcher$Text" 126 yJ0_charAt_5068e ∈ lwG := lwG_t (k := 521) (by decide +kernel) rfl
theorem qw_525 : Cond.methodLink "java/lang/String" 492 yJ0_isLatin1_aae02 ∈ lwG := lwG_t (k := 525) (by decide +kernel) rfl
theorem qw_529 : Cond.methodLink "java/lang/String" 495 yJ1_charAt_3b067 ∈ lwG := lwG_t (k := 529) (by decide +kernel) rfl
theorem qw_532 : Cond.methodLink "java/lang/StringLatin1" 9 yJ0_checkIndex_df160 ∈ lwG := lwG_t (k := 532) (by decide +kernel) rfl
theorem qw_535 : Cond.fieldLink "java/lang/String" 1053 "jdk/internal/util/Preconditions" "SIOOBE_FORMATTER" "Ljava/util/function/BiFunction;" ∈ lwG := lwG_t (k := 535) (by decide +kernel) rfl
theorem qw_537 : Cond.methodLink "java/lang/String" 1059 yJ3_checkIndex_8e157 ∈ lwG := lwG_t (k := 537) (by decide +kernel) rfl
theorem qw_540 : Cond.methodLink "java/lang/String" 498 yJ2_charAt_3b067 ∈ lwG := lwG_t (k := 540) (by decide +kernel) rfl
theorem qw_543 : Cond.methodLink "java/lang/StringUTF16" 67 yJ2_checkIndex_2214a ∈ lwG := lwG_t (k := 543) (by decide +kernel) rfl
theorem qw_546 : Cond.methodLink "java/lang/StringUTF16" 48 yJ2_length_9d52b ∈ lwG := lwG_t (k := 546) (by decide +kernel) rfl
theorem qw_549 : Cond.methodLink "java/lang/StringUTF16" 414 yJ0_checkIndex_df160 ∈ lwG := lwG_t (k := 549) (by decide +kernel) rfl
theorem qw_550 : Cond.methodLink "java/lang/StringUTF16" 71 yJ2_getChar_3b067 ∈ lwG := lwG_t (k := 550) (by decide +kernel) rfl
theorem qw_553 : Cond.fieldLink "java/lang/StringUTF16" 44 "java/lang/StringUTF16" "$assertionsDisabled" "Z" ∈ lwG := lwG_t (k := 553) (by decide +kernel) rfl
theorem qw_555 : Cond.fieldLink "java/lang/StringUTF16" 59 "java/lang/StringUTF16" "HI_BYTE_SHIFT" "I" ∈ lwG := lwG_t (k := 555) (by decide +kernel) rfl
theorem qw_557 : Cond.fieldLink "java/lang/StringUTF16" 63 "java/lang/StringUTF16" "LO_BYTE_SHIFT" "I" ∈ lwG := lwG_t (k := 557) (by decide +kernel) rfl
theorem qw_559 : Cond.methodLink "LiabilityMatcher$Text" 50 yX8_refuse ∈ lwG := lwG_t (k := 559) (by decide +kernel) rfl
theorem qw_563 : Cond.methodLink "LiabilityMatcher$Text" 53 yX6_isFull ∈ lwG := lwG_t (k := 563) (by decide +kernel) rfl
theorem qw_564 : Cond.methodLink "LiabilityMatcher$Text" 59 yX8_readNumbers ∈ lwG := lwG_t (k := 564) (by decide +kernel) rfl
theorem qw_568 : Cond.fieldLink "LiabilityMatcher$Text" 71 "LiabilityMatcher$Text" "NUMBERS" "[I" ∈ lwG := lwG_t (k := 568) (by decide +kernel) rfl
theorem qw_570 : Cond.methodLink "LiabilityMatcher$Text" 74 yX8_numberOfToken ∈ lwG := lwG_t (k := 570) (by decide +kernel) rfl
theorem qw_574 : Cond.fieldLink "LiabilityMatcher$Text" 77 "LiabilityMatcher$Text" "ROLES" "[I" ∈ lwG := lwG_t (k := 574) (by decide +kernel) rfl
theorem qw_576 : Cond.methodLink "LiabilityMatcher$Text" 80 yX6_fits ∈ lwG := lwG_t (k := 576) (by decide +kernel) rfl
theorem qw_577 : Cond.methodLink "LiabilityMatcher$Text" 67 yX8_carryOut ∈ lwG := lwG_t (k := 577) (by decide +kernel) rfl
theorem qw_581 : Cond.methodLink "LiabilityMatcher$Text" 84 yX6_begin ∈ lwG := lwG_t (k := 581) (by decide +kernel) rfl
theorem qw_582 : Cond.methodLink "LiabilityMatcher$Text" 88 yX6_setPaid ∈ lwG := lwG_t (k := 582) (by decide +kernel) rfl
theorem qw_583 : Cond.methodLink "LiabilityMatcher$Text" 92 yX6_setRate ∈ lwG := lwG_t (k := 583) (by decide +kernel) rfl
theorem qw_584 : Cond.methodLink "LiabilityMatcher$Text" 95 yX6_addBond ∈ lwG := lwG_t (k := 584) (by decide +kernel) rfl
theorem qw_585 : Cond.methodLink "LiabilityMatcher$Text" 99 yX6_setTerm ∈ lwG := lwG_t (k := 585) (by decide +kernel) rfl
theorem qw_586 : Cond.methodLink "LiabilityMatcherLaw" 65 yX9_fault ∈ lwG := lwG_t (k := 586) (by decide +kernel) rfl
theorem qw_590 : Cond.methodLink "LiabilityMatcherLaw" 69 yX9_count ∈ lwG := lwG_t (k := 590) (by decide +kernel) rfl
theorem qw_594 : Cond.methodLink "LiabilityMatcherLaw" 73 yX9_date ∈ lwG := lwG_t (k := 594) (by decide +kernel) rfl
theorem qw_598 : Cond.methodLink "LiabilityMatcher" 125 yX6_paidAt ∈ lwG := lwG_t (k := 598) (by decide +kernel) rfl
theorem qw_602 : Cond.methodLink "LiabilityMatcher" 129 yX6_rateAt ∈ lwG := lwG_t (k := 602) (by decide +kernel) rfl
theorem qw_606 : Cond.methodLink "LiabilityMatcherLaw" 86 yX9_cost ∈ lwG := lwG_t (k := 606) (by decide +kernel) rfl
theorem qw_610 : Cond.methodLink "LiabilityMatcher" 144 yX9_findBest ∈ lwG := lwG_t (k := 610) (by decide +kernel) rfl
theorem qw_614 : Cond.methodLink "LiabilityMatcher" 232 yX1_findFor ∈ lwG := lwG_t (k := 614) (by decide +kernel) rfl
theorem qw_618 : Cond.methodLink "LiabilityMatcher$BestCover" 52 yX3_read ∈ lwG := lwG_t (k := 618) (by decide +kernel) rfl
theorem qw_622 : Cond.methodLink "LiabilityMatcher$Equations" 37 yX6_paidAt ∈ lwG := lwG_t (k := 622) (by decide +kernel) rfl
theorem qw_623 : Cond.methodLink "LiabilityMatcher$Equations" 41 yX3_readDate ∈ lwG := lwG_t (k := 623) (by decide +kernel) rfl
theorem qw_627 : Cond.methodLink "LiabilityMatcher$Equations" 51 yX6_yieldAt ∈ lwG := lwG_t (k := 627) (by decide +kernel) rfl
theorem qw_631 : Cond.methodLink "LiabilityMatcher$Plan" 59 yX6_term ∈ lwG := lwG_t (k := 631) (by decide +kernel) rfl
theorem qw_632 : Cond.constantLong "LiabilityMatcher$Equations" 54 (-20) ∈ lwG := lwG_t (k := 632) (by decide +kernel) rfl
theorem qw_633 : Cond.methodLink "LiabilityMatcher$Equations" 56 yX6_growth ∈ lwG := lwG_t (k := 633) (by decide +kernel) rfl
theorem qw_637 : Cond.methodLink "LiabilityMatcher$Plan" 67 yX6_rateAt ∈ lwG := lwG_t (k := 637) (by decide +kernel) rfl
theorem qw_638 : Cond.methodLink "LiabilityMatcher$Equations" 45 yX6_term ∈ lwG := lwG_t (k := 638) (by decide +kernel) rfl
theorem qw_639 : Cond.constantLong "LiabilityMatcher$Equations" 49 20 ∈ lwG := lwG_t (k := 639) (by decide +kernel) rfl
theorem qw_640 : Cond.methodLink "LiabilityMatcher$BestCover" 68 yJ6_bitCount_0f7a4 ∈ lwG := lwG_t (k := 640) (by decide +kernel) rfl
theorem qw_643 : Cond.constant "java/lang/Integer" 265 1431655765 ∈ lwG := lwG_t (k := 643) (by decide +kernel) rfl
theorem qw_644 : Cond.constant "java/lang/Integer" 266 858993459 ∈ lwG := lwG_t (k := 644) (by decide +kernel) rfl
theorem qw_645 : Cond.constant "java/lang/Integer" 267 252645135 ∈ lwG := lwG_t (k := 645) (by decide +kernel) rfl
theorem qw_646 : Cond.methodLink "LiabilityMatcher$BestCover" 77 yX0_invert ∈ lwG := lwG_t (k := 646) (by decide +kernel) rfl
theorem qw_650 : Cond.methodLink "LiabilityMatcher$Basis" 28 yX0_choose ∈ lwG := lwG_t (k := 650) (by decide +kernel) rfl
theorem qw_654 : Cond.methodLink "LiabilityMatcher$Basis" 32 yX0_fill ∈ lwG := lwG_t (k := 654) (by decide +kernel) rfl
theorem qw_658 : Cond.methodLink "LiabilityMatcher$Basis" 36 yX0_bringPivot ∈ lwG := lwG_t (k := 658) (by decide +kernel) rfl
theorem qw_662 : Cond.methodLink "LiabilityMatcher$Basis" 55 yX0_swapRows ∈ lwG := lwG_t (k := 662) (by decide +kernel) rfl
theorem qw_666 : Cond.methodLink "LiabilityMatcher$Basis" 40 yX0_clearColumn ∈ lwG := lwG_t (k := 666) (by decide +kernel) rfl
theorem qw_670 : Cond.methodLink "LiabilityMatcher$Basis" 44 yX0_turnSigns ∈ lwG := lwG_t (k := 670) (by decide +kernel) rfl
theorem qw_674 : Cond.methodLink "LiabilityMatcher$BestCover" 81 yX1_tryCover ∈ lwG := lwG_t (k := 674) (by decide +kernel) rfl
theorem qw_678 : Cond.methodLink "LiabilityMatcher$BestCover" 91 yX2_readOff ∈ lwG := lwG_t (k := 678) (by decide +kernel) rfl
theorem qw_682 : Cond.methodLink "LiabilityMatcher$Cover" 39 yX0_inverse ∈ lwG := lwG_t (k := 682) (by decide +kernel) rfl
theorem qw_686 : Cond.methodLink "LiabilityMatcher$BestCover" 95 yX1_tryWithout ∈ lwG := lwG_t (k := 686) (by decide +kernel) rfl
theorem qw_690 : Cond.methodLink "LiabilityMatcher$BestCover" 98 yX2_isBetterThan ∈ lwG := lwG_t (k := 690) (by decide +kernel) rfl
theorem qw_694 : Cond.methodLink "LiabilityMatcher$Cover" 53 yJ13_compare_74951 ∈ lwG := lwG_t (k := 694) (by decide +kernel) rfl
theorem qw_697 : Cond.methodLink "LiabilityMatcher$BestCover" 84 yX1_tryProof ∈ lwG := lwG_t (k := 697) (by decide +kernel) rfl
theorem qw_701 : Cond.methodLink "LiabilityMatcher$BestCover" 108 yX7_readOff ∈ lwG := lwG_t (k := 701) (by decide +kernel) rfl
theorem qw_705 : Cond.methodLink "LiabilityMatcher$Proof" 43 yX0_inverse ∈ lwG := lwG_t (k := 705) (by decide +kernel) rfl
theorem qw_706 : Cond.methodLink "LiabilityMatcher$Proof" 53 yX7_excess ∈ lwG := lwG_t (k := 706) (by decide +kernel) rfl
theorem qw_710 : Cond.methodLink "LiabilityMatcher$BestCover" 109 yX7_isBetterThan ∈ lwG := lwG_t (k := 710) (by decide +kernel) rfl
theorem qw_714 : Cond.methodLink "LiabilityMatcher$Proof" 61 yJ13_compare_74951 ∈ lwG := lwG_t (k := 714) (by decide +kernel) rfl
theorem qw_715 : Cond.methodLink "LiabilityMatcher" 160 yX9_inLeastTerms ∈ lwG := lwG_t (k := 715) (by decide +kernel) rfl
theorem qw_718 : Cond.methodLink "LiabilityMatcher" 236 yX9_commonDivisor ∈ lwG := lwG_t (k := 718) (by decide +kernel) rfl
theorem qw_721 : Cond.methodLink "LiabilityMatcherLaw" 91 yX9_part ∈ lwG := lwG_t (k := 721) (by decide +kernel) rfl
theorem qw_725 : Cond.constantLong "LiabilityMatcher" 164 (-1) ∈ lwG := lwG_t (k := 725) (by decide +kernel) rfl
theorem qw_726 : Cond.methodLink "LiabilityMatcherLaw" 96 yX9_surplus ∈ lwG := lwG_t (k := 726) (by decide +kernel) rfl
theorem qw_730 : Cond.constantLong "LiabilityMatcher" 170 20 ∈ lwG := lwG_t (k := 730) (by decide +kernel) rfl
theorem qw_731 : Cond.methodLink "LiabilityMatcherLaw" 100 yX9_multiplier ∈ lwG := lwG_t (k := 731) (by decide +kernel) rfl
theorem qw_735 : Cond.methodLink "LiabilityMatcherLaw" 104 yX9_dear ∈ lwG := lwG_t (k := 735) (by decide +kernel) rfl
theorem qw_739 : Cond.methodLink "LiabilityMatcher" 180 yX1_excessOf ∈ lwG := lwG_t (k := 739) (by decide +kernel) rfl
theorem qw_743 : Cond.methodLink "LiabilityMatcher$BestCover" 87 yX7_excess ∈ lwG := lwG_t (k := 743) (by decide +kernel) rfl
theorem qw_744 : Cond.methodLink "LiabilityMatcherLaw" 108 yX9_without ∈ lwG := lwG_t (k := 744) (by decide +kernel) rfl
theorem qw_748 : Cond.methodLink "LiabilityMatcherLaw" 112 yX9_lots ∈ lwG := lwG_t (k := 748) (by decide +kernel) rfl
theorem qw_752 : Cond.methodLink "LiabilityMatcher" 190 yX9_findLots ∈ lwG := lwG_t (k := 752) (by decide +kernel) rfl
theorem qw_756 : Cond.methodLink "LiabilityMatcher" 235 yX5_findFor ∈ lwG := lwG_t (k := 756) (by decide +kernel) rfl
theorem qw_760 : Cond.methodLink "LiabilityMatcher$LotCover" 56 yX5_read ∈ lwG := lwG_t (k := 760) (by decide +kernel) rfl
theorem qw_764 : Cond.methodLink "LiabilityMatcher$LotCover" 78 yX6_growth ∈ lwG := lwG_t (k := 764) (by decide +kernel) rfl
theorem qw_765 : Cond.methodLink "LiabilityMatcher$LotCover" 82 yX5_readDates ∈ lwG := lwG_t (k := 765) (by decide +kernel) rfl
theorem qw_769 : Cond.constantLong "LiabilityMatcher$LotCover" 89 20 ∈ lwG := lwG_t (k := 769) (by decide +kernel) rfl
theorem qw_770 : Cond.methodLink "LiabilityMatcher$LotCover" 91 yX6_paidAt ∈ lwG := lwG_t (k := 770) (by decide +kernel) rfl
theorem qw_771 : Cond.methodLink "LiabilityMatcher$LotCover" 94 yX6_yieldAt ∈ lwG := lwG_t (k := 771) (by decide +kernel) rfl
theorem qw_772 : Cond.methodLink "LiabilityMatcher$LotCover" 85 yX6_term ∈ lwG := lwG_t (k := 772) (by decide +kernel) rfl
theorem qw_773 : Cond.methodLink "LiabilityMatcher$LotCover" 60 yJ9_max_f86c9 ∈ lwG := lwG_t (k := 773) (by decide +kernel) rfl
theorem qw_776 : Cond.constantLong "LiabilityMatcher$LotCover" 68 9223372036854775807 ∈ lwG := lwG_t (k := 776) (by decide +kernel) rfl
theorem qw_777 : Cond.methodLink "LiabilityMatcher$LotCover" 70 yX5_search ∈ lwG := lwG_t (k := 777) (by decide +kernel) rfl
theorem qw_781 : Cond.methodLink "LiabilityMatcher$LotCover" 97 yX5_keep ∈ lwG := lwG_t (k := 781) (by decide +kernel) rfl
theorem qw_785 : Cond.methodLink "LiabilityMatcher$LotCover" 104 yX5_leastCost ∈ lwG := lwG_t (k := 785) (by decide +kernel) rfl
theorem qw_789 : Cond.methodLink "LiabilityMatcher$LotCover" 100 yX5_choose ∈ lwG := lwG_t (k := 789) (by decide +kernel) rfl
theorem qw_793 : Cond.methodLink "LiabilityMatcherLaw" 116 yX9_lotsCost ∈ lwG := lwG_t (k := 793) (by decide +kernel) rfl
theorem qw_797 : Cond.methodLink "LiabilityMatcherLaw" 120 yX9_hold ∈ lwG := lwG_t (k := 797) (by decide +kernel) rfl
theorem qw_801 : Cond.methodLink "LiabilityMatcherLaw" 124 yX9_cash ∈ lwG := lwG_t (k := 801) (by decide +kernel) rfl
theorem qw_805 : Cond.methodLink "LiabilityMatcherLaw" 128 yX9_take ∈ lwG := lwG_t (k := 805) (by decide +kernel) rfl
theorem qw_809 : Cond.methodLink "LiabilityMatcher" 206 yX5_atFirstRoundedUp ∈ lwG := lwG_t (k := 809) (by decide +kernel) rfl
theorem qw_813 : Cond.methodLink "LiabilityMatcherLaw" 132 yX9_fails ∈ lwG := lwG_t (k := 813) (by decide +kernel) rfl
theorem qw_817 : Cond.methodLink "LiabilityMatcher" 210 yX4_follow ∈ lwG := lwG_t (k := 817) (by decide +kernel) rfl
theorem qw_821 : Cond.constantLong "LiabilityMatcher$HeldRun" 34 20 ∈ lwG := lwG_t (k := 821) (by decide +kernel) rfl
theorem qw_822 : Cond.methodLink "LiabilityMatcher$HeldRun" 36 yX6_growth ∈ lwG := lwG_t (k := 822) (by decide +kernel) rfl
theorem qw_823 : Cond.methodLink "LiabilityMatcher$HeldRun" 40 yX4_netAt ∈ lwG := lwG_t (k := 823) (by decide +kernel) rfl
theorem qw_826 : Cond.methodLink "LiabilityMatcher$HeldRun" 44 yX6_paidAt ∈ lwG := lwG_t (k := 826) (by decide +kernel) rfl
theorem qw_827 : Cond.methodLink "LiabilityMatcher$HeldRun" 50 yX6_term ∈ lwG := lwG_t (k := 827) (by decide +kernel) rfl
theorem qw_828 : Cond.methodLink "LiabilityMatcher$HeldRun" 54 yX6_yieldAt ∈ lwG := lwG_t (k := 828) (by decide +kernel) rfl
theorem qw_829 : Cond.methodLink "LiabilityMatcherLaw" 136 yX9_balance ∈ lwG := lwG_t (k := 829) (by decide +kernel) rfl
theorem qw_833 : Cond.methodLink "LiabilityMatcherLaw" 140 yX9_need ∈ lwG := lwG_t (k := 833) (by decide +kernel) rfl
theorem qw_837 : Cond.methodLink "LiabilityMatcher" 223 yX4_findLack ∈ lwG := lwG_t (k := 837) (by decide +kernel) rfl
theorem qw_841 : Cond.methodLink "LiabilityMatcherLaw" 144 yX9_lack ∈ lwG := lwG_t (k := 841) (by decide +kernel) rfl
theorem qw_845 : Cond.methodLink "LiabilityMatcherLaw" 77 yL_told ∈ lwG := lwG_t (k := 845) (by decide +kernel) rfl
theorem qw_848 : Cond.classLink "LiabilityMatcherLaw" 13 "java/util/NoSuchElementException" ∈ lwG := lwG_t (k := 848) (by decide +kernel) rfl
theorem qw_849 : Cond.methodLink "LiabilityMatcherLaw" 7 yX9_told ∈ lwG := lwG_t (k := 849) (by decide +kernel) rfl
theorem qw_853 : Cond.classLink "LiabilityMatcher" 132 "java/util/NoSuchElementException" ∈ lwG := lwG_t (k := 853) (by decide +kernel) rfl
theorem qw_854 : Cond.instantiable "java/util/NoSuchElementException" 6 ∈ lwG := lwG_t (k := 854) (by decide +kernel) rfl
theorem qw_874 : Cond.fieldLink "java/lang/Throwable" 198 "java/lang/Throwable" "backtrace" "Ljava/lang/Object;" ∈ lwG := lwG_t (k := 874) (by decide +kernel) rfl
theorem qw_878 : Cond.methodLink "java/lang/Throwable" 1 objectInit ∈ lwG := lwG_t (k := 878) (by decide +kernel) rfl
theorem qw_879 : Cond.fieldLink "java/lang/Throwable" 13 "java/lang/Throwable" "UNASSIGNED_STACK" "[Ljava/lang/StackTraceElement;" ∈ lwG := lwG_t (k := 879) (by decide +kernel) rfl
theorem qw_881 : Cond.fieldLink "java/lang/Throwable" 20 "java/lang/Throwable" "SUPPRESSED_SENTINEL" "Ljava/util/List;" ∈ lwG := lwG_t (k := 881) (by decide +kernel) rfl
theorem qw_883 : Cond.methodLink "java/lang/Throwable" 27 ⟨"java/lang/Throwable", "fillInStackTrace", "()Ljava/lang/Throwable;"⟩ ∈ lwG := lwG_t (k := 883) (by decide +kernel) rfl
theorem qw_887 : Cond.methodLink "java/lang/Throwable" 202 ⟨"java/lang/Throwable", "fillInStackTrace", "(I)Ljava/lang/Throwable;"⟩ ∈ lwG := lwG_t (k := 887) (by decide +kernel) rfl
theorem qw_890 : Cond.instantiable "java/lang/Throwable" 6 ∈ lwG := lwG_t (k := 890) (by decide +kernel) rfl
theorem qw_893 : Cond.methodLink "LiabilityMatcher" 136 ⟨"java/util/NoSuchElementException", "<init>", "(Ljava/lang/String;)V"⟩ ∈ lwG := lwG_t (k := 893) (by decide +kernel) rfl
theorem qw_896 : Cond.methodLink "java/util/NoSuchElementException" 13 ⟨"java/lang/RuntimeException", "<init>", "(Ljava/lang/String;)V"⟩ ∈ lwG := lwG_t (k := 896) (by decide +kernel) rfl
theorem qw_899 : Cond.methodLink "java/lang/RuntimeException" 7 ⟨"java/lang/Exception", "<init>", "(Ljava/lang/String;)V"⟩ ∈ lwG := lwG_t (k := 899) (by decide +kernel) rfl
theorem qw_902 : Cond.methodLink "java/lang/Exception" 7 ⟨"java/lang/Throwable", "<init>", "(Ljava/lang/String;)V"⟩ ∈ lwG := lwG_t (k := 902) (by decide +kernel) rfl
theorem qw_905 : Cond.fieldLink "java/lang/Throwable" 198 "java/lang/Throwable" "backtrace" "Ljava/lang/Object;" ∈ lwG := lwG_t (k := 905) (by decide +kernel) rfl
theorem qw_906 : Cond.fieldLink "java/lang/Throwable" 31 "java/lang/Throwable" "detailMessage" "Ljava/lang/String;" ∈ lwG := lwG_t (k := 906) (by decide +kernel) rfl
theorem qw_907 : Cond.fieldLink "java/lang/Throwable" 7 "java/lang/Throwable" "cause" "Ljava/lang/Throwable;" ∈ lwG := lwG_t (k := 907) (by decide +kernel) rfl
theorem qw_908 : Cond.fieldLink "java/lang/Throwable" 17 "java/lang/Throwable" "stackTrace" "[Ljava/lang/StackTraceElement;" ∈ lwG := lwG_t (k := 908) (by decide +kernel) rfl
theorem qw_909 : Cond.fieldLink "java/lang/Throwable" 24 "java/lang/Throwable" "suppressedExceptions" "Ljava/util/List;" ∈ lwG := lwG_t (k := 909) (by decide +kernel) rfl
theorem qw_919 : Cond.methodLink "LiabilityMatcher" 141 yX6_yieldAt ∈ lwG := lwG_t (k := 919) (by decide +kernel) rfl
theorem qw_920 : Cond.classLink "LiabilityMatcherLaw" 16 "LiabilityMatcherModel" ∈ lwG := lwG_t (k := 920) (by decide +kernel) rfl
theorem qw_921 : Cond.instantiable "LiabilityMatcherModel" 38 ∈ lwG := lwG_t (k := 921) (by decide +kernel) rfl
theorem qw_922 : Cond.methodLink "LiabilityMatcherLaw" 18 yX10_init ∈ lwG := lwG_t (k := 922) (by decide +kernel) rfl
theorem qw_925 : Cond.methodLink "LiabilityMatcherModel" 1 objectInit ∈ lwG := lwG_t (k := 925) (by decide +kernel) rfl
theorem qw_926 : Cond.fieldLink "LiabilityMatcherModel" 65 "LiabilityMatcherModel" "raised" "I" ∈ lwG := lwG_t (k := 926) (by decide +kernel) rfl
theorem qw_927 : Cond.fieldLink "LiabilityMatcherModel" 7 "LiabilityMatcherModel" "told" "[I" ∈ lwG := lwG_t (k := 927) (by decide +kernel) rfl
theorem qw_928 : Cond.fieldLink "LiabilityMatcherModel" 13 "LiabilityMatcherModel" "draft" "[I" ∈ lwG := lwG_t (k := 928) (by decide +kernel) rfl
theorem qw_929 : Cond.fieldLink "LiabilityMatcherModel" 99 "LiabilityMatcherModel" "cash" "I" ∈ lwG := lwG_t (k := 929) (by decide +kernel) rfl
theorem qw_930 : Cond.fieldLink "LiabilityMatcherModel" 16 "LiabilityMatcherModel" "tape" "[I" ∈ lwG := lwG_t (k := 930) (by decide +kernel) rfl
theorem qw_931 : Cond.fieldLink "LiabilityMatcherModel" 102 "LiabilityMatcherModel" "taped" "I" ∈ lwG := lwG_t (k := 931) (by decide +kernel) rfl
theorem qw_932 : Cond.fieldLink "LiabilityMatcherModel" 164 "LiabilityMatcherModel" "fault" "I" ∈ lwG := lwG_t (k := 932) (by decide +kernel) rfl
theorem qw_933 : Cond.fieldLink "LiabilityMatcherModel" 108 "LiabilityMatcherModel" "at" "I" ∈ lwG := lwG_t (k := 933) (by decide +kernel) rfl
theorem qw_934 : Cond.fieldLink "LiabilityMatcherModel" 111 "LiabilityMatcherModel" "wrong" "I" ∈ lwG := lwG_t (k := 934) (by decide +kernel) rfl
theorem qw_935 : Cond.fieldLink "LiabilityMatcherModel" 122 "LiabilityMatcherModel" "value" "I" ∈ lwG := lwG_t (k := 935) (by decide +kernel) rfl
theorem qw_936 : Cond.fieldLink "LiabilityMatcherModel" 128 "LiabilityMatcherModel" "place" "I" ∈ lwG := lwG_t (k := 936) (by decide +kernel) rfl
theorem qw_937 : Cond.fieldLink "LiabilityMatcherModel" 154 "LiabilityMatcherModel" "statements" "I" ∈ lwG := lwG_t (k := 937) (by decide +kernel) rfl
theorem qw_938 : Cond.fieldLink "LiabilityMatcherModel" 19 "LiabilityMatcherModel" "read" "[I" ∈ lwG := lwG_t (k := 938) (by decide +kernel) rfl
theorem qw_939 : Cond.fieldLink "LiabilityMatcherModel" 22 "LiabilityMatcherModel" "cell" "[J" ∈ lwG := lwG_t (k := 939) (by decide +kernel) rfl
theorem qw_940 : Cond.fieldLink "LiabilityMatcherModel" 26 "LiabilityMatcherModel" "wall" "[J" ∈ lwG := lwG_t (k := 940) (by decide +kernel) rfl
theorem qw_941 : Cond.fieldLink "LiabilityMatcherModel" 29 "LiabilityMatcherModel" "aim" "[J" ∈ lwG := lwG_t (k := 941) (by decide +kernel) rfl
theorem qw_942 : Cond.fieldLink "LiabilityMatcherModel" 32 "LiabilityMatcherModel" "chosen" "[I" ∈ lwG := lwG_t (k := 942) (by decide +kernel) rfl
theorem qw_943 : Cond.fieldLink "LiabilityMatcherModel" 35 "LiabilityMatcherModel" "upper" "[J" ∈ lwG := lwG_t (k := 943) (by decide +kernel) rfl
theorem qw_944 : Cond.fieldLink "LiabilityMatcherModel" 185 "LiabilityMatcherModel" "lower" "J" ∈ lwG := lwG_t (k := 944) (by decide +kernel) rfl
theorem qw_945 : Cond.fieldLink "LiabilityMatcherModel" 38 "LiabilityMatcherModel" "best" "[J" ∈ lwG := lwG_t (k := 945) (by decide +kernel) rfl
theorem qw_946 : Cond.fieldLink "LiabilityMatcherModel" 207 "LiabilityMatcherModel" "bestLower" "J" ∈ lwG := lwG_t (k := 946) (by decide +kernel) rfl
theorem qw_947 : Cond.fieldLink "LiabilityMatcherModel" 204 "LiabilityMatcherModel" "bestCost" "J" ∈ lwG := lwG_t (k := 947) (by decide +kernel) rfl
theorem qw_948 : Cond.fieldLink "LiabilityMatcherModel" 200 "LiabilityMatcherModel" "isFound" "Z" ∈ lwG := lwG_t (k := 948) (by decide +kernel) rfl
theorem qw_949 : Cond.fieldLink "LiabilityMatcherModel" 41 "LiabilityMatcherModel" "trial" "[J" ∈ lwG := lwG_t (k := 949) (by decide +kernel) rfl
theorem qw_950 : Cond.fieldLink "LiabilityMatcherModel" 44 "LiabilityMatcherModel" "bound" "[J" ∈ lwG := lwG_t (k := 950) (by decide +kernel) rfl
theorem qw_951 : Cond.fieldLink "LiabilityMatcherModel" 47 "LiabilityMatcherModel" "boundAim" "[J" ∈ lwG := lwG_t (k := 951) (by decide +kernel) rfl
theorem qw_952 : Cond.fieldLink "LiabilityMatcherModel" 50 "LiabilityMatcherModel" "y" "[J" ∈ lwG := lwG_t (k := 952) (by decide +kernel) rfl
theorem qw_953 : Cond.fieldLink "LiabilityMatcherModel" 242 "LiabilityMatcherModel" "yLower" "J" ∈ lwG := lwG_t (k := 953) (by decide +kernel) rfl
theorem qw_954 : Cond.fieldLink "LiabilityMatcherModel" 239 "LiabilityMatcherModel" "yWorth" "J" ∈ lwG := lwG_t (k := 954) (by decide +kernel) rfl
theorem qw_955 : Cond.fieldLink "LiabilityMatcherModel" 53 "LiabilityMatcherModel" "kept" "[I" ∈ lwG := lwG_t (k := 955) (by decide +kernel) rfl
theorem qw_956 : Cond.fieldLink "LiabilityMatcherModel" 56 "LiabilityMatcherModel" "lot" "[I" ∈ lwG := lwG_t (k := 956) (by decide +kernel) rfl
theorem qw_957 : Cond.fieldLink "LiabilityMatcherModel" 59 "LiabilityMatcherModel" "bestLot" "[I" ∈ lwG := lwG_t (k := 957) (by decide +kernel) rfl
theorem qw_958 : Cond.fieldLink "LiabilityMatcherModel" 257 "LiabilityMatcherModel" "needUpper" "J" ∈ lwG := lwG_t (k := 958) (by decide +kernel) rfl
theorem qw_959 : Cond.fieldLink "LiabilityMatcherModel" 260 "LiabilityMatcherModel" "needLower" "J" ∈ lwG := lwG_t (k := 959) (by decide +kernel) rfl
theorem qw_960 : Cond.fieldLink "LiabilityMatcherModel" 62 "LiabilityMatcherModel" "balance" "[J" ∈ lwG := lwG_t (k := 960) (by decide +kernel) rfl
theorem qw_961 : Cond.fieldLink "LiabilityMatcherModel" 274 "LiabilityMatcherModel" "lotUpper" "J" ∈ lwG := lwG_t (k := 961) (by decide +kernel) rfl
theorem qw_962 : Cond.fieldLink "LiabilityMatcherModel" 277 "LiabilityMatcherModel" "lotLower" "J" ∈ lwG := lwG_t (k := 962) (by decide +kernel) rfl
theorem qw_963 : Cond.fieldLink "LiabilityMatcherModel" 280 "LiabilityMatcherModel" "lotNeed" "J" ∈ lwG := lwG_t (k := 963) (by decide +kernel) rfl
theorem qw_1041 : Cond.methodLink "LiabilityMatcherLaw" 83 yX10_thrown ∈ lwG := lwG_t (k := 1041) (by decide +kernel) rfl
theorem qw_1045 : Cond.methodLink "LiabilityMatcherLaw" 23 yX10_dates ∈ lwG := lwG_t (k := 1045) (by decide +kernel) rfl
theorem qw_1049 : Cond.methodLink "LiabilityMatcherModel" 69 yX10_in ∈ lwG := lwG_t (k := 1049) (by decide +kernel) rfl
theorem qw_1052 : Cond.methodLink "LiabilityMatcherModel" 73 yX10_laysDates ∈ lwG := lwG_t (k := 1052) (by decide +kernel) rfl
theorem qw_1056 : Cond.methodLink "LiabilityMatcherModel" 77 yX10_takes ∈ lwG := lwG_t (k := 1056) (by decide +kernel) rfl
theorem qw_1060 : Cond.methodLink "LiabilityMatcherLaw" 28 yX10_pay ∈ lwG := lwG_t (k := 1060) (by decide +kernel) rfl
theorem qw_1064 : Cond.methodLink "LiabilityMatcherModel" 81 yX10_drafts ∈ lwG := lwG_t (k := 1064) (by decide +kernel) rfl
theorem qw_1068 : Cond.methodLink "LiabilityMatcherModel" 84 yX10_isDate ∈ lwG := lwG_t (k := 1068) (by decide +kernel) rfl
theorem qw_1072 : Cond.methodLink "LiabilityMatcherModel" 88 yX10_lays ∈ lwG := lwG_t (k := 1072) (by decide +kernel) rfl
theorem qw_1076 : Cond.methodLink "LiabilityMatcherLaw" 32 yX10_rate ∈ lwG := lwG_t (k := 1076) (by decide +kernel) rfl
theorem qw_1080 : Cond.methodLink "LiabilityMatcherLaw" 37 yX10_bond ∈ lwG := lwG_t (k := 1080) (by decide +kernel) rfl
theorem qw_1084 : Cond.methodLink "LiabilityMatcherModel" 92 yX10_laysBond ∈ lwG := lwG_t (k := 1084) (by decide +kernel) rfl
theorem qw_1088 : Cond.methodLink "LiabilityMatcherLaw" 41 yX10_most ∈ lwG := lwG_t (k := 1088) (by decide +kernel) rfl
theorem qw_1092 : Cond.methodLink "LiabilityMatcherModel" 96 yX10_isBond ∈ lwG := lwG_t (k := 1092) (by decide +kernel) rfl
theorem qw_1096 : Cond.methodLink "LiabilityMatcherLaw" 45 yX10_call ∈ lwG := lwG_t (k := 1096) (by decide +kernel) rfl
theorem qw_1100 : Cond.methodLink "LiabilityMatcherLaw" 123 yX10_hold ∈ lwG := lwG_t (k := 1100) (by decide +kernel) rfl
theorem qw_1104 : Cond.methodLink "LiabilityMatcherLaw" 127 yX10_cash ∈ lwG := lwG_t (k := 1104) (by decide +kernel) rfl
theorem qw_1108 : Cond.methodLink "LiabilityMatcherLaw" 50 yX10_drop ∈ lwG := lwG_t (k := 1108) (by decide +kernel) rfl
theorem qw_1112 : Cond.methodLink "LiabilityMatcherLaw" 55 yX10_feed ∈ lwG := lwG_t (k := 1112) (by decide +kernel) rfl
theorem qw_1116 : Cond.methodLink "LiabilityMatcherModel" 105 yX10_four ∈ lwG := lwG_t (k := 1116) (by decide +kernel) rfl
theorem qw_1120 : Cond.methodLink "LiabilityMatcherLaw" 59 yX10_end ∈ lwG := lwG_t (k := 1120) (by decide +kernel) rfl
theorem qw_1124 : Cond.methodLink "LiabilityMatcherLaw" 64 yX10_tell ∈ lwG := lwG_t (k := 1124) (by decide +kernel) rfl
theorem qw_1128 : Cond.methodLink "LiabilityMatcherModel" 161 yX10_readText ∈ lwG := lwG_t (k := 1128) (by decide +kernel) rfl
theorem qw_1132 : Cond.methodLink "LiabilityMatcherModel" 114 yX10_here ∈ lwG := lwG_t (k := 1132) (by decide +kernel) rfl
theorem qw_1136 : Cond.methodLink "LiabilityMatcherModel" 157 yX10_readStatement ∈ lwG := lwG_t (k := 1136) (by decide +kernel) rfl
theorem qw_1140 : Cond.methodLink "LiabilityMatcherModel" 118 yX10_fails ∈ lwG := lwG_t (k := 1140) (by decide +kernel) rfl
theorem qw_1144 : Cond.methodLink "LiabilityMatcherModel" 137 yX10_readWord ∈ lwG := lwG_t (k := 1144) (by decide +kernel) rfl
theorem qw_1148 : Cond.constantLong "LiabilityMatcherModel" 131 27 ∈ lwG := lwG_t (k := 1148) (by decide +kernel) rfl
theorem qw_1149 : Cond.constantLong "LiabilityMatcherModel" 133 96 ∈ lwG := lwG_t (k := 1149) (by decide +kernel) rfl
theorem qw_1150 : Cond.constantLong "LiabilityMatcherModel" 135 (-1) ∈ lwG := lwG_t (k := 1150) (by decide +kernel) rfl
theorem qw_1151 : Cond.constantLong "LiabilityMatcherModel" 141 2160181 ∈ lwG := lwG_t (k := 1151) (by decide +kernel) rfl
theorem qw_1152 : Cond.methodLink "LiabilityMatcherModel" 125 yX10_readNumber ∈ lwG := lwG_t (k := 1152) (by decide +kernel) rfl
theorem qw_1156 : Cond.constantLong "LiabilityMatcherModel" 143 11716 ∈ lwG := lwG_t (k := 1156) (by decide +kernel) rfl
theorem qw_1157 : Cond.methodLink "LiabilityMatcherModel" 145 yX10_reads ∈ lwG := lwG_t (k := 1157) (by decide +kernel) rfl
theorem qw_1161 : Cond.constantLong "LiabilityMatcherModel" 148 355568 ∈ lwG := lwG_t (k := 1161) (by decide +kernel) rfl
theorem qw_1162 : Cond.constantLong "LiabilityMatcherModel" 150 267347 ∈ lwG := lwG_t (k := 1162) (by decide +kernel) rfl
theorem qw_1163 : Cond.constantLong "LiabilityMatcherModel" 152 50683 ∈ lwG := lwG_t (k := 1163) (by decide +kernel) rfl
theorem qw_1164 : Cond.methodLink "LiabilityMatcherLaw" 68 yX10_fault ∈ lwG := lwG_t (k := 1164) (by decide +kernel) rfl
theorem qw_1168 : Cond.methodLink "LiabilityMatcherLaw" 72 yX10_count ∈ lwG := lwG_t (k := 1168) (by decide +kernel) rfl
theorem qw_1172 : Cond.methodLink "LiabilityMatcherLaw" 76 yX10_date ∈ lwG := lwG_t (k := 1172) (by decide +kernel) rfl
theorem qw_1176 : Cond.methodLink "LiabilityMatcherLaw" 82 yX10_told ∈ lwG := lwG_t (k := 1176) (by decide +kernel) rfl
theorem qw_1180 : Cond.methodLink "LiabilityMatcherModel" 167 yX10_yields ∈ lwG := lwG_t (k := 1180) (by decide +kernel) rfl
theorem qw_1184 : Cond.methodLink "LiabilityMatcherLaw" 90 yX10_cost ∈ lwG := lwG_t (k := 1184) (by decide +kernel) rfl
theorem qw_1188 : Cond.methodLink "LiabilityMatcherModel" 226 yX10_finds ∈ lwG := lwG_t (k := 1188) (by decide +kernel) rfl
theorem qw_1192 : Cond.methodLink "LiabilityMatcherModel" 214 yX10_laysWall ∈ lwG := lwG_t (k := 1192) (by decide +kernel) rfl
theorem qw_1196 : Cond.constantLong "LiabilityMatcherModel" 189 20 ∈ lwG := lwG_t (k := 1196) (by decide +kernel) rfl
theorem qw_1197 : Cond.constantLong "LiabilityMatcherModel" 191 (-20) ∈ lwG := lwG_t (k := 1197) (by decide +kernel) rfl
theorem qw_1198 : Cond.methodLink "LiabilityMatcherModel" 217 yX10_isChosen ∈ lwG := lwG_t (k := 1198) (by decide +kernel) rfl
theorem qw_1202 : Cond.methodLink "LiabilityMatcherModel" 220 yX10_tries ∈ lwG := lwG_t (k := 1202) (by decide +kernel) rfl
theorem qw_1206 : Cond.methodLink "LiabilityMatcherModel" 193 yX10_solves ∈ lwG := lwG_t (k := 1206) (by decide +kernel) rfl
theorem qw_1210 : Cond.methodLink "LiabilityMatcherModel" 179 yX10_laysColumns ∈ lwG := lwG_t (k := 1210) (by decide +kernel) rfl
theorem qw_1214 : Cond.methodLink "LiabilityMatcherModel" 182 yX10_determinant ∈ lwG := lwG_t (k := 1214) (by decide +kernel) rfl
theorem qw_1218 : Cond.methodLink "LiabilityMatcherModel" 175 yX10_two ∈ lwG := lwG_t (k := 1218) (by decide +kernel) rfl
theorem qw_1222 : Cond.methodLink "LiabilityMatcherModel" 196 yX10_priceOf ∈ lwG := lwG_t (k := 1222) (by decide +kernel) rfl
theorem qw_1226 : Cond.methodLink "LiabilityMatcherModel" 210 yX10_compares ∈ lwG := lwG_t (k := 1226) (by decide +kernel) rfl
theorem qw_1229 : Cond.methodLink "LiabilityMatcherModel" 223 yX10_choosesOn ∈ lwG := lwG_t (k := 1229) (by decide +kernel) rfl
theorem qw_1233 : Cond.methodLink "LiabilityMatcherModel" 229 yX10_tells ∈ lwG := lwG_t (k := 1233) (by decide +kernel) rfl
theorem qw_1236 : Cond.methodLink "LiabilityMatcherModel" 171 yX10_divisor ∈ lwG := lwG_t (k := 1236) (by decide +kernel) rfl
theorem qw_1239 : Cond.methodLink "LiabilityMatcherLaw" 95 yX10_part ∈ lwG := lwG_t (k := 1239) (by decide +kernel) rfl
theorem qw_1243 : Cond.methodLink "LiabilityMatcherLaw" 99 yX10_surplus ∈ lwG := lwG_t (k := 1243) (by decide +kernel) rfl
theorem qw_1247 : Cond.methodLink "LiabilityMatcherLaw" 111 yX10_without ∈ lwG := lwG_t (k := 1247) (by decide +kernel) rfl
theorem qw_1251 : Cond.methodLink "LiabilityMatcherLaw" 103 yX10_multiplier ∈ lwG := lwG_t (k := 1251) (by decide +kernel) rfl
theorem qw_1255 : Cond.methodLink "LiabilityMatcherModel" 251 yX10_multiplies ∈ lwG := lwG_t (k := 1255) (by decide +kernel) rfl
theorem qw_1259 : Cond.methodLink "LiabilityMatcherModel" 245 yX10_laysBounds ∈ lwG := lwG_t (k := 1259) (by decide +kernel) rfl
theorem qw_1263 : Cond.methodLink "LiabilityMatcherModel" 248 yX10_triesBounds ∈ lwG := lwG_t (k := 1263) (by decide +kernel) rfl
theorem qw_1267 : Cond.methodLink "LiabilityMatcherModel" 233 yX10_solvesBounds ∈ lwG := lwG_t (k := 1267) (by decide +kernel) rfl
theorem qw_1271 : Cond.methodLink "LiabilityMatcherModel" 236 yX10_areKept ∈ lwG := lwG_t (k := 1271) (by decide +kernel) rfl
theorem qw_1275 : Cond.methodLink "LiabilityMatcherLaw" 107 yX10_dear ∈ lwG := lwG_t (k := 1275) (by decide +kernel) rfl
theorem qw_1279 : Cond.methodLink "LiabilityMatcherLaw" 115 yX10_lots ∈ lwG := lwG_t (k := 1279) (by decide +kernel) rfl
theorem qw_1283 : Cond.methodLink "LiabilityMatcherModel" 286 yX10_buysLots ∈ lwG := lwG_t (k := 1283) (by decide +kernel) rfl
theorem qw_1287 : Cond.methodLink "LiabilityMatcherModel" 283 yX10_triesLot ∈ lwG := lwG_t (k := 1287) (by decide +kernel) rfl
theorem qw_1291 : Cond.methodLink "LiabilityMatcherModel" 267 yX10_runs ∈ lwG := lwG_t (k := 1291) (by decide +kernel) rfl
theorem qw_1295 : Cond.methodLink "LiabilityMatcherModel" 254 yX10_power ∈ lwG := lwG_t (k := 1295) (by decide +kernel) rfl
theorem qw_1299 : Cond.methodLink "LiabilityMatcherModel" 271 yX10_needs ∈ lwG := lwG_t (k := 1299) (by decide +kernel) rfl
theorem qw_1303 : Cond.methodLink "LiabilityMatcherModel" 263 yX10_grows ∈ lwG := lwG_t (k := 1303) (by decide +kernel) rfl
theorem qw_1307 : Cond.methodLink "LiabilityMatcherLaw" 119 yX10_lotsCost ∈ lwG := lwG_t (k := 1307) (by decide +kernel) rfl
theorem qw_1311 : Cond.methodLink "LiabilityMatcherLaw" 131 yX10_take ∈ lwG := lwG_t (k := 1311) (by decide +kernel) rfl
theorem qw_1315 : Cond.methodLink "LiabilityMatcherLaw" 135 yX10_fails_ ∈ lwG := lwG_t (k := 1315) (by decide +kernel) rfl
theorem qw_1319 : Cond.methodLink "LiabilityMatcherModel" 289 yX10_failsAt ∈ lwG := lwG_t (k := 1319) (by decide +kernel) rfl
theorem qw_1323 : Cond.methodLink "LiabilityMatcherLaw" 139 yX10_balance ∈ lwG := lwG_t (k := 1323) (by decide +kernel) rfl
theorem qw_1327 : Cond.methodLink "LiabilityMatcherLaw" 143 yX10_need ∈ lwG := lwG_t (k := 1327) (by decide +kernel) rfl
theorem qw_1331 : Cond.methodLink "LiabilityMatcherLaw" 147 yX10_lack ∈ lwG := lwG_t (k := 1331) (by decide +kernel) rfl
theorem qw_1350 : Cond.fieldLink "java/lang/String" 9 "java/lang/String" "value" "[B" ∈ lwG := lwG_t (k := 1350) (by decide +kernel) rfl
theorem qw_1351 : Cond.fieldLink "java/lang/String" 15 "java/lang/String" "coder" "B" ∈ lwG := lwG_t (k := 1351) (by decide +kernel) rfl
theorem yk_X9_init : zYI yX9_init cX9_init 1 0 := ⟨lwG_t (k := 27) (by decide +kernel) rfl, lwG_t (k := 1) (by decide +kernel) rfl, lwG_t (k := 28) (by decide +kernel) rfl, rfl, by decide +kernel, by decide +kernel, by decide +kernel⟩
theorem yk_X8_init : zYI yX8_init cX8_init 1 0 := ⟨lwG_t (k := 35) (by decide +kernel) rfl, lwG_t (k := 2) (by decide +kernel) rfl, lwG_t (k := 36) (by decide +kernel) rfl, rfl, by decide +kernel, by decide +kernel, by decide +kernel⟩
theorem yk_X1_init : zYI yX1_init cX1_init 1 0 := ⟨lwG_t (k := 67) (by decide +kernel) rfl, lwG_t (k := 3) (by decide +kernel) rfl, lwG_t (k := 68) (by decide +kernel) rfl, rfl, by decide +kernel, by decide +kernel, by decide +kernel⟩
theorem yk_X2_init : zYI yX2_init cX2_init 1 0 := ⟨lwG_t (k := 73) (by decide +kernel) rfl, lwG_t (k := 4) (by decide +kernel) rfl, lwG_t (k := 74) (by decide +kernel) rfl, rfl, by decide +kernel, by decide +kernel, by decide +kernel⟩
theorem yk_X7_init : zYI yX7_init cX7_init 1 0 := ⟨lwG_t (k := 96) (by decide +kernel) rfl, lwG_t (k := 5) (by decide +kernel) rfl, lwG_t (k := 97) (by decide +kernel) rfl, rfl, by decide +kernel, by decide +kernel, by decide +kernel⟩
theorem yk_X3_init : zYI yX3_init cX3_init 1 0 := ⟨lwG_t (k := 115) (by decide +kernel) rfl, lwG_t (k := 6) (by decide +kernel) rfl, lwG_t (k := 116) (by decide +kernel) rfl, rfl, by decide +kernel, by decide +kernel, by decide +kernel⟩
theorem yk_X0_init : zYI yX0_init cX0_init 1 0 := ⟨lwG_t (k := 156) (by decide +kernel) rfl, lwG_t (k := 7) (by decide +kernel) rfl, lwG_t (k := 157) (by decide +kernel) rfl, rfl, by decide +kernel, by decide +kernel, by decide +kernel⟩
theorem yk_X5_init : zYI yX5_init cX5_init 1 0 := ⟨lwG_t (k := 211) (by decide +kernel) rfl, lwG_t (k := 8) (by decide +kernel) rfl, lwG_t (k := 212) (by decide +kernel) rfl, rfl, by decide +kernel, by decide +kernel, by decide +kernel⟩
theorem yk_X4_init : zYI yX4_init cX4_init 1 0 := ⟨lwG_t (k := 262) (by decide +kernel) rfl, lwG_t (k := 9) (by decide +kernel) rfl, lwG_t (k := 263) (by decide +kernel) rfl, rfl, by decide +kernel, by decide +kernel, by decide +kernel⟩
theorem yk_X6_init : zYI yX6_init cX6_init 1 0 := ⟨lwG_t (k := 289) (by decide +kernel) rfl, lwG_t (k := 10) (by decide +kernel) rfl, lwG_t (k := 290) (by decide +kernel) rfl, rfl, by decide +kernel, by decide +kernel, by decide +kernel⟩
theorem yk_X9_dates : zYV RX9 yX9_dates cX9_dates 2 (Option.some .boolean) 1 := ⟨lwG_t (k := 348) (by decide +kernel) rfl, lwG_t (k := 349) (by decide +kernel) rfl, lwG_t (k := 1) (by decide +kernel) rfl, lwG_t (k := 350) (by decide +kernel) rfl, rfl, by decide +kernel, by decide +kernel, by decide +kernel⟩
theorem yk_X6_fits : zYV RX6 yX6_fits cX6_fits 3 (Option.some .boolean) 2 := ⟨lwG_t (k := 352) (by decide +kernel) rfl, lwG_t (k := 353) (by decide +kernel) rfl, lwG_t (k := 10) (by decide +kernel) rfl, lwG_t (k := 354) (by decide +kernel) rfl, rfl, by decide +kernel, by decide +kernel, by decide +kernel⟩
theorem yk_X6_greatest : zYV RX6 yX6_greatest cX6_greatest 2 (Option.some .int) 1 := ⟨lwG_t (k := 361) (by decide +kernel) rfl, lwG_s (k := 0) (q := (yX6_greatest, 5)) (by decide +kernel), lwG_t (k := 10) (by decide +kernel) rfl, lwG_t (k := 362) (by decide +kernel) rfl, rfl, by decide +kernel, by decide +kernel, by decide +kernel⟩
theorem yk_X6_begin : zYV RX6 yX6_begin cX6_begin 3 none 1 := ⟨lwG_t (k := 364) (by decide +kernel) rfl, lwG_t (k := 365) (by decide +kernel) rfl, lwG_t (k := 10) (by decide +kernel) rfl, lwG_t (k := 366) (by decide +kernel) rfl, rfl, by decide +kernel, by decide +kernel, by decide +kernel⟩
theorem yk_X9_forgetAnswers : zYV RX9 yX9_forgetAnswers cX9_forgetAnswers 1 none 0 := ⟨lwG_t (k := 369) (by decide +kernel) rfl, lwG_s (k := 1) (q := (yX9_forgetAnswers, 10)) (by decide +kernel), lwG_t (k := 1) (by decide +kernel) rfl, lwG_t (k := 370) (by decide +kernel) rfl, rfl, by decide +kernel, by decide +kernel, by decide +kernel⟩
theorem yk_X9_pay : zYV RX9 yX9_pay cX9_pay 3 (Option.some .boolean) 2 := ⟨lwG_t (k := 372) (by decide +kernel) rfl, lwG_t (k := 373) (by decide +kernel) rfl, lwG_t (k := 1) (by decide +kernel) rfl, lwG_t (k := 374) (by decide +kernel) rfl, rfl, by decide +kernel, by decide +kernel, by decide +kernel⟩
theorem yk_X6_setPaid : zYV RX6 yX6_setPaid cX6_setPaid 3 none 2 := ⟨lwG_t (k := 376) (by decide +kernel) rfl, lwG_t (k := 377) (by decide +kernel) rfl, lwG_t (k := 10) (by decide +kernel) rfl, lwG_t (k := 378) (by decide +kernel) rfl, rfl, by decide +kernel, by decide +kernel, by decide +kernel⟩
theorem yk_X6_isDate : zYV RX6 yX6_isDate cX6_isDate 2 (Option.some .boolean) 1 := ⟨lwG_t (k := 381) (by decide +kernel) rfl, lwG_s (k := 2) (q := (yX6_isDate, 5)) (by decide +kernel), lwG_t (k := 10) (by decide +kernel) rfl, lwG_t (k := 382) (by decide +kernel) rfl, rfl, by decide +kernel, by decide +kernel, by decide +kernel⟩
theorem yk_X9_rate : zYV RX9 yX9_rate cX9_rate 3 (Option.some .boolean) 2 := ⟨lwG_t (k := 384) (by decide +kernel) rfl, lwG_t (k := 385) (by decide +kernel) rfl, lwG_t (k := 1) (by decide +kernel) rfl, lwG_t (k := 386) (by decide +kernel) rfl, rfl, by decide +kernel, by decide +kernel, by decide +kernel⟩
theorem yk_X6_setRate : zYV RX6 yX6_setRate cX6_setRate 3 none 2 := ⟨lwG_t (k := 388) (by decide +kernel) rfl, lwG_t (k := 389) (by decide +kernel) rfl, lwG_t (k := 10) (by decide +kernel) rfl, lwG_t (k := 390) (by decide +kernel) rfl, rfl, by decide +kernel, by decide +kernel, by decide +kernel⟩
theorem yk_X9_bond : zYV RX9 yX9_bond cX9_bond 5 (Option.some .int) 4 := ⟨lwG_t (k := 392) (by decide +kernel) rfl, lwG_t (k := 393) (by decide +kernel) rfl, lwG_t (k := 1) (by decide +kernel) rfl, lwG_t (k := 394) (by decide +kernel) rfl, rfl, by decide +kernel, by decide +kernel, by decide +kernel⟩
theorem yk_X6_isFull : zYV RX6 yX6_isFull cX6_isFull 1 (Option.some .boolean) 0 := ⟨lwG_t (k := 396) (by decide +kernel) rfl, lwG_t (k := 397) (by decide +kernel) rfl, lwG_t (k := 10) (by decide +kernel) rfl, lwG_t (k := 398) (by decide +kernel) rfl, rfl, by decide +kernel, by decide +kernel, by decide +kernel⟩
theorem yk_X6_addBond : zYV RX6 yX6_addBond cX6_addBond 5 none 4 := ⟨lwG_t (k := 400) (by decide +kernel) rfl, lwG_t (k := 401) (by decide +kernel) rfl, lwG_t (k := 10) (by decide +kernel) rfl, lwG_t (k := 402) (by decide +kernel) rfl, rfl, by decide +kernel, by decide +kernel, by decide +kernel⟩
theorem yk_X6_setTerm : zYV RX6 yX6_setTerm cX6_setTerm 4 none 3 := ⟨lwG_t (k := 405) (by decide +kernel) rfl, lwG_t (k := 406) (by decide +kernel) rfl, lwG_t (k := 10) (by decide +kernel) rfl, lwG_t (k := 407) (by decide +kernel) rfl, rfl, by decide +kernel, by decide +kernel, by decide +kernel⟩
theorem yk_X6_isTerm : zYV RX6 yX6_isTerm cX6_isTerm 3 (Option.some .boolean) 2 := ⟨lwG_t (k := 410) (by decide +kernel) rfl, lwG_s (k := 3) (q := (yX6_isTerm, 5)) (by decide +kernel), lwG_t (k := 10) (by decide +kernel) rfl, lwG_t (k := 411) (by decide +kernel) rfl, rfl, by decide +kernel, by decide +kernel, by decide +kernel⟩
theorem yk_X9_most : zYV RX9 yX9_most cX9_most 3 (Option.some .boolean) 2 := ⟨lwG_t (k := 413) (by decide +kernel) rfl, lwG_t (k := 414) (by decide +kernel) rfl, lwG_t (k := 1) (by decide +kernel) rfl, lwG_t (k := 415) (by decide +kernel) rfl, rfl, by decide +kernel, by decide +kernel, by decide +kernel⟩
theorem yk_X9_call : zYV RX9 yX9_call cX9_call 3 (Option.some .boolean) 2 := ⟨lwG_t (k := 418) (by decide +kernel) rfl, lwG_t (k := 419) (by decide +kernel) rfl, lwG_t (k := 1) (by decide +kernel) rfl, lwG_t (k := 420) (by decide +kernel) rfl, rfl, by decide +kernel, by decide +kernel, by decide +kernel⟩
theorem yk_X6_term : zYV RX6 yX6_term cX6_term 3 (Option.some .int) 2 := ⟨lwG_t (k := 422) (by decide +kernel) rfl, lwG_t (k := 423) (by decide +kernel) rfl, lwG_t (k := 10) (by decide +kernel) rfl, lwG_t (k := 424) (by decide +kernel) rfl, rfl, by decide +kernel, by decide +kernel, by decide +kernel⟩
theorem yk_X9_drop : zYV RX9 yX9_drop cX9_drop 2 (Option.some .int) 1 := ⟨lwG_t (k := 426) (by decide +kernel) rfl, lwG_t (k := 427) (by decide +kernel) rfl, lwG_t (k := 1) (by decide +kernel) rfl, lwG_t (k := 428) (by decide +kernel) rfl, rfl, by decide +kernel, by decide +kernel, by decide +kernel⟩
theorem yk_X6_removeBond : zYV RX6 yX6_removeBond cX6_removeBond 3 none 1 := ⟨lwG_t (k := 430) (by decide +kernel) rfl, lwG_t (k := 431) (by decide +kernel) rfl, lwG_t (k := 10) (by decide +kernel) rfl, lwG_t (k := 432) (by decide +kernel) rfl, rfl, by decide +kernel, by decide +kernel, by decide +kernel⟩
theorem yk_X9_feed : zYV RX9 yX9_feed cX9_feed 6 (Option.some .int) 5 := ⟨lwG_t (k := 435) (by decide +kernel) rfl, lwG_t (k := 436) (by decide +kernel) rfl, lwG_t (k := 1) (by decide +kernel) rfl, lwG_t (k := 437) (by decide +kernel) rfl, rfl, by decide +kernel, by decide +kernel, by decide +kernel⟩
theorem yk_X8_hasRoom : zYV RX8 yX8_hasRoom cX8_hasRoom 2 (Option.some .boolean) 1 := ⟨lwG_t (k := 439) (by decide +kernel) rfl, lwG_t (k := 440) (by decide +kernel) rfl, lwG_t (k := 2) (by decide +kernel) rfl, lwG_t (k := 441) (by decide +kernel) rfl, rfl, by decide +kernel, by decide +kernel, by decide +kernel⟩
theorem yk_X8_addBytes : zYV RX8 yX8_addBytes cX8_addBytes 3 none 1 := ⟨lwG_t (k := 443) (by decide +kernel) rfl, lwG_t (k := 444) (by decide +kernel) rfl, lwG_t (k := 2) (by decide +kernel) rfl, lwG_t (k := 445) (by decide +kernel) rfl, rfl, by decide +kernel, by decide +kernel, by decide +kernel⟩
theorem yk_X9_end : zYV RX9 yX9_end cX9_end 2 (Option.some .boolean) 1 := ⟨lwG_t (k := 448) (by decide +kernel) rfl, lwG_t (k := 449) (by decide +kernel) rfl, lwG_t (k := 1) (by decide +kernel) rfl, lwG_t (k := 450) (by decide +kernel) rfl, rfl, by decide +kernel, by decide +kernel, by decide +kernel⟩
theorem yk_X9_tell : zYV RX9 yX9_tell cX9_tell 3 (Option.some .int) 0 := ⟨lwG_t (k := 452) (by decide +kernel) rfl, lwG_t (k := 453) (by decide +kernel) rfl, lwG_t (k := 1) (by decide +kernel) rfl, lwG_t (k := 454) (by decide +kernel) rfl, rfl, by decide +kernel, by decide +kernel, by decide +kernel⟩
theorem yk_X6_copyFrom : zYV RX6 yX6_copyFrom cX6_copyFrom 2 none 1 := ⟨lwG_t (k := 456) (by decide +kernel) rfl, lwG_t (k := 457) (by decide +kernel) rfl, lwG_t (k := 10) (by decide +kernel) rfl, lwG_t (k := 458) (by decide +kernel) rfl, rfl, by decide +kernel, by decide +kernel, by decide +kernel⟩
theorem yk_X8_tellTo : zYV RX8 yX8_tellTo cX8_tellTo 3 (Option.some .int) 1 := ⟨lwG_t (k := 463) (by decide +kernel) rfl, lwG_t (k := 464) (by decide +kernel) rfl, lwG_t (k := 2) (by decide +kernel) rfl, lwG_t (k := 465) (by decide +kernel) rfl, rfl, by decide +kernel, by decide +kernel, by decide +kernel⟩
theorem yk_X8_readToken : zYV RX8 yX8_readToken cX8_readToken 1 none 0 := ⟨lwG_t (k := 468) (by decide +kernel) rfl, lwG_s (k := 4) (q := (yX8_readToken, 7)) (by decide +kernel), lwG_t (k := 2) (by decide +kernel) rfl, lwG_t (k := 469) (by decide +kernel) rfl, rfl, by decide +kernel, by decide +kernel, by decide +kernel⟩
theorem yk_X8_byteAt : zYV RX8 yX8_byteAt cX8_byteAt 2 (Option.some .int) 1 := ⟨lwG_t (k := 472) (by decide +kernel) rfl, lwG_s (k := 5) (q := (yX8_byteAt, 7)) (by decide +kernel), lwG_t (k := 2) (by decide +kernel) rfl, lwG_t (k := 473) (by decide +kernel) rfl, rfl, by decide +kernel, by decide +kernel, by decide +kernel⟩
theorem yk_X8_isBlank : zYS yX8_isBlank cX8_isBlank 1 (Option.some .boolean) 1 := ⟨lwG_t (k := 475) (by decide +kernel) rfl, lwG_t (k := 2) (by decide +kernel) rfl, lwG_t (k := 476) (by decide +kernel) rfl, by decide +kernel, by decide +kernel, by decide +kernel⟩
theorem yk_X8_isLetter : zYS yX8_isLetter cX8_isLetter 1 (Option.some .boolean) 1 := ⟨lwG_t (k := 478) (by decide +kernel) rfl, lwG_t (k := 2) (by decide +kernel) rfl, lwG_t (k := 479) (by decide +kernel) rfl, by decide +kernel, by decide +kernel, by decide +kernel⟩
theorem yk_X8_readWord : zYV RX8 yX8_readWord cX8_readWord 1 none 0 := ⟨lwG_t (k := 482) (by decide +kernel) rfl, lwG_s (k := 6) (q := (yX8_readWord, 7)) (by decide +kernel), lwG_t (k := 2) (by decide +kernel) rfl, lwG_t (k := 483) (by decide +kernel) rfl, rfl, by decide +kernel, by decide +kernel, by decide +kernel⟩
theorem yk_X8_isDigit : zYS yX8_isDigit cX8_isDigit 1 (Option.some .boolean) 1 := ⟨lwG_t (k := 485) (by decide +kernel) rfl, lwG_t (k := 2) (by decide +kernel) rfl, lwG_t (k := 486) (by decide +kernel) rfl, by decide +kernel, by decide +kernel, by decide +kernel⟩
theorem yk_X8_readNumber : zYV RX8 yX8_readNumber cX8_readNumber 1 none 0 := ⟨lwG_t (k := 489) (by decide +kernel) rfl, lwG_s (k := 7) (q := (yX8_readNumber, 7)) (by decide +kernel), lwG_t (k := 2) (by decide +kernel) rfl, lwG_t (k := 490) (by decide +kernel) rfl, rfl, by decide +kernel, by decide +kernel, by decide +kernel⟩
theorem yk_X8_tellStatement : zYV RX8 yX8_tellStatement cX8_tellStatement 3 (Option.some .boolean) 1 := ⟨lwG_t (k := 493) (by decide +kernel) rfl, lwG_s (k := 8) (q := (yX8_tellStatement, 7)) (by decide +kernel), lwG_t (k := 2) (by decide +kernel) rfl, lwG_t (k := 494) (by decide +kernel) rfl, rfl, by decide +kernel, by decide +kernel, by decide +kernel⟩
theorem yk_X8_statementOfToken : zYV RX8 yX8_statementOfToken cX8_statementOfToken 2 (Option.some .int) 0 := ⟨lwG_t (k := 497) (by decide +kernel) rfl, lwG_s (k := 9) (q := (yX8_statementOfToken, 7)) (by decide +kernel), lwG_t (k := 2) (by decide +kernel) rfl, lwG_t (k := 498) (by decide +kernel) rfl, rfl, by decide +kernel, by decide +kernel, by decide +kernel⟩
theorem yk_X8_wordOf : zYS yX8_wordOf cX8_wordOf 1 (Option.some (.object "java/lang/String")) 1 := ⟨lwG_t (k := 500) (by decide +kernel) rfl, lwG_t (k := 2) (by decide +kernel) rfl, lwG_t (k := 501) (by decide +kernel) rfl, by decide +kernel, by decide +kernel, by decide +kernel⟩
theorem yk_X8_tokenIs : zYV RX8 yX8_tokenIs cX8_tokenIs 3 (Option.some .boolean) 1 := ⟨lwG_t (k := 509) (by decide +kernel) rfl, lwG_s (k := 10) (q := (yX8_tokenIs, 7)) (by decide +kernel), lwG_t (k := 2) (by decide +kernel) rfl, lwG_t (k := 510) (by decide +kernel) rfl, rfl, by decide +kernel, by decide +kernel, by decide +kernel⟩
theorem yk_J0_length_8abf5 : zYV RJ0 yJ0_length_8abf5 cJ0_length_8abf5 1 (Option.some .int) 0 := ⟨lwG_t (k := 512) (by decide +kernel) rfl, lwG_t (k := 513) (by decide +kernel) rfl, lwG_t (k := 13) (by decide +kernel) rfl, lwG_t (k := 514) (by decide +kernel) rfl, rfl, by decide +kernel, by decide +kernel, by decide +kernel⟩
theorem yk_J0_coder_7d493 : zYV RJ0 yJ0_coder_7d493 cJ0_coder_7d493 1 (Option.some .byte) 0 := ⟨lwG_t (k := 516) (by decide +kernel) rfl, lwG_t (k := 517) (by decide +kernel) rfl, lwG_t (k := 13) (by decide +kernel) rfl, lwG_t (k := 518) (by decide +kernel) rfl, rfl, by decide +kernel, by decide +kernel, by decide +kernel⟩
theorem yk_J0_charAt_5068e : zYV RJ0 yJ0_charAt_5068e cJ0_charAt_5068e 2 (Option.some .char) 1 := ⟨lwG_t (k := 522) (by decide +kernel) rfl, lwG_t (k := 523) (by decide +kernel) rfl, lwG_t (k := 13) (by decide +kernel) rfl, lwG_t (k := 524) (by decide +kernel) rfl, rfl, by decide +kernel, by decide +kernel, by decide +kernel⟩
theorem yk_J0_isLatin1_aae02 : zYV RJ0 yJ0_isLatin1_aae02 cJ0_isLatin1_aae02 1 (Option.some .boolean) 0 := ⟨lwG_t (k := 526) (by decide +kernel) rfl, lwG_t (k := 527) (by decide +kernel) rfl, lwG_t (k := 13) (by decide +kernel) rfl, lwG_t (k := 528) (by decide +kernel) rfl, rfl, by decide +kernel, by decide +kernel, by decide +kernel⟩
theorem yk_J1_charAt_3b067 : zYS yJ1_charAt_3b067 cJ1_charAt_3b067 2 (Option.some .char) 2 := ⟨lwG_t (k := 530) (by decide +kernel) rfl, lwG_t (k := 14) (by decide +kernel) rfl, lwG_t (k := 531) (by decide +kernel) rfl, by decide +kernel, by decide +kernel, by decide +kernel⟩
theorem yk_J0_checkIndex_df160 : zYS yJ0_checkIndex_df160 cJ0_checkIndex_df160 2 none 2 := ⟨lwG_t (k := 533) (by decide +kernel) rfl, lwG_t (k := 13) (by decide +kernel) rfl, lwG_t (k := 534) (by decide +kernel) rfl, by decide +kernel, by decide +kernel, by decide +kernel⟩
theorem yk_J3_checkIndex_8e157 : zYS yJ3_checkIndex_8e157 cJ3_checkIndex_8e157 3 (Option.some .int) 3 := ⟨lwG_t (k := 538) (by decide +kernel) rfl, lwG_t (k := 15) (by decide +kernel) rfl, lwG_t (k := 539) (by decide +kernel) rfl, by decide +kernel, by decide +kernel, by decide +kernel⟩
theorem yk_J2_charAt_3b067 : zYS yJ2_charAt_3b067 cJ2_charAt_3b067 2 (Option.some .char) 2 := ⟨lwG_t (k := 541) (by decide +kernel) rfl, lwG_t (k := 16) (by decide +kernel) rfl, lwG_t (k := 542) (by decide +kernel) rfl, by decide +kernel, by decide +kernel, by decide +kernel⟩
theorem yk_J2_checkIndex_2214a : zYS yJ2_checkIndex_2214a cJ2_checkIndex_2214a 2 none 2 := ⟨lwG_t (k := 544) (by decide +kernel) rfl, lwG_t (k := 16) (by decide +kernel) rfl, lwG_t (k := 545) (by decide +kernel) rfl, by decide +kernel, by decide +kernel, by decide +kernel⟩
theorem yk_J2_length_9d52b : zYS yJ2_length_9d52b cJ2_length_9d52b 1 (Option.some .int) 1 := ⟨lwG_t (k := 547) (by decide +kernel) rfl, lwG_t (k := 16) (by decide +kernel) rfl, lwG_t (k := 548) (by decide +kernel) rfl, by decide +kernel, by decide +kernel, by decide +kernel⟩
theorem yk_J2_getChar_3b067 : zYS yJ2_getChar_3b067 cJ2_getChar_3b067 2 (Option.some .char) 2 := ⟨lwG_t (k := 551) (by decide +kernel) rfl, lwG_t (k := 16) (by decide +kernel) rfl, lwG_t (k := 552) (by decide +kernel) rfl, by decide +kernel, by decide +kernel, by decide +kernel⟩
theorem yk_X8_refuse : zYV RX8 yX8_refuse cX8_refuse 2 (Option.some .boolean) 1 := ⟨lwG_t (k := 561) (by decide +kernel) rfl, lwG_s (k := 11) (q := (yX8_refuse, 7)) (by decide +kernel), lwG_t (k := 2) (by decide +kernel) rfl, lwG_t (k := 562) (by decide +kernel) rfl, rfl, by decide +kernel, by decide +kernel, by decide +kernel⟩
theorem yk_X8_readNumbers : zYV RX8 yX8_readNumbers cX8_readNumbers 5 (Option.some .boolean) 2 := ⟨lwG_t (k := 566) (by decide +kernel) rfl, lwG_s (k := 12) (q := (yX8_readNumbers, 7)) (by decide +kernel), lwG_t (k := 2) (by decide +kernel) rfl, lwG_t (k := 567) (by decide +kernel) rfl, rfl, by decide +kernel, by decide +kernel, by decide +kernel⟩
theorem yk_X8_numberOfToken : zYV RX8 yX8_numberOfToken cX8_numberOfToken 3 (Option.some .int) 0 := ⟨lwG_t (k := 572) (by decide +kernel) rfl, lwG_s (k := 13) (q := (yX8_numberOfToken, 7)) (by decide +kernel), lwG_t (k := 2) (by decide +kernel) rfl, lwG_t (k := 573) (by decide +kernel) rfl, rfl, by decide +kernel, by decide +kernel, by decide +kernel⟩
theorem yk_X8_carryOut : zYV RX8 yX8_carryOut cX8_carryOut 3 none 2 := ⟨lwG_t (k := 579) (by decide +kernel) rfl, lwG_s (k := 14) (q := (yX8_carryOut, 7)) (by decide +kernel), lwG_t (k := 2) (by decide +kernel) rfl, lwG_t (k := 580) (by decide +kernel) rfl, rfl, by decide +kernel, by decide +kernel, by decide +kernel⟩
theorem yk_X9_fault : zYV RX9 yX9_fault cX9_fault 1 (Option.some .int) 0 := ⟨lwG_t (k := 587) (by decide +kernel) rfl, lwG_t (k := 588) (by decide +kernel) rfl, lwG_t (k := 1) (by decide +kernel) rfl, lwG_t (k := 589) (by decide +kernel) rfl, rfl, by decide +kernel, by decide +kernel, by decide +kernel⟩
theorem yk_X9_count : zYV RX9 yX9_count cX9_count 2 (Option.some .int) 1 := ⟨lwG_t (k := 591) (by decide +kernel) rfl, lwG_t (k := 592) (by decide +kernel) rfl, lwG_t (k := 1) (by decide +kernel) rfl, lwG_t (k := 593) (by decide +kernel) rfl, rfl, by decide +kernel, by decide +kernel, by decide +kernel⟩
theorem yk_X9_date : zYV RX9 yX9_date cX9_date 3 (Option.some .int) 2 := ⟨lwG_t (k := 595) (by decide +kernel) rfl, lwG_t (k := 596) (by decide +kernel) rfl, lwG_t (k := 1) (by decide +kernel) rfl, lwG_t (k := 597) (by decide +kernel) rfl, rfl, by decide +kernel, by decide +kernel, by decide +kernel⟩
theorem yk_X6_paidAt : zYV RX6 yX6_paidAt cX6_paidAt 2 (Option.some .int) 1 := ⟨lwG_t (k := 599) (by decide +kernel) rfl, lwG_t (k := 600) (by decide +kernel) rfl, lwG_t (k := 10) (by decide +kernel) rfl, lwG_t (k := 601) (by decide +kernel) rfl, rfl, by decide +kernel, by decide +kernel, by decide +kernel⟩
theorem yk_X6_rateAt : zYV RX6 yX6_rateAt cX6_rateAt 2 (Option.some .int) 1 := ⟨lwG_t (k := 603) (by decide +kernel) rfl, lwG_t (k := 604) (by decide +kernel) rfl, lwG_t (k := 10) (by decide +kernel) rfl, lwG_t (k := 605) (by decide +kernel) rfl, rfl, by decide +kernel, by decide +kernel, by decide +kernel⟩
theorem yk_X9_cost : zYV RX9 yX9_cost cX9_cost 2 (Option.some .long) 1 := ⟨lwG_t (k := 607) (by decide +kernel) rfl, lwG_t (k := 608) (by decide +kernel) rfl, lwG_t (k := 1) (by decide +kernel) rfl, lwG_t (k := 609) (by decide +kernel) rfl, rfl, by decide +kernel, by decide +kernel, by decide +kernel⟩
theorem yk_X9_findBest : zYV RX9 yX9_findBest cX9_findBest 1 none 0 := ⟨lwG_t (k := 612) (by decide +kernel) rfl, lwG_s (k := 15) (q := (yX9_findBest, 10)) (by decide +kernel), lwG_t (k := 1) (by decide +kernel) rfl, lwG_t (k := 613) (by decide +kernel) rfl, rfl, by decide +kernel, by decide +kernel, by decide +kernel⟩
theorem yk_X1_findFor : zYV RX1 yX1_findFor cX1_findFor 3 none 1 := ⟨lwG_t (k := 615) (by decide +kernel) rfl, lwG_t (k := 616) (by decide +kernel) rfl, lwG_t (k := 3) (by decide +kernel) rfl, lwG_t (k := 617) (by decide +kernel) rfl, rfl, by decide +kernel, by decide +kernel, by decide +kernel⟩
theorem yk_X3_read : zYV RX3 yX3_read cX3_read 3 none 1 := ⟨lwG_t (k := 619) (by decide +kernel) rfl, lwG_t (k := 620) (by decide +kernel) rfl, lwG_t (k := 6) (by decide +kernel) rfl, lwG_t (k := 621) (by decide +kernel) rfl, rfl, by decide +kernel, by decide +kernel, by decide +kernel⟩
theorem yk_X3_readDate : zYV RX3 yX3_readDate cX3_readDate 4 none 2 := ⟨lwG_t (k := 625) (by decide +kernel) rfl, lwG_s (k := 16) (q := (yX3_readDate, 6)) (by decide +kernel), lwG_t (k := 6) (by decide +kernel) rfl, lwG_t (k := 626) (by decide +kernel) rfl, rfl, by decide +kernel, by decide +kernel, by decide +kernel⟩
theorem yk_X6_yieldAt : zYV RX6 yX6_yieldAt cX6_yieldAt 5 (Option.some .int) 2 := ⟨lwG_t (k := 628) (by decide +kernel) rfl, lwG_t (k := 629) (by decide +kernel) rfl, lwG_t (k := 10) (by decide +kernel) rfl, lwG_t (k := 630) (by decide +kernel) rfl, rfl, by decide +kernel, by decide +kernel, by decide +kernel⟩
theorem yk_X6_growth : zYV RX6 yX6_growth cX6_growth 2 (Option.some .int) 1 := ⟨lwG_t (k := 634) (by decide +kernel) rfl, lwG_t (k := 635) (by decide +kernel) rfl, lwG_t (k := 10) (by decide +kernel) rfl, lwG_t (k := 636) (by decide +kernel) rfl, rfl, by decide +kernel, by decide +kernel, by decide +kernel⟩
theorem yk_J6_bitCount_0f7a4 : zYS yJ6_bitCount_0f7a4 cJ6_bitCount_0f7a4 1 (Option.some .int) 1 := ⟨lwG_t (k := 641) (by decide +kernel) rfl, lwG_t (k := 21) (by decide +kernel) rfl, lwG_t (k := 642) (by decide +kernel) rfl, by decide +kernel, by decide +kernel, by decide +kernel⟩
theorem yk_X0_invert : zYV RX0 yX0_invert cX0_invert 6 (Option.some .boolean) 2 := ⟨lwG_t (k := 647) (by decide +kernel) rfl, lwG_t (k := 648) (by decide +kernel) rfl, lwG_t (k := 7) (by decide +kernel) rfl, lwG_t (k := 649) (by decide +kernel) rfl, rfl, by decide +kernel, by decide +kernel, by decide +kernel⟩
theorem yk_X0_choose : zYV RX0 yX0_choose cX0_choose 4 none 2 := ⟨lwG_t (k := 652) (by decide +kernel) rfl, lwG_s (k := 17) (q := (yX0_choose, 4)) (by decide +kernel), lwG_t (k := 7) (by decide +kernel) rfl, lwG_t (k := 653) (by decide +kernel) rfl, rfl, by decide +kernel, by decide +kernel, by decide +kernel⟩
theorem yk_X0_fill : zYV RX0 yX0_fill cX0_fill 4 none 1 := ⟨lwG_t (k := 656) (by decide +kernel) rfl, lwG_s (k := 18) (q := (yX0_fill, 4)) (by decide +kernel), lwG_t (k := 7) (by decide +kernel) rfl, lwG_t (k := 657) (by decide +kernel) rfl, rfl, by decide +kernel, by decide +kernel, by decide +kernel⟩
theorem yk_X0_bringPivot : zYV RX0 yX0_bringPivot cX0_bringPivot 3 (Option.some .boolean) 1 := ⟨lwG_t (k := 660) (by decide +kernel) rfl, lwG_s (k := 19) (q := (yX0_bringPivot, 4)) (by decide +kernel), lwG_t (k := 7) (by decide +kernel) rfl, lwG_t (k := 661) (by decide +kernel) rfl, rfl, by decide +kernel, by decide +kernel, by decide +kernel⟩
theorem yk_X0_swapRows : zYV RX0 yX0_swapRows cX0_swapRows 6 none 2 := ⟨lwG_t (k := 664) (by decide +kernel) rfl, lwG_s (k := 20) (q := (yX0_swapRows, 4)) (by decide +kernel), lwG_t (k := 7) (by decide +kernel) rfl, lwG_t (k := 665) (by decide +kernel) rfl, rfl, by decide +kernel, by decide +kernel, by decide +kernel⟩
theorem yk_X0_clearColumn : zYV RX0 yX0_clearColumn cX0_clearColumn 10 none 2 := ⟨lwG_t (k := 668) (by decide +kernel) rfl, lwG_s (k := 21) (q := (yX0_clearColumn, 4)) (by decide +kernel), lwG_t (k := 7) (by decide +kernel) rfl, lwG_t (k := 669) (by decide +kernel) rfl, rfl, by decide +kernel, by decide +kernel, by decide +kernel⟩
theorem yk_X0_turnSigns : zYV RX0 yX0_turnSigns cX0_turnSigns 3 none 0 := ⟨lwG_t (k := 672) (by decide +kernel) rfl, lwG_s (k := 22) (q := (yX0_turnSigns, 4)) (by decide +kernel), lwG_t (k := 7) (by decide +kernel) rfl, lwG_t (k := 673) (by decide +kernel) rfl, rfl, by decide +kernel, by decide +kernel, by decide +kernel⟩
theorem yk_X1_tryCover : zYV RX1 yX1_tryCover cX1_tryCover 2 none 0 := ⟨lwG_t (k := 676) (by decide +kernel) rfl, lwG_s (k := 23) (q := (yX1_tryCover, 8)) (by decide +kernel), lwG_t (k := 3) (by decide +kernel) rfl, lwG_t (k := 677) (by decide +kernel) rfl, rfl, by decide +kernel, by decide +kernel, by decide +kernel⟩
theorem yk_X2_readOff : zYV RX2 yX2_readOff cX2_readOff 7 (Option.some .boolean) 2 := ⟨lwG_t (k := 679) (by decide +kernel) rfl, lwG_t (k := 680) (by decide +kernel) rfl, lwG_t (k := 4) (by decide +kernel) rfl, lwG_t (k := 681) (by decide +kernel) rfl, rfl, by decide +kernel, by decide +kernel, by decide +kernel⟩
theorem yk_X0_inverse : zYV RX0 yX0_inverse cX0_inverse 3 (Option.some .long) 2 := ⟨lwG_t (k := 683) (by decide +kernel) rfl, lwG_t (k := 684) (by decide +kernel) rfl, lwG_t (k := 7) (by decide +kernel) rfl, lwG_t (k := 685) (by decide +kernel) rfl, rfl, by decide +kernel, by decide +kernel, by decide +kernel⟩
theorem yk_X1_tryWithout : zYV RX1 yX1_tryWithout cX1_tryWithout 2 none 0 := ⟨lwG_t (k := 688) (by decide +kernel) rfl, lwG_s (k := 24) (q := (yX1_tryWithout, 8)) (by decide +kernel), lwG_t (k := 3) (by decide +kernel) rfl, lwG_t (k := 689) (by decide +kernel) rfl, rfl, by decide +kernel, by decide +kernel, by decide +kernel⟩
theorem yk_X2_isBetterThan : zYV RX2 yX2_isBetterThan cX2_isBetterThan 5 (Option.some .boolean) 2 := ⟨lwG_t (k := 691) (by decide +kernel) rfl, lwG_t (k := 692) (by decide +kernel) rfl, lwG_t (k := 4) (by decide +kernel) rfl, lwG_t (k := 693) (by decide +kernel) rfl, rfl, by decide +kernel, by decide +kernel, by decide +kernel⟩
theorem yk_J13_compare_74951 : zYS yJ13_compare_74951 cJ13_compare_74951 4 (Option.some .int) 2 := ⟨lwG_t (k := 695) (by decide +kernel) rfl, lwG_t (k := 22) (by decide +kernel) rfl, lwG_t (k := 696) (by decide +kernel) rfl, by decide +kernel, by decide +kernel, by decide +kernel⟩
theorem yk_X1_tryProof : zYV RX1 yX1_tryProof cX1_tryProof 2 none 0 := ⟨lwG_t (k := 699) (by decide +kernel) rfl, lwG_s (k := 25) (q := (yX1_tryProof, 8)) (by decide +kernel), lwG_t (k := 3) (by decide +kernel) rfl, lwG_t (k := 700) (by decide +kernel) rfl, rfl, by decide +kernel, by decide +kernel, by decide +kernel⟩
theorem yk_X7_readOff : zYV RX7 yX7_readOff cX7_readOff 5 (Option.some .boolean) 2 := ⟨lwG_t (k := 702) (by decide +kernel) rfl, lwG_t (k := 703) (by decide +kernel) rfl, lwG_t (k := 5) (by decide +kernel) rfl, lwG_t (k := 704) (by decide +kernel) rfl, rfl, by decide +kernel, by decide +kernel, by decide +kernel⟩
theorem yk_X7_excess : zYV RX7 yX7_excess cX7_excess 6 (Option.some .long) 2 := ⟨lwG_t (k := 707) (by decide +kernel) rfl, lwG_t (k := 708) (by decide +kernel) rfl, lwG_t (k := 5) (by decide +kernel) rfl, lwG_t (k := 709) (by decide +kernel) rfl, rfl, by decide +kernel, by decide +kernel, by decide +kernel⟩
theorem yk_X7_isBetterThan : zYV RX7 yX7_isBetterThan cX7_isBetterThan 5 (Option.some .boolean) 2 := ⟨lwG_t (k := 711) (by decide +kernel) rfl, lwG_t (k := 712) (by decide +kernel) rfl, lwG_t (k := 5) (by decide +kernel) rfl, lwG_t (k := 713) (by decide +kernel) rfl, rfl, by decide +kernel, by decide +kernel, by decide +kernel⟩
theorem yk_X9_inLeastTerms : zYS yX9_inLeastTerms cX9_inLeastTerms 7 (Option.some .long) 3 := ⟨lwG_t (k := 716) (by decide +kernel) rfl, lwG_t (k := 1) (by decide +kernel) rfl, lwG_t (k := 717) (by decide +kernel) rfl, by decide +kernel, by decide +kernel, by decide +kernel⟩
theorem yk_X9_commonDivisor : zYS yX9_commonDivisor cX9_commonDivisor 11 (Option.some .long) 2 := ⟨lwG_t (k := 719) (by decide +kernel) rfl, lwG_t (k := 1) (by decide +kernel) rfl, lwG_t (k := 720) (by decide +kernel) rfl, by decide +kernel, by decide +kernel, by decide +kernel⟩
theorem yk_X9_part : zYV RX9 yX9_part cX9_part 3 (Option.some .long) 2 := ⟨lwG_t (k := 722) (by decide +kernel) rfl, lwG_t (k := 723) (by decide +kernel) rfl, lwG_t (k := 1) (by decide +kernel) rfl, lwG_t (k := 724) (by decide +kernel) rfl, rfl, by decide +kernel, by decide +kernel, by decide +kernel⟩
theorem yk_X9_surplus : zYV RX9 yX9_surplus cX9_surplus 3 (Option.some .long) 2 := ⟨lwG_t (k := 727) (by decide +kernel) rfl, lwG_t (k := 728) (by decide +kernel) rfl, lwG_t (k := 1) (by decide +kernel) rfl, lwG_t (k := 729) (by decide +kernel) rfl, rfl, by decide +kernel, by decide +kernel, by decide +kernel⟩
theorem yk_X9_multiplier : zYV RX9 yX9_multiplier cX9_multiplier 3 (Option.some .long) 2 := ⟨lwG_t (k := 732) (by decide +kernel) rfl, lwG_t (k := 733) (by decide +kernel) rfl, lwG_t (k := 1) (by decide +kernel) rfl, lwG_t (k := 734) (by decide +kernel) rfl, rfl, by decide +kernel, by decide +kernel, by decide +kernel⟩
theorem yk_X9_dear : zYV RX9 yX9_dear cX9_dear 3 (Option.some .long) 2 := ⟨lwG_t (k := 736) (by decide +kernel) rfl, lwG_t (k := 737) (by decide +kernel) rfl, lwG_t (k := 1) (by decide +kernel) rfl, lwG_t (k := 738) (by decide +kernel) rfl, rfl, by decide +kernel, by decide +kernel, by decide +kernel⟩
theorem yk_X1_excessOf : zYV RX1 yX1_excessOf cX1_excessOf 2 (Option.some .long) 1 := ⟨lwG_t (k := 740) (by decide +kernel) rfl, lwG_t (k := 741) (by decide +kernel) rfl, lwG_t (k := 3) (by decide +kernel) rfl, lwG_t (k := 742) (by decide +kernel) rfl, rfl, by decide +kernel, by decide +kernel, by decide +kernel⟩
theorem yk_X9_without : zYV RX9 yX9_without cX9_without 3 (Option.some .long) 2 := ⟨lwG_t (k := 745) (by decide +kernel) rfl, lwG_t (k := 746) (by decide +kernel) rfl, lwG_t (k := 1) (by decide +kernel) rfl, lwG_t (k := 747) (by decide +kernel) rfl, rfl, by decide +kernel, by decide +kernel, by decide +kernel⟩
theorem yk_X9_lots : zYV RX9 yX9_lots cX9_lots 2 (Option.some .int) 1 := ⟨lwG_t (k := 749) (by decide +kernel) rfl, lwG_t (k := 750) (by decide +kernel) rfl, lwG_t (k := 1) (by decide +kernel) rfl, lwG_t (k := 751) (by decide +kernel) rfl, rfl, by decide +kernel, by decide +kernel, by decide +kernel⟩
theorem yk_X9_findLots : zYV RX9 yX9_findLots cX9_findLots 1 none 0 := ⟨lwG_t (k := 754) (by decide +kernel) rfl, lwG_s (k := 26) (q := (yX9_findLots, 10)) (by decide +kernel), lwG_t (k := 1) (by decide +kernel) rfl, lwG_t (k := 755) (by decide +kernel) rfl, rfl, by decide +kernel, by decide +kernel, by decide +kernel⟩
theorem yk_X5_findFor : zYV RX5 yX5_findFor cX5_findFor 6 none 1 := ⟨lwG_t (k := 757) (by decide +kernel) rfl, lwG_t (k := 758) (by decide +kernel) rfl, lwG_t (k := 8) (by decide +kernel) rfl, lwG_t (k := 759) (by decide +kernel) rfl, rfl, by decide +kernel, by decide +kernel, by decide +kernel⟩
theorem yk_X5_read : zYV RX5 yX5_read cX5_read 4 none 1 := ⟨lwG_t (k := 762) (by decide +kernel) rfl, lwG_s (k := 27) (q := (yX5_read, 13)) (by decide +kernel), lwG_t (k := 8) (by decide +kernel) rfl, lwG_t (k := 763) (by decide +kernel) rfl, rfl, by decide +kernel, by decide +kernel, by decide +kernel⟩
theorem yk_X5_readDates : zYV RX5 yX5_readDates cX5_readDates 9 none 1 := ⟨lwG_t (k := 767) (by decide +kernel) rfl, lwG_s (k := 28) (q := (yX5_readDates, 13)) (by decide +kernel), lwG_t (k := 8) (by decide +kernel) rfl, lwG_t (k := 768) (by decide +kernel) rfl, rfl, by decide +kernel, by decide +kernel, by decide +kernel⟩
theorem yk_J9_max_f86c9 : zYS yJ9_max_f86c9 cJ9_max_f86c9 4 (Option.some .long) 2 := ⟨lwG_t (k := 774) (by decide +kernel) rfl, lwG_t (k := 23) (by decide +kernel) rfl, lwG_t (k := 775) (by decide +kernel) rfl, by decide +kernel, by decide +kernel, by decide +kernel⟩
theorem yk_X5_search : zYV RX5 yX5_search cX5_search 7 none 1 := ⟨lwG_t (k := 779) (by decide +kernel) rfl, lwG_s (k := 29) (q := (yX5_search, 13)) (by decide +kernel), lwG_t (k := 8) (by decide +kernel) rfl, lwG_t (k := 780) (by decide +kernel) rfl, rfl, by decide +kernel, by decide +kernel, by decide +kernel⟩
theorem yk_X5_keep : zYV RX5 yX5_keep cX5_keep 2 none 0 := ⟨lwG_t (k := 783) (by decide +kernel) rfl, lwG_s (k := 30) (q := (yX5_keep, 13)) (by decide +kernel), lwG_t (k := 8) (by decide +kernel) rfl, lwG_t (k := 784) (by decide +kernel) rfl, rfl, by decide +kernel, by decide +kernel, by decide +kernel⟩
theorem yk_X5_leastCost : zYV RX5 yX5_leastCost cX5_leastCost 5 (Option.some .long) 1 := ⟨lwG_t (k := 787) (by decide +kernel) rfl, lwG_s (k := 31) (q := (yX5_leastCost, 13)) (by decide +kernel), lwG_t (k := 8) (by decide +kernel) rfl, lwG_t (k := 788) (by decide +kernel) rfl, rfl, by decide +kernel, by decide +kernel, by decide +kernel⟩
theorem yk_X5_choose : zYV RX5 yX5_choose cX5_choose 4 none 2 := ⟨lwG_t (k := 791) (by decide +kernel) rfl, lwG_s (k := 32) (q := (yX5_choose, 13)) (by decide +kernel), lwG_t (k := 8) (by decide +kernel) rfl, lwG_t (k := 792) (by decide +kernel) rfl, rfl, by decide +kernel, by decide +kernel, by decide +kernel⟩
theorem yk_X9_lotsCost : zYV RX9 yX9_lotsCost cX9_lotsCost 3 (Option.some .long) 2 := ⟨lwG_t (k := 794) (by decide +kernel) rfl, lwG_t (k := 795) (by decide +kernel) rfl, lwG_t (k := 1) (by decide +kernel) rfl, lwG_t (k := 796) (by decide +kernel) rfl, rfl, by decide +kernel, by decide +kernel, by decide +kernel⟩
theorem yk_X9_hold : zYV RX9 yX9_hold cX9_hold 3 (Option.some .boolean) 2 := ⟨lwG_t (k := 798) (by decide +kernel) rfl, lwG_t (k := 799) (by decide +kernel) rfl, lwG_t (k := 1) (by decide +kernel) rfl, lwG_t (k := 800) (by decide +kernel) rfl, rfl, by decide +kernel, by decide +kernel, by decide +kernel⟩
theorem yk_X9_cash : zYV RX9 yX9_cash cX9_cash 2 (Option.some .boolean) 1 := ⟨lwG_t (k := 802) (by decide +kernel) rfl, lwG_t (k := 803) (by decide +kernel) rfl, lwG_t (k := 1) (by decide +kernel) rfl, lwG_t (k := 804) (by decide +kernel) rfl, rfl, by decide +kernel, by decide +kernel, by decide +kernel⟩
theorem yk_X9_take : zYV RX9 yX9_take cX9_take 2 (Option.some .int) 0 := ⟨lwG_t (k := 806) (by decide +kernel) rfl, lwG_t (k := 807) (by decide +kernel) rfl, lwG_t (k := 1) (by decide +kernel) rfl, lwG_t (k := 808) (by decide +kernel) rfl, rfl, by decide +kernel, by decide +kernel, by decide +kernel⟩
theorem yk_X5_atFirstRoundedUp : zYV RX5 yX5_atFirstRoundedUp cX5_atFirstRoundedUp 1 (Option.some .int) 0 := ⟨lwG_t (k := 810) (by decide +kernel) rfl, lwG_t (k := 811) (by decide +kernel) rfl, lwG_t (k := 8) (by decide +kernel) rfl, lwG_t (k := 812) (by decide +kernel) rfl, rfl, by decide +kernel, by decide +kernel, by decide +kernel⟩
theorem yk_X9_fails : zYV RX9 yX9_fails cX9_fails 1 (Option.some .int) 0 := ⟨lwG_t (k := 814) (by decide +kernel) rfl, lwG_t (k := 815) (by decide +kernel) rfl, lwG_t (k := 1) (by decide +kernel) rfl, lwG_t (k := 816) (by decide +kernel) rfl, rfl, by decide +kernel, by decide +kernel, by decide +kernel⟩
theorem yk_X4_follow : zYV RX4 yX4_follow cX4_follow 4 none 2 := ⟨lwG_t (k := 818) (by decide +kernel) rfl, lwG_t (k := 819) (by decide +kernel) rfl, lwG_t (k := 9) (by decide +kernel) rfl, lwG_t (k := 820) (by decide +kernel) rfl, rfl, by decide +kernel, by decide +kernel, by decide +kernel⟩
theorem yk_X4_netAt : zYS yX4_netAt cX4_netAt 5 (Option.some .long) 2 := ⟨lwG_t (k := 824) (by decide +kernel) rfl, lwG_t (k := 9) (by decide +kernel) rfl, lwG_t (k := 825) (by decide +kernel) rfl, by decide +kernel, by decide +kernel, by decide +kernel⟩
theorem yk_X9_balance : zYV RX9 yX9_balance cX9_balance 3 (Option.some .long) 2 := ⟨lwG_t (k := 830) (by decide +kernel) rfl, lwG_t (k := 831) (by decide +kernel) rfl, lwG_t (k := 1) (by decide +kernel) rfl, lwG_t (k := 832) (by decide +kernel) rfl, rfl, by decide +kernel, by decide +kernel, by decide +kernel⟩
theorem yk_X9_need : zYV RX9 yX9_need cX9_need 2 (Option.some .long) 1 := ⟨lwG_t (k := 834) (by decide +kernel) rfl, lwG_t (k := 835) (by decide +kernel) rfl, lwG_t (k := 1) (by decide +kernel) rfl, lwG_t (k := 836) (by decide +kernel) rfl, rfl, by decide +kernel, by decide +kernel, by decide +kernel⟩
theorem yk_X4_findLack : zYV RX4 yX4_findLack cX4_findLack 6 none 2 := ⟨lwG_t (k := 838) (by decide +kernel) rfl, lwG_t (k := 839) (by decide +kernel) rfl, lwG_t (k := 9) (by decide +kernel) rfl, lwG_t (k := 840) (by decide +kernel) rfl, rfl, by decide +kernel, by decide +kernel, by decide +kernel⟩
theorem yk_X9_lack : zYV RX9 yX9_lack cX9_lack 3 (Option.some .long) 2 := ⟨lwG_t (k := 842) (by decide +kernel) rfl, lwG_t (k := 843) (by decide +kernel) rfl, lwG_t (k := 1) (by decide +kernel) rfl, lwG_t (k := 844) (by decide +kernel) rfl, rfl, by decide +kernel, by decide +kernel, by decide +kernel⟩
theorem yk_X9_told : zYV RX9 yX9_told cX9_told 3 (Option.some .int) 2 := ⟨lwG_t (k := 850) (by decide +kernel) rfl, lwG_t (k := 851) (by decide +kernel) rfl, lwG_t (k := 1) (by decide +kernel) rfl, lwG_t (k := 852) (by decide +kernel) rfl, rfl, by decide +kernel, by decide +kernel, by decide +kernel⟩
theorem yk_X10_init : zYI yX10_init cX10_init 1 0 := ⟨lwG_t (k := 923) (by decide +kernel) rfl, lwG_t (k := 11) (by decide +kernel) rfl, lwG_t (k := 924) (by decide +kernel) rfl, rfl, by decide +kernel, by decide +kernel, by decide +kernel⟩
theorem yk_X10_thrown : zYV RX10 yX10_thrown cX10_thrown 1 (Option.some .int) 0 := ⟨lwG_t (k := 1042) (by decide +kernel) rfl, lwG_t (k := 1043) (by decide +kernel) rfl, lwG_t (k := 11) (by decide +kernel) rfl, lwG_t (k := 1044) (by decide +kernel) rfl, rfl, by decide +kernel, by decide +kernel, by decide +kernel⟩
theorem yk_X10_dates : zYV RX10 yX10_dates cX10_dates 2 (Option.some .boolean) 1 := ⟨lwG_t (k := 1046) (by decide +kernel) rfl, lwG_t (k := 1047) (by decide +kernel) rfl, lwG_t (k := 11) (by decide +kernel) rfl, lwG_t (k := 1048) (by decide +kernel) rfl, rfl, by decide +kernel, by decide +kernel, by decide +kernel⟩
theorem yk_X10_in : zYS yX10_in cX10_in 3 (Option.some .boolean) 3 := ⟨lwG_t (k := 1050) (by decide +kernel) rfl, lwG_t (k := 11) (by decide +kernel) rfl, lwG_t (k := 1051) (by decide +kernel) rfl, by decide +kernel, by decide +kernel, by decide +kernel⟩
theorem yk_X10_laysDates : zYV RX10 yX10_laysDates cX10_laysDates 3 none 1 := ⟨lwG_t (k := 1054) (by decide +kernel) rfl, lwG_s (k := 34) (q := (yX10_laysDates, 38)) (by decide +kernel), lwG_t (k := 11) (by decide +kernel) rfl, lwG_t (k := 1055) (by decide +kernel) rfl, rfl, by decide +kernel, by decide +kernel, by decide +kernel⟩
theorem yk_X10_takes : zYV RX10 yX10_takes cX10_takes 3 (Option.some .boolean) 1 := ⟨lwG_t (k := 1058) (by decide +kernel) rfl, lwG_s (k := 35) (q := (yX10_takes, 38)) (by decide +kernel), lwG_t (k := 11) (by decide +kernel) rfl, lwG_t (k := 1059) (by decide +kernel) rfl, rfl, by decide +kernel, by decide +kernel, by decide +kernel⟩
theorem yk_X10_pay : zYV RX10 yX10_pay cX10_pay 3 (Option.some .boolean) 2 := ⟨lwG_t (k := 1061) (by decide +kernel) rfl, lwG_t (k := 1062) (by decide +kernel) rfl, lwG_t (k := 11) (by decide +kernel) rfl, lwG_t (k := 1063) (by decide +kernel) rfl, rfl, by decide +kernel, by decide +kernel, by decide +kernel⟩
theorem yk_X10_drafts : zYV RX10 yX10_drafts cX10_drafts 2 none 0 := ⟨lwG_t (k := 1066) (by decide +kernel) rfl, lwG_s (k := 36) (q := (yX10_drafts, 38)) (by decide +kernel), lwG_t (k := 11) (by decide +kernel) rfl, lwG_t (k := 1067) (by decide +kernel) rfl, rfl, by decide +kernel, by decide +kernel, by decide +kernel⟩
theorem yk_X10_isDate : zYV RX10 yX10_isDate cX10_isDate 2 (Option.some .boolean) 1 := ⟨lwG_t (k := 1070) (by decide +kernel) rfl, lwG_s (k := 37) (q := (yX10_isDate, 38)) (by decide +kernel), lwG_t (k := 11) (by decide +kernel) rfl, lwG_t (k := 1071) (by decide +kernel) rfl, rfl, by decide +kernel, by decide +kernel, by decide +kernel⟩
theorem yk_X10_lays : zYV RX10 yX10_lays cX10_lays 4 (Option.some .boolean) 3 := ⟨lwG_t (k := 1074) (by decide +kernel) rfl, lwG_s (k := 38) (q := (yX10_lays, 38)) (by decide +kernel), lwG_t (k := 11) (by decide +kernel) rfl, lwG_t (k := 1075) (by decide +kernel) rfl, rfl, by decide +kernel, by decide +kernel, by decide +kernel⟩
theorem yk_X10_rate : zYV RX10 yX10_rate cX10_rate 3 (Option.some .boolean) 2 := ⟨lwG_t (k := 1077) (by decide +kernel) rfl, lwG_t (k := 1078) (by decide +kernel) rfl, lwG_t (k := 11) (by decide +kernel) rfl, lwG_t (k := 1079) (by decide +kernel) rfl, rfl, by decide +kernel, by decide +kernel, by decide +kernel⟩
theorem yk_X10_bond : zYV RX10 yX10_bond cX10_bond 5 (Option.some .int) 4 := ⟨lwG_t (k := 1081) (by decide +kernel) rfl, lwG_t (k := 1082) (by decide +kernel) rfl, lwG_t (k := 11) (by decide +kernel) rfl, lwG_t (k := 1083) (by decide +kernel) rfl, rfl, by decide +kernel, by decide +kernel, by decide +kernel⟩
theorem yk_X10_laysBond : zYV RX10 yX10_laysBond cX10_laysBond 6 none 4 := ⟨lwG_t (k := 1086) (by decide +kernel) rfl, lwG_s (k := 39) (q := (yX10_laysBond, 38)) (by decide +kernel), lwG_t (k := 11) (by decide +kernel) rfl, lwG_t (k := 1087) (by decide +kernel) rfl, rfl, by decide +kernel, by decide +kernel, by decide +kernel⟩
theorem yk_X10_most : zYV RX10 yX10_most cX10_most 3 (Option.some .boolean) 2 := ⟨lwG_t (k := 1089) (by decide +kernel) rfl, lwG_t (k := 1090) (by decide +kernel) rfl, lwG_t (k := 11) (by decide +kernel) rfl, lwG_t (k := 1091) (by decide +kernel) rfl, rfl, by decide +kernel, by decide +kernel, by decide +kernel⟩
theorem yk_X10_isBond : zYV RX10 yX10_isBond cX10_isBond 2 (Option.some .boolean) 1 := ⟨lwG_t (k := 1094) (by decide +kernel) rfl, lwG_s (k := 40) (q := (yX10_isBond, 38)) (by decide +kernel), lwG_t (k := 11) (by decide +kernel) rfl, lwG_t (k := 1095) (by decide +kernel) rfl, rfl, by decide +kernel, by decide +kernel, by decide +kernel⟩
theorem yk_X10_call : zYV RX10 yX10_call cX10_call 3 (Option.some .boolean) 2 := ⟨lwG_t (k := 1097) (by decide +kernel) rfl, lwG_t (k := 1098) (by decide +kernel) rfl, lwG_t (k := 11) (by decide +kernel) rfl, lwG_t (k := 1099) (by decide +kernel) rfl, rfl, by decide +kernel, by decide +kernel, by decide +kernel⟩
theorem yk_X10_hold : zYV RX10 yX10_hold cX10_hold 3 (Option.some .boolean) 2 := ⟨lwG_t (k := 1101) (by decide +kernel) rfl, lwG_t (k := 1102) (by decide +kernel) rfl, lwG_t (k := 11) (by decide +kernel) rfl, lwG_t (k := 1103) (by decide +kernel) rfl, rfl, by decide +kernel, by decide +kernel, by decide +kernel⟩
theorem yk_X10_cash : zYV RX10 yX10_cash cX10_cash 2 (Option.some .boolean) 1 := ⟨lwG_t (k := 1105) (by decide +kernel) rfl, lwG_t (k := 1106) (by decide +kernel) rfl, lwG_t (k := 11) (by decide +kernel) rfl, lwG_t (k := 1107) (by decide +kernel) rfl, rfl, by decide +kernel, by decide +kernel, by decide +kernel⟩
theorem yk_X10_drop : zYV RX10 yX10_drop cX10_drop 4 (Option.some .int) 1 := ⟨lwG_t (k := 1109) (by decide +kernel) rfl, lwG_t (k := 1110) (by decide +kernel) rfl, lwG_t (k := 11) (by decide +kernel) rfl, lwG_t (k := 1111) (by decide +kernel) rfl, rfl, by decide +kernel, by decide +kernel, by decide +kernel⟩
theorem yk_X10_feed : zYV RX10 yX10_feed cX10_feed 6 (Option.some .int) 5 := ⟨lwG_t (k := 1113) (by decide +kernel) rfl, lwG_t (k := 1114) (by decide +kernel) rfl, lwG_t (k := 11) (by decide +kernel) rfl, lwG_t (k := 1115) (by decide +kernel) rfl, rfl, by decide +kernel, by decide +kernel, by decide +kernel⟩
theorem yk_X10_four : zYV RX10 yX10_four cX10_four 3 none 1 := ⟨lwG_t (k := 1118) (by decide +kernel) rfl, lwG_s (k := 41) (q := (yX10_four, 38)) (by decide +kernel), lwG_t (k := 11) (by decide +kernel) rfl, lwG_t (k := 1119) (by decide +kernel) rfl, rfl, by decide +kernel, by decide +kernel, by decide +kernel⟩
theorem yk_X10_end : zYV RX10 yX10_end cX10_end 2 (Option.some .boolean) 1 := ⟨lwG_t (k := 1121) (by decide +kernel) rfl, lwG_t (k := 1122) (by decide +kernel) rfl, lwG_t (k := 11) (by decide +kernel) rfl, lwG_t (k := 1123) (by decide +kernel) rfl, rfl, by decide +kernel, by decide +kernel, by decide +kernel⟩
theorem yk_X10_tell : zYV RX10 yX10_tell cX10_tell 2 (Option.some .int) 0 := ⟨lwG_t (k := 1125) (by decide +kernel) rfl, lwG_t (k := 1126) (by decide +kernel) rfl, lwG_t (k := 11) (by decide +kernel) rfl, lwG_t (k := 1127) (by decide +kernel) rfl, rfl, by decide +kernel, by decide +kernel, by decide +kernel⟩
theorem yk_X10_readText : zYV RX10 yX10_readText cX10_readText 1 (Option.some .boolean) 0 := ⟨lwG_t (k := 1130) (by decide +kernel) rfl, lwG_s (k := 42) (q := (yX10_readText, 38)) (by decide +kernel), lwG_t (k := 11) (by decide +kernel) rfl, lwG_t (k := 1131) (by decide +kernel) rfl, rfl, by decide +kernel, by decide +kernel, by decide +kernel⟩
theorem yk_X10_here : zYV RX10 yX10_here cX10_here 1 (Option.some .int) 0 := ⟨lwG_t (k := 1134) (by decide +kernel) rfl, lwG_s (k := 43) (q := (yX10_here, 38)) (by decide +kernel), lwG_t (k := 11) (by decide +kernel) rfl, lwG_t (k := 1135) (by decide +kernel) rfl, rfl, by decide +kernel, by decide +kernel, by decide +kernel⟩
theorem yk_X10_readStatement : zYV RX10 yX10_readStatement cX10_readStatement 3 (Option.some .boolean) 0 := ⟨lwG_t (k := 1138) (by decide +kernel) rfl, lwG_s (k := 44) (q := (yX10_readStatement, 38)) (by decide +kernel), lwG_t (k := 11) (by decide +kernel) rfl, lwG_t (k := 1139) (by decide +kernel) rfl, rfl, by decide +kernel, by decide +kernel, by decide +kernel⟩
theorem yk_X10_fails : zYV RX10 yX10_fails cX10_fails 3 (Option.some .boolean) 2 := ⟨lwG_t (k := 1142) (by decide +kernel) rfl, lwG_s (k := 45) (q := (yX10_fails, 38)) (by decide +kernel), lwG_t (k := 11) (by decide +kernel) rfl, lwG_t (k := 1143) (by decide +kernel) rfl, rfl, by decide +kernel, by decide +kernel, by decide +kernel⟩
theorem yk_X10_readWord : zYV RX10 yX10_readWord cX10_readWord 4 (Option.some .long) 0 := ⟨lwG_t (k := 1146) (by decide +kernel) rfl, lwG_s (k := 46) (q := (yX10_readWord, 38)) (by decide +kernel), lwG_t (k := 11) (by decide +kernel) rfl, lwG_t (k := 1147) (by decide +kernel) rfl, rfl, by decide +kernel, by decide +kernel, by decide +kernel⟩
theorem yk_X10_readNumber : zYV RX10 yX10_readNumber cX10_readNumber 4 (Option.some .boolean) 2 := ⟨lwG_t (k := 1154) (by decide +kernel) rfl, lwG_s (k := 47) (q := (yX10_readNumber, 38)) (by decide +kernel), lwG_t (k := 11) (by decide +kernel) rfl, lwG_t (k := 1155) (by decide +kernel) rfl, rfl, by decide +kernel, by decide +kernel, by decide +kernel⟩
theorem yk_X10_reads : zYV RX10 yX10_reads cX10_reads 5 (Option.some .boolean) 3 := ⟨lwG_t (k := 1159) (by decide +kernel) rfl, lwG_s (k := 48) (q := (yX10_reads, 38)) (by decide +kernel), lwG_t (k := 11) (by decide +kernel) rfl, lwG_t (k := 1160) (by decide +kernel) rfl, rfl, by decide +kernel, by decide +kernel, by decide +kernel⟩
theorem yk_X10_fault : zYV RX10 yX10_fault cX10_fault 1 (Option.some .int) 0 := ⟨lwG_t (k := 1165) (by decide +kernel) rfl, lwG_t (k := 1166) (by decide +kernel) rfl, lwG_t (k := 11) (by decide +kernel) rfl, lwG_t (k := 1167) (by decide +kernel) rfl, rfl, by decide +kernel, by decide +kernel, by decide +kernel⟩
theorem yk_X10_count : zYV RX10 yX10_count cX10_count 2 (Option.some .int) 1 := ⟨lwG_t (k := 1169) (by decide +kernel) rfl, lwG_t (k := 1170) (by decide +kernel) rfl, lwG_t (k := 11) (by decide +kernel) rfl, lwG_t (k := 1171) (by decide +kernel) rfl, rfl, by decide +kernel, by decide +kernel, by decide +kernel⟩
theorem yk_X10_date : zYV RX10 yX10_date cX10_date 3 (Option.some .int) 2 := ⟨lwG_t (k := 1173) (by decide +kernel) rfl, lwG_t (k := 1174) (by decide +kernel) rfl, lwG_t (k := 11) (by decide +kernel) rfl, lwG_t (k := 1175) (by decide +kernel) rfl, rfl, by decide +kernel, by decide +kernel, by decide +kernel⟩
theorem yk_X10_told : zYV RX10 yX10_told cX10_told 4 (Option.some .int) 2 := ⟨lwG_t (k := 1177) (by decide +kernel) rfl, lwG_t (k := 1178) (by decide +kernel) rfl, lwG_t (k := 11) (by decide +kernel) rfl, lwG_t (k := 1179) (by decide +kernel) rfl, rfl, by decide +kernel, by decide +kernel, by decide +kernel⟩
theorem yk_X10_yields : zYV RX10 yX10_yields cX10_yields 4 (Option.some .int) 2 := ⟨lwG_t (k := 1182) (by decide +kernel) rfl, lwG_s (k := 49) (q := (yX10_yields, 38)) (by decide +kernel), lwG_t (k := 11) (by decide +kernel) rfl, lwG_t (k := 1183) (by decide +kernel) rfl, rfl, by decide +kernel, by decide +kernel, by decide +kernel⟩
theorem yk_X10_cost : zYV RX10 yX10_cost cX10_cost 2 (Option.some .long) 1 := ⟨lwG_t (k := 1185) (by decide +kernel) rfl, lwG_t (k := 1186) (by decide +kernel) rfl, lwG_t (k := 11) (by decide +kernel) rfl, lwG_t (k := 1187) (by decide +kernel) rfl, rfl, by decide +kernel, by decide +kernel, by decide +kernel⟩
theorem yk_X10_finds : zYV RX10 yX10_finds cX10_finds 3 none 1 := ⟨lwG_t (k := 1190) (by decide +kernel) rfl, lwG_s (k := 50) (q := (yX10_finds, 38)) (by decide +kernel), lwG_t (k := 11) (by decide +kernel) rfl, lwG_t (k := 1191) (by decide +kernel) rfl, rfl, by decide +kernel, by decide +kernel, by decide +kernel⟩
theorem yk_X10_laysWall : zYV RX10 yX10_laysWall cX10_laysWall 5 none 0 := ⟨lwG_t (k := 1194) (by decide +kernel) rfl, lwG_s (k := 51) (q := (yX10_laysWall, 38)) (by decide +kernel), lwG_t (k := 11) (by decide +kernel) rfl, lwG_t (k := 1195) (by decide +kernel) rfl, rfl, by decide +kernel, by decide +kernel, by decide +kernel⟩
theorem yk_X10_isChosen : zYV RX10 yX10_isChosen cX10_isChosen 3 (Option.some .boolean) 1 := ⟨lwG_t (k := 1200) (by decide +kernel) rfl, lwG_s (k := 52) (q := (yX10_isChosen, 38)) (by decide +kernel), lwG_t (k := 11) (by decide +kernel) rfl, lwG_t (k := 1201) (by decide +kernel) rfl, rfl, by decide +kernel, by decide +kernel, by decide +kernel⟩
theorem yk_X10_tries : zYV RX10 yX10_tries cX10_tries 5 none 0 := ⟨lwG_t (k := 1204) (by decide +kernel) rfl, lwG_s (k := 53) (q := (yX10_tries, 38)) (by decide +kernel), lwG_t (k := 11) (by decide +kernel) rfl, lwG_t (k := 1205) (by decide +kernel) rfl, rfl, by decide +kernel, by decide +kernel, by decide +kernel⟩
theorem yk_X10_solves : zYV RX10 yX10_solves cX10_solves 4 (Option.some .boolean) 0 := ⟨lwG_t (k := 1208) (by decide +kernel) rfl, lwG_s (k := 54) (q := (yX10_solves, 38)) (by decide +kernel), lwG_t (k := 11) (by decide +kernel) rfl, lwG_t (k := 1209) (by decide +kernel) rfl, rfl, by decide +kernel, by decide +kernel, by decide +kernel⟩
theorem yk_X10_laysColumns : zYV RX10 yX10_laysColumns cX10_laysColumns 5 none 1 := ⟨lwG_t (k := 1212) (by decide +kernel) rfl, lwG_s (k := 55) (q := (yX10_laysColumns, 38)) (by decide +kernel), lwG_t (k := 11) (by decide +kernel) rfl, lwG_t (k := 1213) (by decide +kernel) rfl, rfl, by decide +kernel, by decide +kernel, by decide +kernel⟩
theorem yk_X10_determinant : zYV RX10 yX10_determinant cX10_determinant 1 (Option.some .long) 0 := ⟨lwG_t (k := 1216) (by decide +kernel) rfl, lwG_s (k := 56) (q := (yX10_determinant, 38)) (by decide +kernel), lwG_t (k := 11) (by decide +kernel) rfl, lwG_t (k := 1217) (by decide +kernel) rfl, rfl, by decide +kernel, by decide +kernel, by decide +kernel⟩
theorem yk_X10_two : zYV RX10 yX10_two cX10_two 4 (Option.some .long) 3 := ⟨lwG_t (k := 1220) (by decide +kernel) rfl, lwG_s (k := 57) (q := (yX10_two, 38)) (by decide +kernel), lwG_t (k := 11) (by decide +kernel) rfl, lwG_t (k := 1221) (by decide +kernel) rfl, rfl, by decide +kernel, by decide +kernel, by decide +kernel⟩
theorem yk_X10_priceOf : zYV RX10 yX10_priceOf cX10_priceOf 2 (Option.some .long) 1 := ⟨lwG_t (k := 1224) (by decide +kernel) rfl, lwG_s (k := 58) (q := (yX10_priceOf, 38)) (by decide +kernel), lwG_t (k := 11) (by decide +kernel) rfl, lwG_t (k := 1225) (by decide +kernel) rfl, rfl, by decide +kernel, by decide +kernel, by decide +kernel⟩
theorem yk_X10_compares : zYS yX10_compares cX10_compares 25 (Option.some .int) 4 := ⟨lwG_t (k := 1227) (by decide +kernel) rfl, lwG_t (k := 11) (by decide +kernel) rfl, lwG_t (k := 1228) (by decide +kernel) rfl, by decide +kernel, by decide +kernel, by decide +kernel⟩
theorem yk_X10_choosesOn : zYV RX10 yX10_choosesOn cX10_choosesOn 5 (Option.some .boolean) 1 := ⟨lwG_t (k := 1231) (by decide +kernel) rfl, lwG_s (k := 59) (q := (yX10_choosesOn, 38)) (by decide +kernel), lwG_t (k := 11) (by decide +kernel) rfl, lwG_t (k := 1232) (by decide +kernel) rfl, rfl, by decide +kernel, by decide +kernel, by decide +kernel⟩
theorem yk_X10_tells : zYS yX10_tells cX10_tells 7 (Option.some .long) 3 := ⟨lwG_t (k := 1234) (by decide +kernel) rfl, lwG_t (k := 11) (by decide +kernel) rfl, lwG_t (k := 1235) (by decide +kernel) rfl, by decide +kernel, by decide +kernel, by decide +kernel⟩
theorem yk_X10_divisor : zYS yX10_divisor cX10_divisor 10 (Option.some .long) 2 := ⟨lwG_t (k := 1237) (by decide +kernel) rfl, lwG_t (k := 11) (by decide +kernel) rfl, lwG_t (k := 1238) (by decide +kernel) rfl, by decide +kernel, by decide +kernel, by decide +kernel⟩
theorem yk_X10_part : zYV RX10 yX10_part cX10_part 3 (Option.some .long) 2 := ⟨lwG_t (k := 1240) (by decide +kernel) rfl, lwG_t (k := 1241) (by decide +kernel) rfl, lwG_t (k := 11) (by decide +kernel) rfl, lwG_t (k := 1242) (by decide +kernel) rfl, rfl, by decide +kernel, by decide +kernel, by decide +kernel⟩
theorem yk_X10_surplus : zYV RX10 yX10_surplus cX10_surplus 3 (Option.some .long) 2 := ⟨lwG_t (k := 1244) (by decide +kernel) rfl, lwG_t (k := 1245) (by decide +kernel) rfl, lwG_t (k := 11) (by decide +kernel) rfl, lwG_t (k := 1246) (by decide +kernel) rfl, rfl, by decide +kernel, by decide +kernel, by decide +kernel⟩
theorem yk_X10_without : zYV RX10 yX10_without cX10_without 3 (Option.some .long) 2 := ⟨lwG_t (k := 1248) (by decide +kernel) rfl, lwG_t (k := 1249) (by decide +kernel) rfl, lwG_t (k := 11) (by decide +kernel) rfl, lwG_t (k := 1250) (by decide +kernel) rfl, rfl, by decide +kernel, by decide +kernel, by decide +kernel⟩
theorem yk_X10_multiplier : zYV RX10 yX10_multiplier cX10_multiplier 3 (Option.some .long) 2 := ⟨lwG_t (k := 1252) (by decide +kernel) rfl, lwG_t (k := 1253) (by decide +kernel) rfl, lwG_t (k := 11) (by decide +kernel) rfl, lwG_t (k := 1254) (by decide +kernel) rfl, rfl, by decide +kernel, by decide +kernel, by decide +kernel⟩
theorem yk_X10_multiplies : zYV RX10 yX10_multiplies cX10_multiplies 2 none 0 := ⟨lwG_t (k := 1257) (by decide +kernel) rfl, lwG_s (k := 60) (q := (yX10_multiplies, 38)) (by decide +kernel), lwG_t (k := 11) (by decide +kernel) rfl, lwG_t (k := 1258) (by decide +kernel) rfl, rfl, by decide +kernel, by decide +kernel, by decide +kernel⟩
theorem yk_X10_laysBounds : zYV RX10 yX10_laysBounds cX10_laysBounds 5 none 0 := ⟨lwG_t (k := 1261) (by decide +kernel) rfl, lwG_s (k := 61) (q := (yX10_laysBounds, 38)) (by decide +kernel), lwG_t (k := 11) (by decide +kernel) rfl, lwG_t (k := 1262) (by decide +kernel) rfl, rfl, by decide +kernel, by decide +kernel, by decide +kernel⟩
theorem yk_X10_triesBounds : zYV RX10 yX10_triesBounds cX10_triesBounds 5 none 0 := ⟨lwG_t (k := 1265) (by decide +kernel) rfl, lwG_s (k := 62) (q := (yX10_triesBounds, 38)) (by decide +kernel), lwG_t (k := 11) (by decide +kernel) rfl, lwG_t (k := 1266) (by decide +kernel) rfl, rfl, by decide +kernel, by decide +kernel, by decide +kernel⟩
theorem yk_X10_solvesBounds : zYV RX10 yX10_solvesBounds cX10_solvesBounds 4 (Option.some .boolean) 0 := ⟨lwG_t (k := 1269) (by decide +kernel) rfl, lwG_s (k := 63) (q := (yX10_solvesBounds, 38)) (by decide +kernel), lwG_t (k := 11) (by decide +kernel) rfl, lwG_t (k := 1270) (by decide +kernel) rfl, rfl, by decide +kernel, by decide +kernel, by decide +kernel⟩
theorem yk_X10_areKept : zYV RX10 yX10_areKept cX10_areKept 5 (Option.some .boolean) 0 := ⟨lwG_t (k := 1273) (by decide +kernel) rfl, lwG_s (k := 64) (q := (yX10_areKept, 38)) (by decide +kernel), lwG_t (k := 11) (by decide +kernel) rfl, lwG_t (k := 1274) (by decide +kernel) rfl, rfl, by decide +kernel, by decide +kernel, by decide +kernel⟩
theorem yk_X10_dear : zYV RX10 yX10_dear cX10_dear 6 (Option.some .long) 2 := ⟨lwG_t (k := 1276) (by decide +kernel) rfl, lwG_t (k := 1277) (by decide +kernel) rfl, lwG_t (k := 11) (by decide +kernel) rfl, lwG_t (k := 1278) (by decide +kernel) rfl, rfl, by decide +kernel, by decide +kernel, by decide +kernel⟩
theorem yk_X10_lots : zYV RX10 yX10_lots cX10_lots 2 (Option.some .int) 1 := ⟨lwG_t (k := 1280) (by decide +kernel) rfl, lwG_t (k := 1281) (by decide +kernel) rfl, lwG_t (k := 11) (by decide +kernel) rfl, lwG_t (k := 1282) (by decide +kernel) rfl, rfl, by decide +kernel, by decide +kernel, by decide +kernel⟩
theorem yk_X10_buysLots : zYV RX10 yX10_buysLots cX10_buysLots 3 none 0 := ⟨lwG_t (k := 1285) (by decide +kernel) rfl, lwG_s (k := 65) (q := (yX10_buysLots, 38)) (by decide +kernel), lwG_t (k := 11) (by decide +kernel) rfl, lwG_t (k := 1286) (by decide +kernel) rfl, rfl, by decide +kernel, by decide +kernel, by decide +kernel⟩
theorem yk_X10_triesLot : zYV RX10 yX10_triesLot cX10_triesLot 4 none 0 := ⟨lwG_t (k := 1289) (by decide +kernel) rfl, lwG_s (k := 66) (q := (yX10_triesLot, 38)) (by decide +kernel), lwG_t (k := 11) (by decide +kernel) rfl, lwG_t (k := 1290) (by decide +kernel) rfl, rfl, by decide +kernel, by decide +kernel, by decide +kernel⟩
theorem yk_X10_runs : zYV RX10 yX10_runs cX10_runs 8 none 3 := ⟨lwG_t (k := 1293) (by decide +kernel) rfl, lwG_s (k := 67) (q := (yX10_runs, 38)) (by decide +kernel), lwG_t (k := 11) (by decide +kernel) rfl, lwG_t (k := 1294) (by decide +kernel) rfl, rfl, by decide +kernel, by decide +kernel, by decide +kernel⟩
theorem yk_X10_power : zYV RX10 yX10_power cX10_power 5 (Option.some .long) 1 := ⟨lwG_t (k := 1297) (by decide +kernel) rfl, lwG_s (k := 68) (q := (yX10_power, 38)) (by decide +kernel), lwG_t (k := 11) (by decide +kernel) rfl, lwG_t (k := 1298) (by decide +kernel) rfl, rfl, by decide +kernel, by decide +kernel, by decide +kernel⟩
theorem yk_X10_needs : zYV RX10 yX10_needs cX10_needs 5 none 1 := ⟨lwG_t (k := 1301) (by decide +kernel) rfl, lwG_s (k := 69) (q := (yX10_needs, 38)) (by decide +kernel), lwG_t (k := 11) (by decide +kernel) rfl, lwG_t (k := 1302) (by decide +kernel) rfl, rfl, by decide +kernel, by decide +kernel, by decide +kernel⟩
theorem yk_X10_grows : zYV RX10 yX10_grows cX10_grows 6 (Option.some .long) 2 := ⟨lwG_t (k := 1305) (by decide +kernel) rfl, lwG_s (k := 70) (q := (yX10_grows, 38)) (by decide +kernel), lwG_t (k := 11) (by decide +kernel) rfl, lwG_t (k := 1306) (by decide +kernel) rfl, rfl, by decide +kernel, by decide +kernel, by decide +kernel⟩
theorem yk_X10_lotsCost : zYV RX10 yX10_lotsCost cX10_lotsCost 3 (Option.some .long) 2 := ⟨lwG_t (k := 1308) (by decide +kernel) rfl, lwG_t (k := 1309) (by decide +kernel) rfl, lwG_t (k := 11) (by decide +kernel) rfl, lwG_t (k := 1310) (by decide +kernel) rfl, rfl, by decide +kernel, by decide +kernel, by decide +kernel⟩
theorem yk_X10_take : zYV RX10 yX10_take cX10_take 2 (Option.some .int) 0 := ⟨lwG_t (k := 1312) (by decide +kernel) rfl, lwG_t (k := 1313) (by decide +kernel) rfl, lwG_t (k := 11) (by decide +kernel) rfl, lwG_t (k := 1314) (by decide +kernel) rfl, rfl, by decide +kernel, by decide +kernel, by decide +kernel⟩
theorem yk_X10_fails_ : zYV RX10 yX10_fails_ cX10_fails_ 1 (Option.some .int) 0 := ⟨lwG_t (k := 1316) (by decide +kernel) rfl, lwG_t (k := 1317) (by decide +kernel) rfl, lwG_t (k := 11) (by decide +kernel) rfl, lwG_t (k := 1318) (by decide +kernel) rfl, rfl, by decide +kernel, by decide +kernel, by decide +kernel⟩
theorem yk_X10_failsAt : zYV RX10 yX10_failsAt cX10_failsAt 2 (Option.some .int) 0 := ⟨lwG_t (k := 1321) (by decide +kernel) rfl, lwG_s (k := 71) (q := (yX10_failsAt, 38)) (by decide +kernel), lwG_t (k := 11) (by decide +kernel) rfl, lwG_t (k := 1322) (by decide +kernel) rfl, rfl, by decide +kernel, by decide +kernel, by decide +kernel⟩
theorem yk_X10_balance : zYV RX10 yX10_balance cX10_balance 4 (Option.some .long) 2 := ⟨lwG_t (k := 1324) (by decide +kernel) rfl, lwG_t (k := 1325) (by decide +kernel) rfl, lwG_t (k := 11) (by decide +kernel) rfl, lwG_t (k := 1326) (by decide +kernel) rfl, rfl, by decide +kernel, by decide +kernel, by decide +kernel⟩
theorem yk_X10_need : zYV RX10 yX10_need cX10_need 2 (Option.some .long) 1 := ⟨lwG_t (k := 1328) (by decide +kernel) rfl, lwG_t (k := 1329) (by decide +kernel) rfl, lwG_t (k := 11) (by decide +kernel) rfl, lwG_t (k := 1330) (by decide +kernel) rfl, rfl, by decide +kernel, by decide +kernel, by decide +kernel⟩
theorem yk_X10_lack : zYV RX10 yX10_lack cX10_lack 4 (Option.some .long) 2 := ⟨lwG_t (k := 1332) (by decide +kernel) rfl, lwG_t (k := 1333) (by decide +kernel) rfl, lwG_t (k := 11) (by decide +kernel) rfl, lwG_t (k := 1334) (by decide +kernel) rfl, rfl, by decide +kernel, by decide +kernel, by decide +kernel⟩
theorem in_X0 : ∀ w ∈ wsX00, w ∈ lwG := List.forall_mem_cons.mpr ⟨lwG_t (k := 170) (by decide +kernel) rfl, List.forall_mem_cons.mpr ⟨lwG_t (k := 172) (by decide +kernel) rfl, List.forall_mem_cons.mpr ⟨lwG_t (k := 174) (by decide +kernel) rfl, List.forall_mem_cons.mpr ⟨lwG_t (k := 176) (by decide +kernel) rfl, fun _ h => absurd h List.not_mem_nil⟩⟩⟩⟩
theorem in_X1 : ∀ w ∈ wsX10, w ∈ lwG := List.forall_mem_cons.mpr ⟨lwG_t (k := 191) (by decide +kernel) rfl, List.forall_mem_cons.mpr ⟨lwG_t (k := 193) (by decide +kernel) rfl, List.forall_mem_cons.mpr ⟨lwG_t (k := 195) (by decide +kernel) rfl, List.forall_mem_cons.mpr ⟨lwG_t (k := 197) (by decide +kernel) rfl, List.forall_mem_cons.mpr ⟨lwG_t (k := 199) (by decide +kernel) rfl, List.forall_mem_cons.mpr ⟨lwG_t (k := 201) (by decide +kernel) rfl, List.forall_mem_cons.mpr ⟨lwG_t (k := 203) (by decide +kernel) rfl, List.forall_mem_cons.mpr ⟨lwG_t (k := 205) (by decide +kernel) rfl, fun _ h => absurd h List.not_mem_nil⟩⟩⟩⟩⟩⟩⟩⟩
theorem in_X2 : ∀ w ∈ wsX20, w ∈ lwG := List.forall_mem_cons.mpr ⟨lwG_t (k := 85) (by decide +kernel) rfl, List.forall_mem_cons.mpr ⟨lwG_t (k := 87) (by decide +kernel) rfl, List.forall_mem_cons.mpr ⟨lwG_t (k := 89) (by decide +kernel) rfl, fun _ h => absurd h List.not_mem_nil⟩⟩⟩
theorem in_X3 : ∀ w ∈ wsX30, w ∈ lwG := List.forall_mem_cons.mpr ⟨lwG_t (k := 140) (by decide +kernel) rfl, List.forall_mem_cons.mpr ⟨lwG_t (k := 142) (by decide +kernel) rfl, List.forall_mem_cons.mpr ⟨lwG_t (k := 144) (by decide +kernel) rfl, List.forall_mem_cons.mpr ⟨lwG_t (k := 146) (by decide +kernel) rfl, List.forall_mem_cons.mpr ⟨lwG_t (k := 148) (by decide +kernel) rfl, List.forall_mem_cons.mpr ⟨lwG_t (k := 150) (by decide +kernel) rfl, fun _ h => absurd h List.not_mem_nil⟩⟩⟩⟩⟩⟩
theorem in_X4 : ∀ w ∈ wsX40, w ∈ lwG := List.forall_mem_cons.mpr ⟨lwG_t (k := 275) (by decide +kernel) rfl, List.forall_mem_cons.mpr ⟨lwG_t (k := 277) (by decide +kernel) rfl, List.forall_mem_cons.mpr ⟨lwG_t (k := 279) (by decide +kernel) rfl, List.forall_mem_cons.mpr ⟨lwG_t (k := 281) (by decide +kernel) rfl, List.forall_mem_cons.mpr ⟨lwG_t (k := 283) (by decide +kernel) rfl, fun _ h => absurd h List.not_mem_nil⟩⟩⟩⟩⟩
theorem in_X5 : ∀ w ∈ wsX50, w ∈ lwG := List.forall_mem_cons.mpr ⟨lwG_t (k := 232) (by decide +kernel) rfl, List.forall_mem_cons.mpr ⟨lwG_t (k := 234) (by decide +kernel) rfl, List.forall_mem_cons.mpr ⟨lwG_t (k := 236) (by decide +kernel) rfl, List.forall_mem_cons.mpr ⟨lwG_t (k := 238) (by decide +kernel) rfl, List.forall_mem_cons.mpr ⟨lwG_t (k := 240) (by decide +kernel) rfl, List.forall_mem_cons.mpr ⟨lwG_t (k := 242) (by decide +kernel) rfl, List.forall_mem_cons.mpr ⟨lwG_t (k := 244) (by decide +kernel) rfl, List.forall_mem_cons.mpr ⟨lwG_t (k := 246) (by decide +kernel) rfl, List.forall_mem_cons.mpr ⟨lwG_t (k := 248) (by decide +kernel) rfl, List.forall_mem_cons.mpr ⟨lwG_t (k := 250) (by decide +kernel) rfl, List.forall_mem_cons.mpr ⟨lwG_t (k := 252) (by decide +kernel) rfl, List.forall_mem_cons.mpr ⟨lwG_t (k := 254) (by decide +kernel) rfl, List.forall_mem_cons.mpr ⟨lwG_t (k := 256) (by decide +kernel) rfl, fun _ h => absurd h List.not_mem_nil⟩⟩⟩⟩⟩⟩⟩⟩⟩⟩⟩⟩⟩
theorem in_X6 : ∀ w ∈ wsX60, w ∈ lwG := List.forall_mem_cons.mpr ⟨lwG_t (k := 305) (by decide +kernel) rfl, List.forall_mem_cons.mpr ⟨lwG_t (k := 307) (by decide +kernel) rfl, List.forall_mem_cons.mpr ⟨lwG_t (k := 309) (by decide +kernel) rfl, List.forall_mem_cons.mpr ⟨lwG_t (k := 311) (by decide +kernel) rfl, List.forall_mem_cons.mpr ⟨lwG_t (k := 313) (by decide +kernel) rfl, fun _ h => absurd h List.not_mem_nil⟩⟩⟩⟩⟩
theorem in_X7 : ∀ w ∈ wsX70, w ∈ lwG := List.forall_mem_cons.mpr ⟨lwG_t (k := 105) (by decide +kernel) rfl, List.forall_mem_cons.mpr ⟨lwG_t (k := 107) (by decide +kernel) rfl, List.forall_mem_cons.mpr ⟨lwG_t (k := 109) (by decide +kernel) rfl, fun _ h => absurd h List.not_mem_nil⟩⟩⟩
theorem in_X8 : ∀ w ∈ wsX80, w ∈ lwG := List.forall_mem_cons.mpr ⟨lwG_t (k := 47) (by decide +kernel) rfl, List.forall_mem_cons.mpr ⟨lwG_t (k := 49) (by decide +kernel) rfl, List.forall_mem_cons.mpr ⟨lwG_t (k := 51) (by decide +kernel) rfl, List.forall_mem_cons.mpr ⟨lwG_t (k := 53) (by decide +kernel) rfl, List.forall_mem_cons.mpr ⟨lwG_t (k := 55) (by decide +kernel) rfl, List.forall_mem_cons.mpr ⟨lwG_t (k := 57) (by decide +kernel) rfl, List.forall_mem_cons.mpr ⟨lwG_t (k := 59) (by decide +kernel) rfl, fun _ h => absurd h List.not_mem_nil⟩⟩⟩⟩⟩⟩⟩
theorem in_X9 : ∀ w ∈ wsX90, w ∈ lwG := List.forall_mem_cons.mpr ⟨lwG_t (k := 326) (by decide +kernel) rfl, List.forall_mem_cons.mpr ⟨lwG_t (k := 328) (by decide +kernel) rfl, List.forall_mem_cons.mpr ⟨lwG_t (k := 330) (by decide +kernel) rfl, List.forall_mem_cons.mpr ⟨lwG_t (k := 332) (by decide +kernel) rfl, List.forall_mem_cons.mpr ⟨lwG_t (k := 334) (by decide +kernel) rfl, List.forall_mem_cons.mpr ⟨lwG_t (k := 336) (by decide +kernel) rfl, List.forall_mem_cons.mpr ⟨lwG_t (k := 338) (by decide +kernel) rfl, List.forall_mem_cons.mpr ⟨lwG_t (k := 340) (by decide +kernel) rfl, List.forall_mem_cons.mpr ⟨lwG_t (k := 342) (by decide +kernel) rfl, List.forall_mem_cons.mpr ⟨lwG_t (k := 344) (by decide +kernel) rfl, fun _ h => absurd h List.not_mem_nil⟩⟩⟩⟩⟩⟩⟩⟩⟩⟩
theorem in_X10 : ∀ w ∈ wsX100, w ∈ lwG := List.forall_mem_cons.mpr ⟨lwG_t (k := 964) (by decide +kernel) rfl, List.forall_mem_cons.mpr ⟨lwG_t (k := 966) (by decide +kernel) rfl, List.forall_mem_cons.mpr ⟨lwG_t (k := 968) (by decide +kernel) rfl, List.forall_mem_cons.mpr ⟨lwG_t (k := 970) (by decide +kernel) rfl, List.forall_mem_cons.mpr ⟨lwG_t (k := 972) (by decide +kernel) rfl, List.forall_mem_cons.mpr ⟨lwG_t (k := 974) (by decide +kernel) rfl, List.forall_mem_cons.mpr ⟨lwG_t (k := 976) (by decide +kernel) rfl, List.forall_mem_cons.mpr ⟨lwG_t (k := 978) (by decide +kernel) rfl, List.forall_mem_cons.mpr ⟨lwG_t (k := 980) (by decide +kernel) rfl, List.forall_mem_cons.mpr ⟨lwG_t (k := 982) (by decide +kernel) rfl, List.forall_mem_cons.mpr ⟨lwG_t (k := 984) (by decide +kernel) rfl, List.forall_mem_cons.mpr ⟨lwG_t (k := 986) (by decide +kernel) rfl, List.forall_mem_cons.mpr ⟨lwG_t (k := 988) (by decide +kernel) rfl, List.forall_mem_cons.mpr ⟨lwG_t (k := 990) (by decide +kernel) rfl, List.forall_mem_cons.mpr ⟨lwG_t (k := 992) (by decide +kernel) rfl, List.forall_mem_cons.mpr ⟨lwG_t (k := 994) (by decide +kernel) rfl, List.forall_mem_cons.mpr ⟨lwG_t (k := 996) (by decide +kernel) rfl, List.forall_mem_cons.mpr ⟨lwG_t (k := 998) (by decide +kernel) rfl, List.forall_mem_cons.mpr ⟨lwG_t (k := 1000) (by decide +kernel) rfl, List.forall_mem_cons.mpr ⟨lwG_t (k := 1002) (by decide +kernel) rfl, List.forall_mem_cons.mpr ⟨lwG_t (k := 1004) (by decide +kernel) rfl, List.forall_mem_cons.mpr ⟨lwG_t (k := 1006) (by decide +kernel) rfl, List.forall_mem_cons.mpr ⟨lwG_t (k := 1008) (by decide +kernel) rfl, List.forall_mem_cons.mpr ⟨lwG_t (k := 1010) (by decide +kernel) rfl, List.forall_mem_cons.mpr ⟨lwG_t (k := 1012) (by decide +kernel) rfl, List.forall_mem_cons.mpr ⟨lwG_t (k := 1014) (by decide +kernel) rfl, List.forall_mem_cons.mpr ⟨lwG_t (k := 1016) (by decide +kernel) rfl, List.forall_mem_cons.mpr ⟨lwG_t (k := 1018) (by decide +kernel) rfl, List.forall_mem_cons.mpr ⟨lwG_t (k := 1020) (by decide +kernel) rfl, List.forall_mem_cons.mpr ⟨lwG_t (k := 1022) (by decide +kernel) rfl, List.forall_mem_cons.mpr ⟨lwG_t (k := 1024) (by decide +kernel) rfl, List.forall_mem_cons.mpr ⟨lwG_t (k := 1026) (by decide +kernel) rfl, List.forall_mem_cons.mpr ⟨lwG_t (k := 1028) (by decide +kernel) rfl, List.forall_mem_cons.mpr ⟨lwG_t (k := 1030) (by decide +kernel) rfl, List.forall_mem_cons.mpr ⟨lwG_t (k := 1032) (by decide +kernel) rfl, List.forall_mem_cons.mpr ⟨lwG_t (k := 1034) (by decide +kernel) rfl, List.forall_mem_cons.mpr ⟨lwG_t (k := 1036) (by decide +kernel) rfl, List.forall_mem_cons.mpr ⟨lwG_t (k := 1038) (by decide +kernel) rfl, fun _ h => absurd h List.not_mem_nil⟩⟩⟩⟩⟩⟩⟩⟩⟩⟩⟩⟩⟩⟩⟩⟩⟩⟩⟩⟩⟩⟩⟩⟩⟩⟩⟩⟩⟩⟩⟩⟩⟩⟩⟩⟩⟩⟩
