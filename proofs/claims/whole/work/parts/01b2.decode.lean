theorem dX10_tries_65 : decode cX10_tries 65 = .ok (.aload_n 0, 1) := by decide +kernel
theorem dX10_tries_66 : decode cX10_tries 66 = .ok (.getfield 35, 3) := by decide +kernel
theorem dX10_tries_69 : decode cX10_tries 69 = .ok (.iload_n 3, 1) := by decide +kernel
theorem dX10_tries_70 : decode cX10_tries 70 = .ok (.laload, 1) := by decide +kernel
theorem dX10_tries_71 : decode cX10_tries 71 = .ok (.lastore, 1) := by decide +kernel
theorem dX10_tries_72 : decode cX10_tries 72 = .ok (.lload_n 1, 1) := by decide +kernel
theorem dX10_tries_73 : decode cX10_tries 73 = .ok (.aload_n 0, 1) := by decide +kernel
theorem dX10_tries_74 : decode cX10_tries 74 = .ok (.getfield 35, 3) := by decide +kernel
theorem dX10_tries_77 : decode cX10_tries 77 = .ok (.iload_n 3, 1) := by decide +kernel
theorem dX10_tries_78 : decode cX10_tries 78 = .ok (.laload, 1) := by decide +kernel
theorem dX10_tries_79 : decode cX10_tries 79 = .ok (.aload_n 0, 1) := by decide +kernel
theorem dX10_tries_80 : decode cX10_tries 80 = .ok (.aload_n 0, 1) := by decide +kernel
theorem dX10_tries_81 : decode cX10_tries 81 = .ok (.getfield 32, 3) := by decide +kernel
theorem dX10_tries_84 : decode cX10_tries 84 = .ok (.iload_n 3, 1) := by decide +kernel
theorem dX10_tries_85 : decode cX10_tries 85 = .ok (.iaload, 1) := by decide +kernel
theorem dX10_tries_86 : decode cX10_tries 86 = .ok (.invokevirtual 196, 3) := by decide +kernel
theorem dX10_tries_89 : decode cX10_tries 89 = .ok (.lmul, 1) := by decide +kernel
theorem dX10_tries_90 : decode cX10_tries 90 = .ok (.ladd, 1) := by decide +kernel
theorem dX10_tries_91 : decode cX10_tries 91 = .ok (.lstore_n 1, 1) := by decide +kernel
theorem dX10_tries_92 : decode cX10_tries 92 = .ok (.iinc 3 1, 3) := by decide +kernel
theorem dX10_tries_95 : decode cX10_tries 95 = .ok (.goto (-62), 3) := by decide +kernel
theorem dX10_tries_98 : decode cX10_tries 98 = .ok (.aload_n 0, 1) := by decide +kernel
theorem dX10_tries_99 : decode cX10_tries 99 = .ok (.getfield 200, 3) := by decide +kernel
theorem dX10_tries_102 : decode cX10_tries 102 = .ok (.ifCond .eq 22, 3) := by decide +kernel
theorem dX10_tries_105 : decode cX10_tries 105 = .ok (.lload_n 1, 1) := by decide +kernel
theorem dX10_tries_106 : decode cX10_tries 106 = .ok (.aload_n 0, 1) := by decide +kernel
theorem dX10_tries_107 : decode cX10_tries 107 = .ok (.getfield 185, 3) := by decide +kernel
theorem dX10_tries_110 : decode cX10_tries 110 = .ok (.aload_n 0, 1) := by decide +kernel
theorem dX10_tries_111 : decode cX10_tries 111 = .ok (.getfield 204, 3) := by decide +kernel
theorem dX10_tries_114 : decode cX10_tries 114 = .ok (.aload_n 0, 1) := by decide +kernel
theorem dX10_tries_115 : decode cX10_tries 115 = .ok (.getfield 207, 3) := by decide +kernel
theorem dX10_tries_118 : decode cX10_tries 118 = .ok (.invokestatic 210, 3) := by decide +kernel
theorem dX10_tries_121 : decode cX10_tries 121 = .ok (.goto 4, 3) := by decide +kernel
theorem dX10_tries_124 : decode cX10_tries 124 = .ok (.iconst (-1), 1) := by decide +kernel
theorem dX10_tries_125 : decode cX10_tries 125 = .ok (.istore_n 3, 1) := by decide +kernel
theorem dX10_tries_126 : decode cX10_tries 126 = .ok (.iconst 0, 1) := by decide +kernel
theorem dX10_tries_127 : decode cX10_tries 127 = .ok (.istore 4, 2) := by decide +kernel
theorem dX10_tries_129 : decode cX10_tries 129 = .ok (.iload 4, 2) := by decide +kernel
theorem dX10_tries_131 : decode cX10_tries 131 = .ok (.aload_n 0, 1) := by decide +kernel
theorem dX10_tries_132 : decode cX10_tries 132 = .ok (.getfield 7, 3) := by decide +kernel
theorem dX10_tries_135 : decode cX10_tries 135 = .ok (.iconst 1, 1) := by decide +kernel
theorem dX10_tries_136 : decode cX10_tries 136 = .ok (.iaload, 1) := by decide +kernel
theorem dX10_tries_137 : decode cX10_tries 137 = .ok (.if_icmp .ge 39, 3) := by decide +kernel
theorem dX10_tries_140 : decode cX10_tries 140 = .ok (.iload_n 3, 1) := by decide +kernel
theorem dX10_tries_141 : decode cX10_tries 141 = .ok (.ifCond .ne 35, 3) := by decide +kernel
theorem dX10_tries_144 : decode cX10_tries 144 = .ok (.aload_n 0, 1) := by decide +kernel
theorem dX10_tries_145 : decode cX10_tries 145 = .ok (.getfield 41, 3) := by decide +kernel
theorem dX10_tries_148 : decode cX10_tries 148 = .ok (.iload 4, 2) := by decide +kernel
theorem dX10_tries_150 : decode cX10_tries 150 = .ok (.laload, 1) := by decide +kernel
theorem dX10_tries_151 : decode cX10_tries 151 = .ok (.aload_n 0, 1) := by decide +kernel
theorem dX10_tries_152 : decode cX10_tries 152 = .ok (.getfield 185, 3) := by decide +kernel
theorem dX10_tries_155 : decode cX10_tries 155 = .ok (.aload_n 0, 1) := by decide +kernel
theorem dX10_tries_156 : decode cX10_tries 156 = .ok (.getfield 38, 3) := by decide +kernel
theorem dX10_tries_159 : decode cX10_tries 159 = .ok (.iload 4, 2) := by decide +kernel
theorem dX10_tries_161 : decode cX10_tries 161 = .ok (.laload, 1) := by decide +kernel
theorem dX10_tries_162 : decode cX10_tries 162 = .ok (.aload_n 0, 1) := by decide +kernel
theorem dX10_tries_163 : decode cX10_tries 163 = .ok (.getfield 207, 3) := by decide +kernel
theorem dX10_tries_166 : decode cX10_tries 166 = .ok (.invokestatic 210, 3) := by decide +kernel
theorem dX10_tries_169 : decode cX10_tries 169 = .ok (.istore_n 3, 1) := by decide +kernel
theorem dX10_tries_170 : decode cX10_tries 170 = .ok (.iinc 4 1, 3) := by decide +kernel
theorem dX10_tries_173 : decode cX10_tries 173 = .ok (.goto (-44), 3) := by decide +kernel
theorem dX10_tries_176 : decode cX10_tries 176 = .ok (.iload_n 3, 1) := by decide +kernel
theorem dX10_tries_177 : decode cX10_tries 177 = .ok (.ifCond .ge 51, 3) := by decide +kernel
theorem dX10_tries_180 : decode cX10_tries 180 = .ok (.aload_n 0, 1) := by decide +kernel
theorem dX10_tries_181 : decode cX10_tries 181 = .ok (.iconst 1, 1) := by decide +kernel
theorem dX10_tries_182 : decode cX10_tries 182 = .ok (.putfield 200, 3) := by decide +kernel
theorem dX10_tries_185 : decode cX10_tries 185 = .ok (.aload_n 0, 1) := by decide +kernel
theorem dX10_tries_186 : decode cX10_tries 186 = .ok (.lload_n 1, 1) := by decide +kernel
theorem dX10_tries_187 : decode cX10_tries 187 = .ok (.putfield 204, 3) := by decide +kernel
theorem dX10_tries_190 : decode cX10_tries 190 = .ok (.aload_n 0, 1) := by decide +kernel
theorem dX10_tries_191 : decode cX10_tries 191 = .ok (.aload_n 0, 1) := by decide +kernel
theorem dX10_tries_192 : decode cX10_tries 192 = .ok (.getfield 185, 3) := by decide +kernel
theorem dX10_tries_195 : decode cX10_tries 195 = .ok (.putfield 207, 3) := by decide +kernel
theorem dX10_tries_198 : decode cX10_tries 198 = .ok (.iconst 0, 1) := by decide +kernel
theorem dX10_tries_199 : decode cX10_tries 199 = .ok (.istore 4, 2) := by decide +kernel
theorem dX10_tries_201 : decode cX10_tries 201 = .ok (.iload 4, 2) := by decide +kernel
theorem dX10_tries_203 : decode cX10_tries 203 = .ok (.bipush 10, 2) := by decide +kernel
theorem dX10_tries_205 : decode cX10_tries 205 = .ok (.if_icmp .ge 23, 3) := by decide +kernel
theorem dX10_tries_208 : decode cX10_tries 208 = .ok (.aload_n 0, 1) := by decide +kernel
theorem dX10_tries_209 : decode cX10_tries 209 = .ok (.getfield 38, 3) := by decide +kernel
theorem dX10_tries_212 : decode cX10_tries 212 = .ok (.iload 4, 2) := by decide +kernel
theorem dX10_tries_214 : decode cX10_tries 214 = .ok (.aload_n 0, 1) := by decide +kernel
theorem dX10_tries_215 : decode cX10_tries 215 = .ok (.getfield 41, 3) := by decide +kernel
theorem dX10_tries_218 : decode cX10_tries 218 = .ok (.iload 4, 2) := by decide +kernel
theorem dX10_tries_220 : decode cX10_tries 220 = .ok (.laload, 1) := by decide +kernel
theorem dX10_tries_221 : decode cX10_tries 221 = .ok (.lastore, 1) := by decide +kernel
theorem dX10_tries_222 : decode cX10_tries 222 = .ok (.iinc 4 1, 3) := by decide +kernel
theorem dX10_tries_225 : decode cX10_tries 225 = .ok (.goto (-24), 3) := by decide +kernel
theorem dX10_tries_228 : decode cX10_tries 228 = .ok (.return_, 1) := by decide +kernel
theorem dX10_choosesOn_0 : decode cX10_choosesOn 0 = .ok (.aload_n 0, 1) := by decide +kernel
theorem dX10_choosesOn_1 : decode cX10_choosesOn 1 = .ok (.getfield 7, 3) := by decide +kernel
theorem dX10_choosesOn_4 : decode cX10_choosesOn 4 = .ok (.iconst 0, 1) := by decide +kernel
theorem dX10_choosesOn_5 : decode cX10_choosesOn 5 = .ok (.iaload, 1) := by decide +kernel
theorem dX10_choosesOn_6 : decode cX10_choosesOn 6 = .ok (.istore_n 2, 1) := by decide +kernel
theorem dX10_choosesOn_7 : decode cX10_choosesOn 7 = .ok (.iload_n 2, 1) := by decide +kernel
theorem dX10_choosesOn_8 : decode cX10_choosesOn 8 = .ok (.iconst 1, 1) := by decide +kernel
theorem dX10_choosesOn_9 : decode cX10_choosesOn 9 = .ok (.isub, 1) := by decide +kernel
theorem dX10_choosesOn_10 : decode cX10_choosesOn 10 = .ok (.istore_n 3, 1) := by decide +kernel
theorem dX10_choosesOn_11 : decode cX10_choosesOn 11 = .ok (.iload_n 3, 1) := by decide +kernel
theorem dX10_choosesOn_12 : decode cX10_choosesOn 12 = .ok (.ifCond .lt 23, 3) := by decide +kernel
theorem dX10_choosesOn_15 : decode cX10_choosesOn 15 = .ok (.aload_n 0, 1) := by decide +kernel
theorem dX10_choosesOn_16 : decode cX10_choosesOn 16 = .ok (.getfield 32, 3) := by decide +kernel
theorem dX10_choosesOn_19 : decode cX10_choosesOn 19 = .ok (.iload_n 3, 1) := by decide +kernel
theorem dX10_choosesOn_20 : decode cX10_choosesOn 20 = .ok (.iaload, 1) := by decide +kernel
theorem dX10_choosesOn_21 : decode cX10_choosesOn 21 = .ok (.iload_n 1, 1) := by decide +kernel
theorem dX10_choosesOn_22 : decode cX10_choosesOn 22 = .ok (.iload_n 2, 1) := by decide +kernel
theorem dX10_choosesOn_23 : decode cX10_choosesOn 23 = .ok (.isub, 1) := by decide +kernel
theorem dX10_choosesOn_24 : decode cX10_choosesOn 24 = .ok (.iload_n 3, 1) := by decide +kernel
theorem dX10_choosesOn_25 : decode cX10_choosesOn 25 = .ok (.iadd, 1) := by decide +kernel
theorem dX10_choosesOn_26 : decode cX10_choosesOn 26 = .ok (.if_icmp .ne 9, 3) := by decide +kernel
theorem dX10_choosesOn_29 : decode cX10_choosesOn 29 = .ok (.iinc 3 (-1), 3) := by decide +kernel
theorem dX10_choosesOn_32 : decode cX10_choosesOn 32 = .ok (.goto (-21), 3) := by decide +kernel
theorem dX10_choosesOn_35 : decode cX10_choosesOn 35 = .ok (.iload_n 3, 1) := by decide +kernel
theorem dX10_choosesOn_36 : decode cX10_choosesOn 36 = .ok (.ifCond .ge 5, 3) := by decide +kernel
theorem dX10_choosesOn_39 : decode cX10_choosesOn 39 = .ok (.iconst 0, 1) := by decide +kernel
theorem dX10_choosesOn_40 : decode cX10_choosesOn 40 = .ok (.ireturn, 1) := by decide +kernel
theorem dX10_choosesOn_41 : decode cX10_choosesOn 41 = .ok (.aload_n 0, 1) := by decide +kernel
theorem dX10_choosesOn_42 : decode cX10_choosesOn 42 = .ok (.getfield 32, 3) := by decide +kernel
theorem dX10_choosesOn_45 : decode cX10_choosesOn 45 = .ok (.iload_n 3, 1) := by decide +kernel
theorem dX10_choosesOn_46 : decode cX10_choosesOn 46 = .ok (.dup2, 1) := by decide +kernel
theorem dX10_choosesOn_47 : decode cX10_choosesOn 47 = .ok (.iaload, 1) := by decide +kernel
theorem dX10_choosesOn_48 : decode cX10_choosesOn 48 = .ok (.iconst 1, 1) := by decide +kernel
theorem dX10_choosesOn_49 : decode cX10_choosesOn 49 = .ok (.iadd, 1) := by decide +kernel
theorem dX10_choosesOn_50 : decode cX10_choosesOn 50 = .ok (.iastore, 1) := by decide +kernel
theorem dX10_choosesOn_51 : decode cX10_choosesOn 51 = .ok (.iload_n 3, 1) := by decide +kernel
theorem dX10_choosesOn_52 : decode cX10_choosesOn 52 = .ok (.iconst 1, 1) := by decide +kernel
theorem dX10_choosesOn_53 : decode cX10_choosesOn 53 = .ok (.iadd, 1) := by decide +kernel
theorem dX10_choosesOn_54 : decode cX10_choosesOn 54 = .ok (.istore 4, 2) := by decide +kernel
theorem dX10_choosesOn_56 : decode cX10_choosesOn 56 = .ok (.iload 4, 2) := by decide +kernel
theorem dX10_choosesOn_58 : decode cX10_choosesOn 58 = .ok (.iload_n 2, 1) := by decide +kernel
theorem dX10_choosesOn_59 : decode cX10_choosesOn 59 = .ok (.if_icmp .ge 27, 3) := by decide +kernel
theorem dX10_choosesOn_62 : decode cX10_choosesOn 62 = .ok (.aload_n 0, 1) := by decide +kernel
theorem dX10_choosesOn_63 : decode cX10_choosesOn 63 = .ok (.getfield 32, 3) := by decide +kernel
theorem dX10_choosesOn_66 : decode cX10_choosesOn 66 = .ok (.iload 4, 2) := by decide +kernel
theorem dX10_choosesOn_68 : decode cX10_choosesOn 68 = .ok (.aload_n 0, 1) := by decide +kernel
theorem dX10_choosesOn_69 : decode cX10_choosesOn 69 = .ok (.getfield 32, 3) := by decide +kernel
theorem dX10_choosesOn_72 : decode cX10_choosesOn 72 = .ok (.iload 4, 2) := by decide +kernel
theorem dX10_choosesOn_74 : decode cX10_choosesOn 74 = .ok (.iconst 1, 1) := by decide +kernel
theorem dX10_choosesOn_75 : decode cX10_choosesOn 75 = .ok (.isub, 1) := by decide +kernel
theorem dX10_choosesOn_76 : decode cX10_choosesOn 76 = .ok (.iaload, 1) := by decide +kernel
theorem dX10_choosesOn_77 : decode cX10_choosesOn 77 = .ok (.iconst 1, 1) := by decide +kernel
theorem dX10_choosesOn_78 : decode cX10_choosesOn 78 = .ok (.iadd, 1) := by decide +kernel
theorem dX10_choosesOn_79 : decode cX10_choosesOn 79 = .ok (.iastore, 1) := by decide +kernel
theorem dX10_choosesOn_80 : decode cX10_choosesOn 80 = .ok (.iinc 4 1, 3) := by decide +kernel
theorem dX10_choosesOn_83 : decode cX10_choosesOn 83 = .ok (.goto (-27), 3) := by decide +kernel
theorem dX10_choosesOn_86 : decode cX10_choosesOn 86 = .ok (.iconst 1, 1) := by decide +kernel
theorem dX10_choosesOn_87 : decode cX10_choosesOn 87 = .ok (.ireturn, 1) := by decide +kernel
theorem dX10_isChosen_0 : decode cX10_isChosen 0 = .ok (.iconst 0, 1) := by decide +kernel
theorem dX10_isChosen_1 : decode cX10_isChosen 1 = .ok (.istore_n 2, 1) := by decide +kernel
theorem dX10_isChosen_2 : decode cX10_isChosen 2 = .ok (.iload_n 2, 1) := by decide +kernel
theorem dX10_isChosen_3 : decode cX10_isChosen 3 = .ok (.aload_n 0, 1) := by decide +kernel
theorem dX10_isChosen_4 : decode cX10_isChosen 4 = .ok (.getfield 7, 3) := by decide +kernel
theorem dX10_isChosen_7 : decode cX10_isChosen 7 = .ok (.iconst 0, 1) := by decide +kernel
theorem dX10_isChosen_8 : decode cX10_isChosen 8 = .ok (.iaload, 1) := by decide +kernel
theorem dX10_isChosen_9 : decode cX10_isChosen 9 = .ok (.if_icmp .ge 21, 3) := by decide +kernel
theorem dX10_isChosen_12 : decode cX10_isChosen 12 = .ok (.aload_n 0, 1) := by decide +kernel
theorem dX10_isChosen_13 : decode cX10_isChosen 13 = .ok (.getfield 32, 3) := by decide +kernel
theorem dX10_isChosen_16 : decode cX10_isChosen 16 = .ok (.iload_n 2, 1) := by decide +kernel
theorem dX10_isChosen_17 : decode cX10_isChosen 17 = .ok (.iaload, 1) := by decide +kernel
theorem dX10_isChosen_18 : decode cX10_isChosen 18 = .ok (.iload_n 1, 1) := by decide +kernel
theorem dX10_isChosen_19 : decode cX10_isChosen 19 = .ok (.if_icmp .ne 5, 3) := by decide +kernel
theorem dX10_isChosen_22 : decode cX10_isChosen 22 = .ok (.iconst 1, 1) := by decide +kernel
theorem dX10_isChosen_23 : decode cX10_isChosen 23 = .ok (.ireturn, 1) := by decide +kernel
theorem dX10_isChosen_24 : decode cX10_isChosen 24 = .ok (.iinc 2 1, 3) := by decide +kernel
theorem dX10_isChosen_27 : decode cX10_isChosen 27 = .ok (.goto (-25), 3) := by decide +kernel
theorem dX10_isChosen_30 : decode cX10_isChosen 30 = .ok (.iconst 0, 1) := by decide +kernel
theorem dX10_isChosen_31 : decode cX10_isChosen 31 = .ok (.ireturn, 1) := by decide +kernel
theorem dX10_finds_0 : decode cX10_finds 0 = .ok (.aload_n 0, 1) := by decide +kernel
theorem dX10_finds_1 : decode cX10_finds 1 = .ok (.invokevirtual 214, 3) := by decide +kernel
theorem dX10_finds_4 : decode cX10_finds 4 = .ok (.aload_n 0, 1) := by decide +kernel
theorem dX10_finds_5 : decode cX10_finds 5 = .ok (.iconst 0, 1) := by decide +kernel
theorem dX10_finds_6 : decode cX10_finds 6 = .ok (.putfield 200, 3) := by decide +kernel
theorem dX10_finds_9 : decode cX10_finds 9 = .ok (.iconst 0, 1) := by decide +kernel
theorem dX10_finds_10 : decode cX10_finds 10 = .ok (.istore_n 2, 1) := by decide +kernel
theorem dX10_finds_11 : decode cX10_finds 11 = .ok (.iload_n 2, 1) := by decide +kernel
theorem dX10_finds_12 : decode cX10_finds 12 = .ok (.aload_n 0, 1) := by decide +kernel
theorem dX10_finds_13 : decode cX10_finds 13 = .ok (.getfield 7, 3) := by decide +kernel
theorem dX10_finds_16 : decode cX10_finds 16 = .ok (.iconst 0, 1) := by decide +kernel
theorem dX10_finds_17 : decode cX10_finds 17 = .ok (.iaload, 1) := by decide +kernel
theorem dX10_finds_18 : decode cX10_finds 18 = .ok (.if_icmp .ge 16, 3) := by decide +kernel
theorem dX10_finds_21 : decode cX10_finds 21 = .ok (.aload_n 0, 1) := by decide +kernel
theorem dX10_finds_22 : decode cX10_finds 22 = .ok (.getfield 32, 3) := by decide +kernel
theorem dX10_finds_25 : decode cX10_finds 25 = .ok (.iload_n 2, 1) := by decide +kernel
theorem dX10_finds_26 : decode cX10_finds 26 = .ok (.iload_n 2, 1) := by decide +kernel
theorem dX10_finds_27 : decode cX10_finds 27 = .ok (.iastore, 1) := by decide +kernel
theorem dX10_finds_28 : decode cX10_finds 28 = .ok (.iinc 2 1, 3) := by decide +kernel
theorem dX10_finds_31 : decode cX10_finds 31 = .ok (.goto (-20), 3) := by decide +kernel
theorem dX10_finds_34 : decode cX10_finds 34 = .ok (.iconst 1, 1) := by decide +kernel
theorem dX10_finds_35 : decode cX10_finds 35 = .ok (.istore_n 2, 1) := by decide +kernel
theorem dX10_finds_36 : decode cX10_finds 36 = .ok (.iload_n 2, 1) := by decide +kernel
theorem dX10_finds_37 : decode cX10_finds 37 = .ok (.ifCond .eq 43, 3) := by decide +kernel
theorem dX10_finds_40 : decode cX10_finds 40 = .ok (.iload_n 1, 1) := by decide +kernel
theorem dX10_finds_41 : decode cX10_finds 41 = .ok (.iconst (-1), 1) := by decide +kernel
theorem dX10_finds_42 : decode cX10_finds 42 = .ok (.if_icmp .eq 11, 3) := by decide +kernel
theorem dX10_finds_45 : decode cX10_finds 45 = .ok (.aload_n 0, 1) := by decide +kernel
theorem dX10_finds_46 : decode cX10_finds 46 = .ok (.iload_n 1, 1) := by decide +kernel
theorem dX10_finds_47 : decode cX10_finds 47 = .ok (.invokevirtual 217, 3) := by decide +kernel
theorem dX10_finds_50 : decode cX10_finds 50 = .ok (.ifCond .ne 7, 3) := by decide +kernel
theorem dX10_finds_53 : decode cX10_finds 53 = .ok (.aload_n 0, 1) := by decide +kernel
theorem dX10_finds_54 : decode cX10_finds 54 = .ok (.invokevirtual 220, 3) := by decide +kernel
theorem dX10_finds_57 : decode cX10_finds 57 = .ok (.aload_n 0, 1) := by decide +kernel
theorem dX10_finds_58 : decode cX10_finds 58 = .ok (.aload_n 0, 1) := by decide +kernel
theorem dX10_finds_59 : decode cX10_finds 59 = .ok (.getfield 7, 3) := by decide +kernel
theorem dX10_finds_62 : decode cX10_finds 62 = .ok (.iconst 1, 1) := by decide +kernel
theorem dX10_finds_63 : decode cX10_finds 63 = .ok (.iaload, 1) := by decide +kernel
theorem dX10_finds_64 : decode cX10_finds 64 = .ok (.iconst 1, 1) := by decide +kernel
theorem dX10_finds_65 : decode cX10_finds 65 = .ok (.iadd, 1) := by decide +kernel
theorem dX10_finds_66 : decode cX10_finds 66 = .ok (.aload_n 0, 1) := by decide +kernel
theorem dX10_finds_67 : decode cX10_finds 67 = .ok (.getfield 7, 3) := by decide +kernel
theorem dX10_finds_70 : decode cX10_finds 70 = .ok (.iconst 0, 1) := by decide +kernel
theorem dX10_finds_71 : decode cX10_finds 71 = .ok (.iaload, 1) := by decide +kernel
theorem dX10_finds_72 : decode cX10_finds 72 = .ok (.iadd, 1) := by decide +kernel
theorem dX10_finds_73 : decode cX10_finds 73 = .ok (.invokevirtual 223, 3) := by decide +kernel
theorem dX10_finds_76 : decode cX10_finds 76 = .ok (.istore_n 2, 1) := by decide +kernel
theorem dX10_finds_77 : decode cX10_finds 77 = .ok (.goto (-41), 3) := by decide +kernel
theorem dX10_finds_80 : decode cX10_finds 80 = .ok (.return_, 1) := by decide +kernel
theorem dX10_cost_0 : decode cX10_cost 0 = .ok (.aload_n 0, 1) := by decide +kernel
theorem dX10_cost_1 : decode cX10_cost 1 = .ok (.iconst 0, 1) := by decide +kernel
theorem dX10_cost_2 : decode cX10_cost 2 = .ok (.putfield 65, 3) := by decide +kernel
theorem dX10_cost_5 : decode cX10_cost 5 = .ok (.aload_n 0, 1) := by decide +kernel
theorem dX10_cost_6 : decode cX10_cost 6 = .ok (.iconst (-1), 1) := by decide +kernel
theorem dX10_cost_7 : decode cX10_cost 7 = .ok (.invokevirtual 226, 3) := by decide +kernel
theorem dX10_cost_10 : decode cX10_cost 10 = .ok (.aload_n 0, 1) := by decide +kernel
theorem dX10_cost_11 : decode cX10_cost 11 = .ok (.getfield 204, 3) := by decide +kernel
theorem dX10_cost_14 : decode cX10_cost 14 = .ok (.aload_n 0, 1) := by decide +kernel
theorem dX10_cost_15 : decode cX10_cost 15 = .ok (.getfield 207, 3) := by decide +kernel
theorem dX10_cost_18 : decode cX10_cost 18 = .ok (.iload_n 1, 1) := by decide +kernel
theorem dX10_cost_19 : decode cX10_cost 19 = .ok (.invokestatic 229, 3) := by decide +kernel
theorem dX10_cost_22 : decode cX10_cost 22 = .ok (.lreturn, 1) := by decide +kernel
theorem dX10_part_0 : decode cX10_part 0 = .ok (.aload_n 0, 1) := by decide +kernel
theorem dX10_part_1 : decode cX10_part 1 = .ok (.iconst 0, 1) := by decide +kernel
theorem dX10_part_2 : decode cX10_part 2 = .ok (.putfield 65, 3) := by decide +kernel
theorem dX10_part_5 : decode cX10_part 5 = .ok (.iload_n 1, 1) := by decide +kernel
theorem dX10_part_6 : decode cX10_part 6 = .ok (.iconst 0, 1) := by decide +kernel
theorem dX10_part_7 : decode cX10_part 7 = .ok (.aload_n 0, 1) := by decide +kernel
theorem dX10_part_8 : decode cX10_part 8 = .ok (.getfield 7, 3) := by decide +kernel
theorem dX10_part_11 : decode cX10_part 11 = .ok (.iconst 1, 1) := by decide +kernel
theorem dX10_part_12 : decode cX10_part 12 = .ok (.iaload, 1) := by decide +kernel
theorem dX10_part_13 : decode cX10_part 13 = .ok (.iconst 1, 1) := by decide +kernel
theorem dX10_part_14 : decode cX10_part 14 = .ok (.isub, 1) := by decide +kernel
theorem dX10_part_15 : decode cX10_part 15 = .ok (.invokestatic 69, 3) := by decide +kernel
theorem dX10_part_18 : decode cX10_part 18 = .ok (.ifCond .ne 7, 3) := by decide +kernel
theorem dX10_part_21 : decode cX10_part 21 = .ok (.ldc2_w 135, 3) := by decide +kernel
theorem dX10_part_24 : decode cX10_part 24 = .ok (.lreturn, 1) := by decide +kernel
theorem dX10_part_25 : decode cX10_part 25 = .ok (.aload_n 0, 1) := by decide +kernel
theorem dX10_part_26 : decode cX10_part 26 = .ok (.iconst (-1), 1) := by decide +kernel
theorem dX10_part_27 : decode cX10_part 27 = .ok (.invokevirtual 226, 3) := by decide +kernel
theorem dX10_part_30 : decode cX10_part 30 = .ok (.aload_n 0, 1) := by decide +kernel
theorem dX10_part_31 : decode cX10_part 31 = .ok (.getfield 38, 3) := by decide +kernel
theorem dX10_part_34 : decode cX10_part 34 = .ok (.iload_n 1, 1) := by decide +kernel
theorem dX10_part_35 : decode cX10_part 35 = .ok (.laload, 1) := by decide +kernel
theorem dX10_part_36 : decode cX10_part 36 = .ok (.aload_n 0, 1) := by decide +kernel
theorem dX10_part_37 : decode cX10_part 37 = .ok (.getfield 207, 3) := by decide +kernel
theorem dX10_part_40 : decode cX10_part 40 = .ok (.iload_n 2, 1) := by decide +kernel
theorem dX10_part_41 : decode cX10_part 41 = .ok (.invokestatic 229, 3) := by decide +kernel
theorem dX10_part_44 : decode cX10_part 44 = .ok (.lreturn, 1) := by decide +kernel
theorem dX10_surplus_0 : decode cX10_surplus 0 = .ok (.aload_n 0, 1) := by decide +kernel
theorem dX10_surplus_1 : decode cX10_surplus 1 = .ok (.iconst 0, 1) := by decide +kernel
theorem dX10_surplus_2 : decode cX10_surplus 2 = .ok (.putfield 65, 3) := by decide +kernel
theorem dX10_surplus_5 : decode cX10_surplus 5 = .ok (.iload_n 1, 1) := by decide +kernel
theorem dX10_surplus_6 : decode cX10_surplus 6 = .ok (.iconst 0, 1) := by decide +kernel
theorem dX10_surplus_7 : decode cX10_surplus 7 = .ok (.aload_n 0, 1) := by decide +kernel
theorem dX10_surplus_8 : decode cX10_surplus 8 = .ok (.getfield 7, 3) := by decide +kernel
theorem dX10_surplus_11 : decode cX10_surplus 11 = .ok (.iconst 0, 1) := by decide +kernel
theorem dX10_surplus_12 : decode cX10_surplus 12 = .ok (.iaload, 1) := by decide +kernel
theorem dX10_surplus_13 : decode cX10_surplus 13 = .ok (.invokestatic 69, 3) := by decide +kernel
theorem dX10_surplus_16 : decode cX10_surplus 16 = .ok (.ifCond .ne 7, 3) := by decide +kernel
theorem dX10_surplus_19 : decode cX10_surplus 19 = .ok (.ldc2_w 135, 3) := by decide +kernel
theorem dX10_surplus_22 : decode cX10_surplus 22 = .ok (.lreturn, 1) := by decide +kernel
theorem dX10_surplus_23 : decode cX10_surplus 23 = .ok (.aload_n 0, 1) := by decide +kernel
theorem dX10_surplus_24 : decode cX10_surplus 24 = .ok (.iconst (-1), 1) := by decide +kernel
theorem dX10_surplus_25 : decode cX10_surplus 25 = .ok (.invokevirtual 226, 3) := by decide +kernel
theorem dX10_surplus_28 : decode cX10_surplus 28 = .ok (.aload_n 0, 1) := by decide +kernel
theorem dX10_surplus_29 : decode cX10_surplus 29 = .ok (.getfield 38, 3) := by decide +kernel
theorem dX10_surplus_32 : decode cX10_surplus 32 = .ok (.aload_n 0, 1) := by decide +kernel
theorem dX10_surplus_33 : decode cX10_surplus 33 = .ok (.getfield 7, 3) := by decide +kernel
theorem dX10_surplus_36 : decode cX10_surplus 36 = .ok (.iconst 1, 1) := by decide +kernel
theorem dX10_surplus_37 : decode cX10_surplus 37 = .ok (.iaload, 1) := by decide +kernel
theorem dX10_surplus_38 : decode cX10_surplus 38 = .ok (.iload_n 1, 1) := by decide +kernel
theorem dX10_surplus_39 : decode cX10_surplus 39 = .ok (.iadd, 1) := by decide +kernel
theorem dX10_surplus_40 : decode cX10_surplus 40 = .ok (.laload, 1) := by decide +kernel
theorem dX10_surplus_41 : decode cX10_surplus 41 = .ok (.aload_n 0, 1) := by decide +kernel
theorem dX10_surplus_42 : decode cX10_surplus 42 = .ok (.getfield 207, 3) := by decide +kernel
theorem dX10_surplus_45 : decode cX10_surplus 45 = .ok (.iload_n 2, 1) := by decide +kernel
theorem dX10_surplus_46 : decode cX10_surplus 46 = .ok (.invokestatic 229, 3) := by decide +kernel
theorem dX10_surplus_49 : decode cX10_surplus 49 = .ok (.lreturn, 1) := by decide +kernel
theorem dX10_without_0 : decode cX10_without 0 = .ok (.aload_n 0, 1) := by decide +kernel
theorem dX10_without_1 : decode cX10_without 1 = .ok (.iconst 0, 1) := by decide +kernel
theorem dX10_without_2 : decode cX10_without 2 = .ok (.putfield 65, 3) := by decide +kernel
theorem dX10_without_5 : decode cX10_without 5 = .ok (.iload_n 1, 1) := by decide +kernel
theorem dX10_without_6 : decode cX10_without 6 = .ok (.iconst 0, 1) := by decide +kernel
theorem dX10_without_7 : decode cX10_without 7 = .ok (.aload_n 0, 1) := by decide +kernel
theorem dX10_without_8 : decode cX10_without 8 = .ok (.getfield 7, 3) := by decide +kernel
theorem dX10_without_11 : decode cX10_without 11 = .ok (.iconst 1, 1) := by decide +kernel
theorem dX10_without_12 : decode cX10_without 12 = .ok (.iaload, 1) := by decide +kernel
theorem dX10_without_13 : decode cX10_without 13 = .ok (.iconst 1, 1) := by decide +kernel
theorem dX10_without_14 : decode cX10_without 14 = .ok (.isub, 1) := by decide +kernel
theorem dX10_without_15 : decode cX10_without 15 = .ok (.invokestatic 69, 3) := by decide +kernel
theorem dX10_without_18 : decode cX10_without 18 = .ok (.ifCond .ne 7, 3) := by decide +kernel
theorem dX10_without_21 : decode cX10_without 21 = .ok (.ldc2_w 135, 3) := by decide +kernel
theorem dX10_without_24 : decode cX10_without 24 = .ok (.lreturn, 1) := by decide +kernel
theorem dX10_without_25 : decode cX10_without 25 = .ok (.aload_n 0, 1) := by decide +kernel
theorem dX10_without_26 : decode cX10_without 26 = .ok (.iload_n 1, 1) := by decide +kernel
theorem dX10_without_27 : decode cX10_without 27 = .ok (.invokevirtual 226, 3) := by decide +kernel
theorem dX10_without_30 : decode cX10_without 30 = .ok (.aload_n 0, 1) := by decide +kernel
theorem dX10_without_31 : decode cX10_without 31 = .ok (.getfield 204, 3) := by decide +kernel
theorem dX10_without_34 : decode cX10_without 34 = .ok (.aload_n 0, 1) := by decide +kernel
theorem dX10_without_35 : decode cX10_without 35 = .ok (.getfield 207, 3) := by decide +kernel
theorem dX10_without_38 : decode cX10_without 38 = .ok (.iload_n 2, 1) := by decide +kernel
theorem dX10_without_39 : decode cX10_without 39 = .ok (.invokestatic 229, 3) := by decide +kernel
theorem dX10_without_42 : decode cX10_without 42 = .ok (.lreturn, 1) := by decide +kernel
theorem dX10_laysBounds_0 : decode cX10_laysBounds 0 = .ok (.aload_n 0, 1) := by decide +kernel
theorem dX10_laysBounds_1 : decode cX10_laysBounds 1 = .ok (.getfield 7, 3) := by decide +kernel
theorem dX10_laysBounds_4 : decode cX10_laysBounds 4 = .ok (.iconst 0, 1) := by decide +kernel
theorem dX10_laysBounds_5 : decode cX10_laysBounds 5 = .ok (.iaload, 1) := by decide +kernel
theorem dX10_laysBounds_6 : decode cX10_laysBounds 6 = .ok (.istore_n 1, 1) := by decide +kernel
theorem dX10_laysBounds_7 : decode cX10_laysBounds 7 = .ok (.aload_n 0, 1) := by decide +kernel
theorem dX10_laysBounds_8 : decode cX10_laysBounds 8 = .ok (.getfield 7, 3) := by decide +kernel
theorem dX10_laysBounds_11 : decode cX10_laysBounds 11 = .ok (.iconst 1, 1) := by decide +kernel
theorem dX10_laysBounds_12 : decode cX10_laysBounds 12 = .ok (.iaload, 1) := by decide +kernel
theorem dX10_laysBounds_13 : decode cX10_laysBounds 13 = .ok (.istore_n 2, 1) := by decide +kernel
theorem dX10_laysBounds_14 : decode cX10_laysBounds 14 = .ok (.iconst 0, 1) := by decide +kernel
theorem dX10_laysBounds_15 : decode cX10_laysBounds 15 = .ok (.istore_n 3, 1) := by decide +kernel
theorem dX10_laysBounds_16 : decode cX10_laysBounds 16 = .ok (.iload_n 3, 1) := by decide +kernel
theorem dX10_laysBounds_17 : decode cX10_laysBounds 17 = .ok (.bipush 40, 2) := by decide +kernel
theorem dX10_laysBounds_19 : decode cX10_laysBounds 19 = .ok (.if_icmp .ge 16, 3) := by decide +kernel
theorem dX10_laysBounds_22 : decode cX10_laysBounds 22 = .ok (.aload_n 0, 1) := by decide +kernel
theorem dX10_laysBounds_23 : decode cX10_laysBounds 23 = .ok (.getfield 44, 3) := by decide +kernel
theorem dX10_laysBounds_26 : decode cX10_laysBounds 26 = .ok (.iload_n 3, 1) := by decide +kernel
theorem dX10_laysBounds_27 : decode cX10_laysBounds 27 = .ok (.lconst 0, 1) := by decide +kernel
theorem dX10_laysBounds_28 : decode cX10_laysBounds 28 = .ok (.lastore, 1) := by decide +kernel
theorem dX10_laysBounds_29 : decode cX10_laysBounds 29 = .ok (.iinc 3 1, 3) := by decide +kernel
theorem dX10_laysBounds_32 : decode cX10_laysBounds 32 = .ok (.goto (-16), 3) := by decide +kernel
theorem dX10_laysBounds_35 : decode cX10_laysBounds 35 = .ok (.iconst 0, 1) := by decide +kernel
theorem dX10_laysBounds_36 : decode cX10_laysBounds 36 = .ok (.istore_n 3, 1) := by decide +kernel
theorem dX10_laysBounds_37 : decode cX10_laysBounds 37 = .ok (.iload_n 3, 1) := by decide +kernel
theorem dX10_laysBounds_38 : decode cX10_laysBounds 38 = .ok (.bipush 10, 2) := by decide +kernel
theorem dX10_laysBounds_40 : decode cX10_laysBounds 40 = .ok (.if_icmp .ge 16, 3) := by decide +kernel
theorem dX10_laysBounds_43 : decode cX10_laysBounds 43 = .ok (.aload_n 0, 1) := by decide +kernel
theorem dX10_laysBounds_44 : decode cX10_laysBounds 44 = .ok (.getfield 47, 3) := by decide +kernel
theorem dX10_laysBounds_47 : decode cX10_laysBounds 47 = .ok (.iload_n 3, 1) := by decide +kernel
theorem dX10_laysBounds_48 : decode cX10_laysBounds 48 = .ok (.lconst 0, 1) := by decide +kernel
theorem dX10_laysBounds_49 : decode cX10_laysBounds 49 = .ok (.lastore, 1) := by decide +kernel
theorem dX10_laysBounds_50 : decode cX10_laysBounds 50 = .ok (.iinc 3 1, 3) := by decide +kernel
theorem dX10_laysBounds_53 : decode cX10_laysBounds 53 = .ok (.goto (-16), 3) := by decide +kernel
theorem dX10_laysBounds_56 : decode cX10_laysBounds 56 = .ok (.iconst 0, 1) := by decide +kernel
theorem dX10_laysBounds_57 : decode cX10_laysBounds 57 = .ok (.istore_n 3, 1) := by decide +kernel
theorem dX10_laysBounds_58 : decode cX10_laysBounds 58 = .ok (.iload_n 3, 1) := by decide +kernel
theorem dX10_laysBounds_59 : decode cX10_laysBounds 59 = .ok (.iload_n 2, 1) := by decide +kernel
theorem dX10_laysBounds_60 : decode cX10_laysBounds 60 = .ok (.if_icmp .ge 61, 3) := by decide +kernel
theorem dX10_laysBounds_63 : decode cX10_laysBounds 63 = .ok (.iconst 1, 1) := by decide +kernel
theorem dX10_laysBounds_64 : decode cX10_laysBounds 64 = .ok (.istore 4, 2) := by decide +kernel
theorem dX10_laysBounds_66 : decode cX10_laysBounds 66 = .ok (.iload 4, 2) := by decide +kernel
theorem dX10_laysBounds_68 : decode cX10_laysBounds 68 = .ok (.iload_n 1, 1) := by decide +kernel
theorem dX10_laysBounds_69 : decode cX10_laysBounds 69 = .ok (.if_icmp .gt 30, 3) := by decide +kernel
theorem dX10_laysBounds_72 : decode cX10_laysBounds 72 = .ok (.aload_n 0, 1) := by decide +kernel
theorem dX10_laysBounds_73 : decode cX10_laysBounds 73 = .ok (.getfield 44, 3) := by decide +kernel
theorem dX10_laysBounds_76 : decode cX10_laysBounds 76 = .ok (.iconst 4, 1) := by decide +kernel
theorem dX10_laysBounds_77 : decode cX10_laysBounds 77 = .ok (.iload_n 3, 1) := by decide +kernel
theorem dX10_laysBounds_78 : decode cX10_laysBounds 78 = .ok (.imul, 1) := by decide +kernel
theorem dX10_laysBounds_79 : decode cX10_laysBounds 79 = .ok (.iload 4, 2) := by decide +kernel
theorem dX10_laysBounds_81 : decode cX10_laysBounds 81 = .ok (.iadd, 1) := by decide +kernel
theorem dX10_laysBounds_82 : decode cX10_laysBounds 82 = .ok (.iconst 1, 1) := by decide +kernel
theorem dX10_laysBounds_83 : decode cX10_laysBounds 83 = .ok (.isub, 1) := by decide +kernel
theorem dX10_laysBounds_84 : decode cX10_laysBounds 84 = .ok (.aload_n 0, 1) := by decide +kernel
theorem dX10_laysBounds_85 : decode cX10_laysBounds 85 = .ok (.iload_n 3, 1) := by decide +kernel
theorem dX10_laysBounds_86 : decode cX10_laysBounds 86 = .ok (.iload 4, 2) := by decide +kernel
theorem dX10_laysBounds_88 : decode cX10_laysBounds 88 = .ok (.invokevirtual 167, 3) := by decide +kernel
theorem dX10_laysBounds_91 : decode cX10_laysBounds 91 = .ok (.i2l, 1) := by decide +kernel
theorem dX10_laysBounds_92 : decode cX10_laysBounds 92 = .ok (.lastore, 1) := by decide +kernel
theorem dX10_laysBounds_93 : decode cX10_laysBounds 93 = .ok (.iinc 4 1, 3) := by decide +kernel
theorem dX10_laysBounds_96 : decode cX10_laysBounds 96 = .ok (.goto (-30), 3) := by decide +kernel
theorem dX10_laysBounds_99 : decode cX10_laysBounds 99 = .ok (.aload_n 0, 1) := by decide +kernel
theorem dX10_laysBounds_100 : decode cX10_laysBounds 100 = .ok (.getfield 47, 3) := by decide +kernel
theorem dX10_laysBounds_103 : decode cX10_laysBounds 103 = .ok (.iload_n 3, 1) := by decide +kernel
theorem dX10_laysBounds_104 : decode cX10_laysBounds 104 = .ok (.aload_n 0, 1) := by decide +kernel
theorem dX10_laysBounds_105 : decode cX10_laysBounds 105 = .ok (.getfield 7, 3) := by decide +kernel
theorem dX10_laysBounds_108 : decode cX10_laysBounds 108 = .ok (.bipush 27, 2) := by decide +kernel
theorem dX10_laysBounds_110 : decode cX10_laysBounds 110 = .ok (.iload_n 3, 1) := by decide +kernel
theorem dX10_laysBounds_111 : decode cX10_laysBounds 111 = .ok (.iadd, 1) := by decide +kernel
theorem dX10_laysBounds_112 : decode cX10_laysBounds 112 = .ok (.iaload, 1) := by decide +kernel
theorem dX10_laysBounds_113 : decode cX10_laysBounds 113 = .ok (.i2l, 1) := by decide +kernel
theorem dX10_laysBounds_114 : decode cX10_laysBounds 114 = .ok (.lastore, 1) := by decide +kernel
theorem dX10_laysBounds_115 : decode cX10_laysBounds 115 = .ok (.iinc 3 1, 3) := by decide +kernel
theorem dX10_laysBounds_118 : decode cX10_laysBounds 118 = .ok (.goto (-60), 3) := by decide +kernel
theorem dX10_laysBounds_121 : decode cX10_laysBounds 121 = .ok (.iconst 1, 1) := by decide +kernel
theorem dX10_laysBounds_122 : decode cX10_laysBounds 122 = .ok (.istore_n 3, 1) := by decide +kernel
theorem dX10_laysBounds_123 : decode cX10_laysBounds 123 = .ok (.iload_n 3, 1) := by decide +kernel
theorem dX10_laysBounds_124 : decode cX10_laysBounds 124 = .ok (.iload_n 1, 1) := by decide +kernel
theorem dX10_laysBounds_125 : decode cX10_laysBounds 125 = .ok (.if_icmp .ge 58, 3) := by decide +kernel
theorem dX10_laysBounds_128 : decode cX10_laysBounds 128 = .ok (.aload_n 0, 1) := by decide +kernel
theorem dX10_laysBounds_129 : decode cX10_laysBounds 129 = .ok (.getfield 44, 3) := by decide +kernel
theorem dX10_laysBounds_132 : decode cX10_laysBounds 132 = .ok (.iconst 4, 1) := by decide +kernel
theorem dX10_laysBounds_133 : decode cX10_laysBounds 133 = .ok (.iload_n 2, 1) := by decide +kernel
theorem dX10_laysBounds_134 : decode cX10_laysBounds 134 = .ok (.iload_n 3, 1) := by decide +kernel
theorem dX10_laysBounds_135 : decode cX10_laysBounds 135 = .ok (.iadd, 1) := by decide +kernel
theorem dX10_laysBounds_136 : decode cX10_laysBounds 136 = .ok (.iconst 1, 1) := by decide +kernel
theorem dX10_laysBounds_137 : decode cX10_laysBounds 137 = .ok (.isub, 1) := by decide +kernel
theorem dX10_laysBounds_138 : decode cX10_laysBounds 138 = .ok (.imul, 1) := by decide +kernel
theorem dX10_laysBounds_139 : decode cX10_laysBounds 139 = .ok (.iload_n 3, 1) := by decide +kernel
theorem dX10_laysBounds_140 : decode cX10_laysBounds 140 = .ok (.iadd, 1) := by decide +kernel
theorem dX10_laysBounds_141 : decode cX10_laysBounds 141 = .ok (.iconst 1, 1) := by decide +kernel
theorem dX10_laysBounds_142 : decode cX10_laysBounds 142 = .ok (.isub, 1) := by decide +kernel
theorem dX10_laysBounds_143 : decode cX10_laysBounds 143 = .ok (.ldc2_w 191, 3) := by decide +kernel
theorem dX10_laysBounds_146 : decode cX10_laysBounds 146 = .ok (.lastore, 1) := by decide +kernel
theorem dX10_laysBounds_147 : decode cX10_laysBounds 147 = .ok (.aload_n 0, 1) := by decide +kernel
theorem dX10_laysBounds_148 : decode cX10_laysBounds 148 = .ok (.getfield 44, 3) := by decide +kernel
theorem dX10_laysBounds_151 : decode cX10_laysBounds 151 = .ok (.iconst 4, 1) := by decide +kernel
theorem dX10_laysBounds_152 : decode cX10_laysBounds 152 = .ok (.iload_n 2, 1) := by decide +kernel
theorem dX10_laysBounds_153 : decode cX10_laysBounds 153 = .ok (.iload_n 3, 1) := by decide +kernel
theorem dX10_laysBounds_154 : decode cX10_laysBounds 154 = .ok (.iadd, 1) := by decide +kernel
theorem dX10_laysBounds_155 : decode cX10_laysBounds 155 = .ok (.iconst 1, 1) := by decide +kernel
theorem dX10_laysBounds_156 : decode cX10_laysBounds 156 = .ok (.isub, 1) := by decide +kernel
theorem dX10_laysBounds_157 : decode cX10_laysBounds 157 = .ok (.imul, 1) := by decide +kernel
theorem dX10_laysBounds_158 : decode cX10_laysBounds 158 = .ok (.iload_n 3, 1) := by decide +kernel
theorem dX10_laysBounds_159 : decode cX10_laysBounds 159 = .ok (.iadd, 1) := by decide +kernel
theorem dX10_laysBounds_160 : decode cX10_laysBounds 160 = .ok (.ldc2_w 189, 3) := by decide +kernel
theorem dX10_laysBounds_163 : decode cX10_laysBounds 163 = .ok (.aload_n 0, 1) := by decide +kernel
theorem dX10_laysBounds_164 : decode cX10_laysBounds 164 = .ok (.getfield 7, 3) := by decide +kernel
theorem dX10_laysBounds_167 : decode cX10_laysBounds 167 = .ok (.bipush 7, 2) := by decide +kernel
theorem dX10_laysBounds_169 : decode cX10_laysBounds 169 = .ok (.iload_n 3, 1) := by decide +kernel
theorem dX10_laysBounds_170 : decode cX10_laysBounds 170 = .ok (.iadd, 1) := by decide +kernel
theorem dX10_laysBounds_171 : decode cX10_laysBounds 171 = .ok (.iconst 1, 1) := by decide +kernel
theorem dX10_laysBounds_172 : decode cX10_laysBounds 172 = .ok (.iadd, 1) := by decide +kernel
theorem dX10_laysBounds_173 : decode cX10_laysBounds 173 = .ok (.iaload, 1) := by decide +kernel
theorem dX10_laysBounds_174 : decode cX10_laysBounds 174 = .ok (.i2l, 1) := by decide +kernel
theorem dX10_laysBounds_175 : decode cX10_laysBounds 175 = .ok (.ladd, 1) := by decide +kernel
theorem dX10_laysBounds_176 : decode cX10_laysBounds 176 = .ok (.lastore, 1) := by decide +kernel
theorem dX10_laysBounds_177 : decode cX10_laysBounds 177 = .ok (.iinc 3 1, 3) := by decide +kernel
theorem dX10_laysBounds_180 : decode cX10_laysBounds 180 = .ok (.goto (-57), 3) := by decide +kernel
theorem dX10_laysBounds_183 : decode cX10_laysBounds 183 = .ok (.aload_n 0, 1) := by decide +kernel
theorem dX10_laysBounds_184 : decode cX10_laysBounds 184 = .ok (.getfield 44, 3) := by decide +kernel
theorem dX10_laysBounds_187 : decode cX10_laysBounds 187 = .ok (.iconst 4, 1) := by decide +kernel
theorem dX10_laysBounds_188 : decode cX10_laysBounds 188 = .ok (.iload_n 2, 1) := by decide +kernel
theorem dX10_laysBounds_189 : decode cX10_laysBounds 189 = .ok (.iload_n 1, 1) := by decide +kernel
theorem dX10_laysBounds_190 : decode cX10_laysBounds 190 = .ok (.iadd, 1) := by decide +kernel
theorem dX10_laysBounds_191 : decode cX10_laysBounds 191 = .ok (.iconst 1, 1) := by decide +kernel
theorem dX10_laysBounds_192 : decode cX10_laysBounds 192 = .ok (.isub, 1) := by decide +kernel
theorem dX10_laysBounds_193 : decode cX10_laysBounds 193 = .ok (.imul, 1) := by decide +kernel
theorem dX10_laysBounds_194 : decode cX10_laysBounds 194 = .ok (.iload_n 1, 1) := by decide +kernel
theorem dX10_laysBounds_195 : decode cX10_laysBounds 195 = .ok (.iadd, 1) := by decide +kernel
theorem dX10_laysBounds_196 : decode cX10_laysBounds 196 = .ok (.iconst 1, 1) := by decide +kernel
theorem dX10_laysBounds_197 : decode cX10_laysBounds 197 = .ok (.isub, 1) := by decide +kernel
theorem dX10_laysBounds_198 : decode cX10_laysBounds 198 = .ok (.ldc2_w 135, 3) := by decide +kernel
theorem dX10_laysBounds_201 : decode cX10_laysBounds 201 = .ok (.lastore, 1) := by decide +kernel
theorem dX10_laysBounds_202 : decode cX10_laysBounds 202 = .ok (.aload_n 0, 1) := by decide +kernel
theorem dX10_laysBounds_203 : decode cX10_laysBounds 203 = .ok (.getfield 44, 3) := by decide +kernel
theorem dX10_laysBounds_206 : decode cX10_laysBounds 206 = .ok (.iconst 4, 1) := by decide +kernel
theorem dX10_laysBounds_207 : decode cX10_laysBounds 207 = .ok (.iload_n 2, 1) := by decide +kernel
theorem dX10_laysBounds_208 : decode cX10_laysBounds 208 = .ok (.iload_n 1, 1) := by decide +kernel
theorem dX10_laysBounds_209 : decode cX10_laysBounds 209 = .ok (.iadd, 1) := by decide +kernel
theorem dX10_laysBounds_210 : decode cX10_laysBounds 210 = .ok (.imul, 1) := by decide +kernel
theorem dX10_laysBounds_211 : decode cX10_laysBounds 211 = .ok (.ldc2_w 189, 3) := by decide +kernel
theorem dX10_laysBounds_214 : decode cX10_laysBounds 214 = .ok (.aload_n 0, 1) := by decide +kernel
theorem dX10_laysBounds_215 : decode cX10_laysBounds 215 = .ok (.getfield 7, 3) := by decide +kernel
theorem dX10_laysBounds_218 : decode cX10_laysBounds 218 = .ok (.bipush 8, 2) := by decide +kernel
theorem dX10_laysBounds_220 : decode cX10_laysBounds 220 = .ok (.iaload, 1) := by decide +kernel
theorem dX10_laysBounds_221 : decode cX10_laysBounds 221 = .ok (.i2l, 1) := by decide +kernel
theorem dX10_laysBounds_222 : decode cX10_laysBounds 222 = .ok (.ladd, 1) := by decide +kernel
theorem dX10_laysBounds_223 : decode cX10_laysBounds 223 = .ok (.lastore, 1) := by decide +kernel
theorem dX10_laysBounds_224 : decode cX10_laysBounds 224 = .ok (.aload_n 0, 1) := by decide +kernel
theorem dX10_laysBounds_225 : decode cX10_laysBounds 225 = .ok (.getfield 47, 3) := by decide +kernel
theorem dX10_laysBounds_228 : decode cX10_laysBounds 228 = .ok (.iload_n 2, 1) := by decide +kernel
theorem dX10_laysBounds_229 : decode cX10_laysBounds 229 = .ok (.iload_n 1, 1) := by decide +kernel
theorem dX10_laysBounds_230 : decode cX10_laysBounds 230 = .ok (.iadd, 1) := by decide +kernel
theorem dX10_laysBounds_231 : decode cX10_laysBounds 231 = .ok (.ldc2_w 189, 3) := by decide +kernel
theorem dX10_laysBounds_234 : decode cX10_laysBounds 234 = .ok (.lastore, 1) := by decide +kernel
theorem dX10_laysBounds_235 : decode cX10_laysBounds 235 = .ok (.return_, 1) := by decide +kernel
theorem dX10_solvesBounds_0 : decode cX10_solvesBounds 0 = .ok (.aload_n 0, 1) := by decide +kernel
theorem dX10_solvesBounds_1 : decode cX10_solvesBounds 1 = .ok (.getfield 7, 3) := by decide +kernel
theorem dX10_solvesBounds_4 : decode cX10_solvesBounds 4 = .ok (.iconst 0, 1) := by decide +kernel
theorem dX10_solvesBounds_5 : decode cX10_solvesBounds 5 = .ok (.iaload, 1) := by decide +kernel
theorem dX10_solvesBounds_6 : decode cX10_solvesBounds 6 = .ok (.istore_n 1, 1) := by decide +kernel
theorem dX10_solvesBounds_7 : decode cX10_solvesBounds 7 = .ok (.iconst 0, 1) := by decide +kernel
theorem dX10_solvesBounds_8 : decode cX10_solvesBounds 8 = .ok (.istore_n 2, 1) := by decide +kernel
theorem dX10_solvesBounds_9 : decode cX10_solvesBounds 9 = .ok (.iload_n 2, 1) := by decide +kernel
theorem dX10_solvesBounds_10 : decode cX10_solvesBounds 10 = .ok (.iload_n 1, 1) := by decide +kernel
theorem dX10_solvesBounds_11 : decode cX10_solvesBounds 11 = .ok (.if_icmp .ge 56, 3) := by decide +kernel
theorem dX10_solvesBounds_14 : decode cX10_solvesBounds 14 = .ok (.iconst 0, 1) := by decide +kernel
theorem dX10_solvesBounds_15 : decode cX10_solvesBounds 15 = .ok (.istore_n 3, 1) := by decide +kernel
theorem dX10_solvesBounds_16 : decode cX10_solvesBounds 16 = .ok (.iload_n 3, 1) := by decide +kernel
theorem dX10_solvesBounds_17 : decode cX10_solvesBounds 17 = .ok (.iconst 4, 1) := by decide +kernel
theorem dX10_solvesBounds_18 : decode cX10_solvesBounds 18 = .ok (.if_icmp .ge 43, 3) := by decide +kernel
theorem dX10_solvesBounds_21 : decode cX10_solvesBounds 21 = .ok (.aload_n 0, 1) := by decide +kernel
theorem dX10_solvesBounds_22 : decode cX10_solvesBounds 22 = .ok (.getfield 26, 3) := by decide +kernel
theorem dX10_solvesBounds_25 : decode cX10_solvesBounds 25 = .ok (.iconst 4, 1) := by decide +kernel
theorem dX10_solvesBounds_26 : decode cX10_solvesBounds 26 = .ok (.iload_n 2, 1) := by decide +kernel
theorem dX10_solvesBounds_27 : decode cX10_solvesBounds 27 = .ok (.imul, 1) := by decide +kernel
theorem dX10_solvesBounds_28 : decode cX10_solvesBounds 28 = .ok (.iload_n 3, 1) := by decide +kernel
theorem dX10_solvesBounds_29 : decode cX10_solvesBounds 29 = .ok (.iadd, 1) := by decide +kernel
theorem dX10_solvesBounds_30 : decode cX10_solvesBounds 30 = .ok (.iload_n 3, 1) := by decide +kernel
theorem dX10_solvesBounds_31 : decode cX10_solvesBounds 31 = .ok (.iload_n 1, 1) := by decide +kernel
theorem dX10_solvesBounds_32 : decode cX10_solvesBounds 32 = .ok (.if_icmp .ge 21, 3) := by decide +kernel
theorem dX10_solvesBounds_35 : decode cX10_solvesBounds 35 = .ok (.aload_n 0, 1) := by decide +kernel
theorem dX10_solvesBounds_36 : decode cX10_solvesBounds 36 = .ok (.getfield 44, 3) := by decide +kernel
theorem dX10_solvesBounds_39 : decode cX10_solvesBounds 39 = .ok (.iconst 4, 1) := by decide +kernel
theorem dX10_solvesBounds_40 : decode cX10_solvesBounds 40 = .ok (.aload_n 0, 1) := by decide +kernel
theorem dX10_solvesBounds_41 : decode cX10_solvesBounds 41 = .ok (.getfield 32, 3) := by decide +kernel
theorem dX10_solvesBounds_44 : decode cX10_solvesBounds 44 = .ok (.iload_n 3, 1) := by decide +kernel
theorem dX10_solvesBounds_45 : decode cX10_solvesBounds 45 = .ok (.iaload, 1) := by decide +kernel
theorem dX10_solvesBounds_46 : decode cX10_solvesBounds 46 = .ok (.imul, 1) := by decide +kernel
theorem dX10_solvesBounds_47 : decode cX10_solvesBounds 47 = .ok (.iload_n 2, 1) := by decide +kernel
theorem dX10_solvesBounds_48 : decode cX10_solvesBounds 48 = .ok (.iadd, 1) := by decide +kernel
theorem dX10_solvesBounds_49 : decode cX10_solvesBounds 49 = .ok (.laload, 1) := by decide +kernel
theorem dX10_solvesBounds_50 : decode cX10_solvesBounds 50 = .ok (.goto 4, 3) := by decide +kernel
theorem dX10_solvesBounds_53 : decode cX10_solvesBounds 53 = .ok (.lconst 0, 1) := by decide +kernel
theorem dX10_solvesBounds_54 : decode cX10_solvesBounds 54 = .ok (.lastore, 1) := by decide +kernel
theorem dX10_solvesBounds_55 : decode cX10_solvesBounds 55 = .ok (.iinc 3 1, 3) := by decide +kernel
theorem dX10_solvesBounds_58 : decode cX10_solvesBounds 58 = .ok (.goto (-42), 3) := by decide +kernel
theorem dX10_solvesBounds_61 : decode cX10_solvesBounds 61 = .ok (.iinc 2 1, 3) := by decide +kernel
theorem dX10_solvesBounds_64 : decode cX10_solvesBounds 64 = .ok (.goto (-55), 3) := by decide +kernel
theorem dX10_solvesBounds_67 : decode cX10_solvesBounds 67 = .ok (.iconst 0, 1) := by decide +kernel
theorem dX10_solvesBounds_68 : decode cX10_solvesBounds 68 = .ok (.istore_n 2, 1) := by decide +kernel
theorem dX10_solvesBounds_69 : decode cX10_solvesBounds 69 = .ok (.iload_n 2, 1) := by decide +kernel
theorem dX10_solvesBounds_70 : decode cX10_solvesBounds 70 = .ok (.iload_n 1, 1) := by decide +kernel
theorem dX10_solvesBounds_71 : decode cX10_solvesBounds 71 = .ok (.if_icmp .ge 45, 3) := by decide +kernel
theorem dX10_solvesBounds_74 : decode cX10_solvesBounds 74 = .ok (.aload_n 0, 1) := by decide +kernel
theorem dX10_solvesBounds_75 : decode cX10_solvesBounds 75 = .ok (.getfield 29, 3) := by decide +kernel
theorem dX10_solvesBounds_78 : decode cX10_solvesBounds 78 = .ok (.iload_n 2, 1) := by decide +kernel
theorem dX10_solvesBounds_79 : decode cX10_solvesBounds 79 = .ok (.aload_n 0, 1) := by decide +kernel
theorem dX10_solvesBounds_80 : decode cX10_solvesBounds 80 = .ok (.getfield 47, 3) := by decide +kernel
theorem dX10_solvesBounds_83 : decode cX10_solvesBounds 83 = .ok (.aload_n 0, 1) := by decide +kernel
theorem dX10_solvesBounds_84 : decode cX10_solvesBounds 84 = .ok (.getfield 32, 3) := by decide +kernel
theorem dX10_solvesBounds_87 : decode cX10_solvesBounds 87 = .ok (.iload_n 2, 1) := by decide +kernel
theorem dX10_solvesBounds_88 : decode cX10_solvesBounds 88 = .ok (.iaload, 1) := by decide +kernel
theorem dX10_solvesBounds_89 : decode cX10_solvesBounds 89 = .ok (.laload, 1) := by decide +kernel
theorem dX10_solvesBounds_90 : decode cX10_solvesBounds 90 = .ok (.lastore, 1) := by decide +kernel
theorem dX10_solvesBounds_91 : decode cX10_solvesBounds 91 = .ok (.aload_n 0, 1) := by decide +kernel
theorem dX10_solvesBounds_92 : decode cX10_solvesBounds 92 = .ok (.getfield 53, 3) := by decide +kernel
theorem dX10_solvesBounds_95 : decode cX10_solvesBounds 95 = .ok (.iload_n 2, 1) := by decide +kernel
theorem dX10_solvesBounds_96 : decode cX10_solvesBounds 96 = .ok (.aload_n 0, 1) := by decide +kernel
theorem dX10_solvesBounds_97 : decode cX10_solvesBounds 97 = .ok (.getfield 32, 3) := by decide +kernel
theorem dX10_solvesBounds_100 : decode cX10_solvesBounds 100 = .ok (.iload_n 2, 1) := by decide +kernel
theorem dX10_solvesBounds_101 : decode cX10_solvesBounds 101 = .ok (.iaload, 1) := by decide +kernel
theorem dX10_solvesBounds_102 : decode cX10_solvesBounds 102 = .ok (.iastore, 1) := by decide +kernel
theorem dX10_solvesBounds_103 : decode cX10_solvesBounds 103 = .ok (.aload_n 0, 1) := by decide +kernel
theorem dX10_solvesBounds_104 : decode cX10_solvesBounds 104 = .ok (.getfield 32, 3) := by decide +kernel
theorem dX10_solvesBounds_107 : decode cX10_solvesBounds 107 = .ok (.iload_n 2, 1) := by decide +kernel
theorem dX10_solvesBounds_108 : decode cX10_solvesBounds 108 = .ok (.iload_n 2, 1) := by decide +kernel
theorem dX10_solvesBounds_109 : decode cX10_solvesBounds 109 = .ok (.iastore, 1) := by decide +kernel
theorem dX10_solvesBounds_110 : decode cX10_solvesBounds 110 = .ok (.iinc 2 1, 3) := by decide +kernel
theorem dX10_solvesBounds_113 : decode cX10_solvesBounds 113 = .ok (.goto (-44), 3) := by decide +kernel
theorem dX10_solvesBounds_116 : decode cX10_solvesBounds 116 = .ok (.aload_n 0, 1) := by decide +kernel
theorem dX10_solvesBounds_117 : decode cX10_solvesBounds 117 = .ok (.invokevirtual 193, 3) := by decide +kernel
theorem dX10_solvesBounds_120 : decode cX10_solvesBounds 120 = .ok (.istore_n 2, 1) := by decide +kernel
theorem dX10_solvesBounds_121 : decode cX10_solvesBounds 121 = .ok (.iconst 0, 1) := by decide +kernel
theorem dX10_solvesBounds_122 : decode cX10_solvesBounds 122 = .ok (.istore_n 3, 1) := by decide +kernel
theorem dX10_solvesBounds_123 : decode cX10_solvesBounds 123 = .ok (.iload_n 3, 1) := by decide +kernel
theorem dX10_solvesBounds_124 : decode cX10_solvesBounds 124 = .ok (.iload_n 1, 1) := by decide +kernel
theorem dX10_solvesBounds_125 : decode cX10_solvesBounds 125 = .ok (.if_icmp .ge 21, 3) := by decide +kernel
theorem dX10_solvesBounds_128 : decode cX10_solvesBounds 128 = .ok (.aload_n 0, 1) := by decide +kernel
theorem dX10_solvesBounds_129 : decode cX10_solvesBounds 129 = .ok (.getfield 32, 3) := by decide +kernel
theorem dX10_solvesBounds_132 : decode cX10_solvesBounds 132 = .ok (.iload_n 3, 1) := by decide +kernel
theorem dX10_solvesBounds_133 : decode cX10_solvesBounds 133 = .ok (.aload_n 0, 1) := by decide +kernel
theorem dX10_solvesBounds_134 : decode cX10_solvesBounds 134 = .ok (.getfield 53, 3) := by decide +kernel
theorem dX10_solvesBounds_137 : decode cX10_solvesBounds 137 = .ok (.iload_n 3, 1) := by decide +kernel
theorem dX10_solvesBounds_138 : decode cX10_solvesBounds 138 = .ok (.iaload, 1) := by decide +kernel
theorem dX10_solvesBounds_139 : decode cX10_solvesBounds 139 = .ok (.iastore, 1) := by decide +kernel
theorem dX10_solvesBounds_140 : decode cX10_solvesBounds 140 = .ok (.iinc 3 1, 3) := by decide +kernel
theorem dX10_solvesBounds_143 : decode cX10_solvesBounds 143 = .ok (.goto (-20), 3) := by decide +kernel
theorem dX10_solvesBounds_146 : decode cX10_solvesBounds 146 = .ok (.iload_n 2, 1) := by decide +kernel
theorem dX10_solvesBounds_147 : decode cX10_solvesBounds 147 = .ok (.ireturn, 1) := by decide +kernel
theorem dX10_areKept_0 : decode cX10_areKept 0 = .ok (.iconst 0, 1) := by decide +kernel
theorem dX10_areKept_1 : decode cX10_areKept 1 = .ok (.istore_n 1, 1) := by decide +kernel
theorem dX10_areKept_2 : decode cX10_areKept 2 = .ok (.iload_n 1, 1) := by decide +kernel
theorem dX10_areKept_3 : decode cX10_areKept 3 = .ok (.aload_n 0, 1) := by decide +kernel
theorem dX10_areKept_4 : decode cX10_areKept 4 = .ok (.getfield 7, 3) := by decide +kernel
theorem dX10_areKept_7 : decode cX10_areKept 7 = .ok (.iconst 1, 1) := by decide +kernel
theorem dX10_areKept_8 : decode cX10_areKept 8 = .ok (.iaload, 1) := by decide +kernel
theorem dX10_areKept_9 : decode cX10_areKept 9 = .ok (.aload_n 0, 1) := by decide +kernel
theorem dX10_areKept_10 : decode cX10_areKept 10 = .ok (.getfield 7, 3) := by decide +kernel
theorem dX10_areKept_13 : decode cX10_areKept 13 = .ok (.iconst 0, 1) := by decide +kernel
theorem dX10_areKept_14 : decode cX10_areKept 14 = .ok (.iaload, 1) := by decide +kernel
theorem dX10_areKept_15 : decode cX10_areKept 15 = .ok (.iadd, 1) := by decide +kernel
theorem dX10_areKept_16 : decode cX10_areKept 16 = .ok (.if_icmp .gt 71, 3) := by decide +kernel
theorem dX10_areKept_19 : decode cX10_areKept 19 = .ok (.lconst 0, 1) := by decide +kernel
theorem dX10_areKept_20 : decode cX10_areKept 20 = .ok (.lstore_n 2, 1) := by decide +kernel
theorem dX10_areKept_21 : decode cX10_areKept 21 = .ok (.iconst 0, 1) := by decide +kernel
theorem dX10_areKept_22 : decode cX10_areKept 22 = .ok (.istore 4, 2) := by decide +kernel
theorem dX10_areKept_24 : decode cX10_areKept 24 = .ok (.iload 4, 2) := by decide +kernel
theorem dX10_areKept_26 : decode cX10_areKept 26 = .ok (.aload_n 0, 1) := by decide +kernel
theorem dX10_areKept_27 : decode cX10_areKept 27 = .ok (.getfield 7, 3) := by decide +kernel
theorem dX10_areKept_30 : decode cX10_areKept 30 = .ok (.iconst 0, 1) := by decide +kernel
theorem dX10_areKept_31 : decode cX10_areKept 31 = .ok (.iaload, 1) := by decide +kernel
theorem dX10_areKept_32 : decode cX10_areKept 32 = .ok (.if_icmp .ge 31, 3) := by decide +kernel
theorem dX10_areKept_35 : decode cX10_areKept 35 = .ok (.lload_n 2, 1) := by decide +kernel
theorem dX10_areKept_36 : decode cX10_areKept 36 = .ok (.aload_n 0, 1) := by decide +kernel
theorem dX10_areKept_37 : decode cX10_areKept 37 = .ok (.getfield 44, 3) := by decide +kernel
theorem dX10_areKept_40 : decode cX10_areKept 40 = .ok (.iconst 4, 1) := by decide +kernel
theorem dX10_areKept_41 : decode cX10_areKept 41 = .ok (.iload_n 1, 1) := by decide +kernel
theorem dX10_areKept_42 : decode cX10_areKept 42 = .ok (.imul, 1) := by decide +kernel
theorem dX10_areKept_43 : decode cX10_areKept 43 = .ok (.iload 4, 2) := by decide +kernel
theorem dX10_areKept_45 : decode cX10_areKept 45 = .ok (.iadd, 1) := by decide +kernel
theorem dX10_areKept_46 : decode cX10_areKept 46 = .ok (.laload, 1) := by decide +kernel
theorem dX10_areKept_47 : decode cX10_areKept 47 = .ok (.aload_n 0, 1) := by decide +kernel
theorem dX10_areKept_48 : decode cX10_areKept 48 = .ok (.getfield 35, 3) := by decide +kernel
theorem dX10_areKept_51 : decode cX10_areKept 51 = .ok (.iload 4, 2) := by decide +kernel
theorem dX10_areKept_53 : decode cX10_areKept 53 = .ok (.laload, 1) := by decide +kernel
theorem dX10_areKept_54 : decode cX10_areKept 54 = .ok (.lmul, 1) := by decide +kernel
theorem dX10_areKept_55 : decode cX10_areKept 55 = .ok (.ladd, 1) := by decide +kernel
theorem dX10_areKept_56 : decode cX10_areKept 56 = .ok (.lstore_n 2, 1) := by decide +kernel
theorem dX10_areKept_57 : decode cX10_areKept 57 = .ok (.iinc 4 1, 3) := by decide +kernel
theorem dX10_areKept_60 : decode cX10_areKept 60 = .ok (.goto (-36), 3) := by decide +kernel
theorem dX10_areKept_63 : decode cX10_areKept 63 = .ok (.lload_n 2, 1) := by decide +kernel
theorem dX10_areKept_64 : decode cX10_areKept 64 = .ok (.aload_n 0, 1) := by decide +kernel
theorem dX10_areKept_65 : decode cX10_areKept 65 = .ok (.getfield 47, 3) := by decide +kernel
theorem dX10_areKept_68 : decode cX10_areKept 68 = .ok (.iload_n 1, 1) := by decide +kernel
theorem dX10_areKept_69 : decode cX10_areKept 69 = .ok (.laload, 1) := by decide +kernel
theorem dX10_areKept_70 : decode cX10_areKept 70 = .ok (.aload_n 0, 1) := by decide +kernel
theorem dX10_areKept_71 : decode cX10_areKept 71 = .ok (.getfield 185, 3) := by decide +kernel
theorem dX10_areKept_74 : decode cX10_areKept 74 = .ok (.lmul, 1) := by decide +kernel
theorem dX10_areKept_75 : decode cX10_areKept 75 = .ok (.lcmp, 1) := by decide +kernel
theorem dX10_areKept_76 : decode cX10_areKept 76 = .ok (.ifCond .le 5, 3) := by decide +kernel
theorem dX10_areKept_79 : decode cX10_areKept 79 = .ok (.iconst 0, 1) := by decide +kernel
theorem dX10_areKept_80 : decode cX10_areKept 80 = .ok (.ireturn, 1) := by decide +kernel
theorem dX10_areKept_81 : decode cX10_areKept 81 = .ok (.iinc 1 1, 3) := by decide +kernel
theorem dX10_areKept_84 : decode cX10_areKept 84 = .ok (.goto (-82), 3) := by decide +kernel
theorem dX10_areKept_87 : decode cX10_areKept 87 = .ok (.iconst 1, 1) := by decide +kernel
theorem dX10_areKept_88 : decode cX10_areKept 88 = .ok (.ireturn, 1) := by decide +kernel
theorem dX10_triesBounds_0 : decode cX10_triesBounds 0 = .ok (.aload_n 0, 1) := by decide +kernel
theorem dX10_triesBounds_1 : decode cX10_triesBounds 1 = .ok (.invokevirtual 233, 3) := by decide +kernel
theorem dX10_triesBounds_4 : decode cX10_triesBounds 4 = .ok (.ifCond .eq 10, 3) := by decide +kernel
theorem dX10_triesBounds_7 : decode cX10_triesBounds 7 = .ok (.aload_n 0, 1) := by decide +kernel
theorem dX10_triesBounds_8 : decode cX10_triesBounds 8 = .ok (.invokevirtual 236, 3) := by decide +kernel
theorem dX10_triesBounds_11 : decode cX10_triesBounds 11 = .ok (.ifCond .ne 4, 3) := by decide +kernel
theorem dX10_triesBounds_14 : decode cX10_triesBounds 14 = .ok (.return_, 1) := by decide +kernel
theorem dX10_triesBounds_15 : decode cX10_triesBounds 15 = .ok (.lconst 0, 1) := by decide +kernel
theorem dX10_triesBounds_16 : decode cX10_triesBounds 16 = .ok (.lstore_n 1, 1) := by decide +kernel
theorem dX10_triesBounds_17 : decode cX10_triesBounds 17 = .ok (.iconst 1, 1) := by decide +kernel
theorem dX10_triesBounds_18 : decode cX10_triesBounds 18 = .ok (.istore_n 3, 1) := by decide +kernel
theorem dX10_triesBounds_19 : decode cX10_triesBounds 19 = .ok (.iload_n 3, 1) := by decide +kernel
theorem dX10_triesBounds_20 : decode cX10_triesBounds 20 = .ok (.aload_n 0, 1) := by decide +kernel
theorem dX10_triesBounds_21 : decode cX10_triesBounds 21 = .ok (.getfield 7, 3) := by decide +kernel
theorem dX10_triesBounds_24 : decode cX10_triesBounds 24 = .ok (.iconst 0, 1) := by decide +kernel
theorem dX10_triesBounds_25 : decode cX10_triesBounds 25 = .ok (.iaload, 1) := by decide +kernel
theorem dX10_triesBounds_26 : decode cX10_triesBounds 26 = .ok (.if_icmp .gt 30, 3) := by decide +kernel
theorem dX10_triesBounds_29 : decode cX10_triesBounds 29 = .ok (.lload_n 1, 1) := by decide +kernel
theorem dX10_triesBounds_30 : decode cX10_triesBounds 30 = .ok (.aload_n 0, 1) := by decide +kernel
theorem dX10_triesBounds_31 : decode cX10_triesBounds 31 = .ok (.getfield 35, 3) := by decide +kernel
theorem dX10_triesBounds_34 : decode cX10_triesBounds 34 = .ok (.iload_n 3, 1) := by decide +kernel
theorem dX10_triesBounds_35 : decode cX10_triesBounds 35 = .ok (.iconst 1, 1) := by decide +kernel
theorem dX10_triesBounds_36 : decode cX10_triesBounds 36 = .ok (.isub, 1) := by decide +kernel
theorem dX10_triesBounds_37 : decode cX10_triesBounds 37 = .ok (.laload, 1) := by decide +kernel
theorem dX10_triesBounds_38 : decode cX10_triesBounds 38 = .ok (.aload_n 0, 1) := by decide +kernel
theorem dX10_triesBounds_39 : decode cX10_triesBounds 39 = .ok (.getfield 7, 3) := by decide +kernel
theorem dX10_triesBounds_42 : decode cX10_triesBounds 42 = .ok (.iconst 2, 1) := by decide +kernel
theorem dX10_triesBounds_43 : decode cX10_triesBounds 43 = .ok (.iload_n 3, 1) := by decide +kernel
theorem dX10_triesBounds_44 : decode cX10_triesBounds 44 = .ok (.iadd, 1) := by decide +kernel
theorem dX10_triesBounds_45 : decode cX10_triesBounds 45 = .ok (.iaload, 1) := by decide +kernel
theorem dX10_triesBounds_46 : decode cX10_triesBounds 46 = .ok (.i2l, 1) := by decide +kernel
theorem dX10_triesBounds_47 : decode cX10_triesBounds 47 = .ok (.lmul, 1) := by decide +kernel
theorem dX10_triesBounds_48 : decode cX10_triesBounds 48 = .ok (.ladd, 1) := by decide +kernel
theorem dX10_triesBounds_49 : decode cX10_triesBounds 49 = .ok (.lstore_n 1, 1) := by decide +kernel
theorem dX10_triesBounds_50 : decode cX10_triesBounds 50 = .ok (.iinc 3 1, 3) := by decide +kernel
theorem dX10_triesBounds_53 : decode cX10_triesBounds 53 = .ok (.goto (-34), 3) := by decide +kernel
theorem dX10_triesBounds_56 : decode cX10_triesBounds 56 = .ok (.aload_n 0, 1) := by decide +kernel
theorem dX10_triesBounds_57 : decode cX10_triesBounds 57 = .ok (.getfield 200, 3) := by decide +kernel
theorem dX10_triesBounds_60 : decode cX10_triesBounds 60 = .ok (.ifCond .eq 23, 3) := by decide +kernel
theorem dX10_triesBounds_63 : decode cX10_triesBounds 63 = .ok (.lload_n 1, 1) := by decide +kernel
theorem dX10_triesBounds_64 : decode cX10_triesBounds 64 = .ok (.aload_n 0, 1) := by decide +kernel
theorem dX10_triesBounds_65 : decode cX10_triesBounds 65 = .ok (.getfield 185, 3) := by decide +kernel
theorem dX10_triesBounds_68 : decode cX10_triesBounds 68 = .ok (.aload_n 0, 1) := by decide +kernel
theorem dX10_triesBounds_69 : decode cX10_triesBounds 69 = .ok (.getfield 239, 3) := by decide +kernel
theorem dX10_triesBounds_72 : decode cX10_triesBounds 72 = .ok (.aload_n 0, 1) := by decide +kernel
theorem dX10_triesBounds_73 : decode cX10_triesBounds 73 = .ok (.getfield 242, 3) := by decide +kernel
theorem dX10_triesBounds_76 : decode cX10_triesBounds 76 = .ok (.invokestatic 210, 3) := by decide +kernel
theorem dX10_triesBounds_79 : decode cX10_triesBounds 79 = .ok (.ineg, 1) := by decide +kernel
theorem dX10_triesBounds_80 : decode cX10_triesBounds 80 = .ok (.goto 4, 3) := by decide +kernel
theorem dX10_triesBounds_83 : decode cX10_triesBounds 83 = .ok (.iconst (-1), 1) := by decide +kernel
theorem dX10_triesBounds_84 : decode cX10_triesBounds 84 = .ok (.istore_n 3, 1) := by decide +kernel
theorem dX10_triesBounds_85 : decode cX10_triesBounds 85 = .ok (.iconst 0, 1) := by decide +kernel
theorem dX10_triesBounds_86 : decode cX10_triesBounds 86 = .ok (.istore 4, 2) := by decide +kernel
theorem dX10_triesBounds_88 : decode cX10_triesBounds 88 = .ok (.iload 4, 2) := by decide +kernel
theorem dX10_triesBounds_90 : decode cX10_triesBounds 90 = .ok (.aload_n 0, 1) := by decide +kernel
theorem dX10_triesBounds_91 : decode cX10_triesBounds 91 = .ok (.getfield 7, 3) := by decide +kernel
theorem dX10_triesBounds_94 : decode cX10_triesBounds 94 = .ok (.iconst 0, 1) := by decide +kernel
theorem dX10_triesBounds_95 : decode cX10_triesBounds 95 = .ok (.iaload, 1) := by decide +kernel
theorem dX10_triesBounds_96 : decode cX10_triesBounds 96 = .ok (.if_icmp .ge 39, 3) := by decide +kernel
theorem dX10_triesBounds_99 : decode cX10_triesBounds 99 = .ok (.iload_n 3, 1) := by decide +kernel
theorem dX10_triesBounds_100 : decode cX10_triesBounds 100 = .ok (.ifCond .ne 35, 3) := by decide +kernel
theorem dX10_triesBounds_103 : decode cX10_triesBounds 103 = .ok (.aload_n 0, 1) := by decide +kernel
theorem dX10_triesBounds_104 : decode cX10_triesBounds 104 = .ok (.getfield 35, 3) := by decide +kernel
theorem dX10_triesBounds_107 : decode cX10_triesBounds 107 = .ok (.iload 4, 2) := by decide +kernel
theorem dX10_triesBounds_109 : decode cX10_triesBounds 109 = .ok (.laload, 1) := by decide +kernel
theorem dX10_triesBounds_110 : decode cX10_triesBounds 110 = .ok (.aload_n 0, 1) := by decide +kernel
theorem dX10_triesBounds_111 : decode cX10_triesBounds 111 = .ok (.getfield 185, 3) := by decide +kernel
theorem dX10_triesBounds_114 : decode cX10_triesBounds 114 = .ok (.aload_n 0, 1) := by decide +kernel
theorem dX10_triesBounds_115 : decode cX10_triesBounds 115 = .ok (.getfield 50, 3) := by decide +kernel
theorem dX10_triesBounds_118 : decode cX10_triesBounds 118 = .ok (.iload 4, 2) := by decide +kernel
theorem dX10_triesBounds_120 : decode cX10_triesBounds 120 = .ok (.laload, 1) := by decide +kernel
theorem dX10_triesBounds_121 : decode cX10_triesBounds 121 = .ok (.aload_n 0, 1) := by decide +kernel
theorem dX10_triesBounds_122 : decode cX10_triesBounds 122 = .ok (.getfield 242, 3) := by decide +kernel
theorem dX10_triesBounds_125 : decode cX10_triesBounds 125 = .ok (.invokestatic 210, 3) := by decide +kernel
theorem dX10_triesBounds_128 : decode cX10_triesBounds 128 = .ok (.istore_n 3, 1) := by decide +kernel
theorem dX10_triesBounds_129 : decode cX10_triesBounds 129 = .ok (.iinc 4 1, 3) := by decide +kernel
theorem dX10_triesBounds_132 : decode cX10_triesBounds 132 = .ok (.goto (-44), 3) := by decide +kernel
theorem dX10_triesBounds_135 : decode cX10_triesBounds 135 = .ok (.iload_n 3, 1) := by decide +kernel
theorem dX10_triesBounds_136 : decode cX10_triesBounds 136 = .ok (.ifCond .ge 55, 3) := by decide +kernel
theorem dX10_triesBounds_139 : decode cX10_triesBounds 139 = .ok (.aload_n 0, 1) := by decide +kernel
theorem dX10_triesBounds_140 : decode cX10_triesBounds 140 = .ok (.iconst 1, 1) := by decide +kernel
theorem dX10_triesBounds_141 : decode cX10_triesBounds 141 = .ok (.putfield 200, 3) := by decide +kernel
theorem dX10_triesBounds_144 : decode cX10_triesBounds 144 = .ok (.aload_n 0, 1) := by decide +kernel
theorem dX10_triesBounds_145 : decode cX10_triesBounds 145 = .ok (.lload_n 1, 1) := by decide +kernel
theorem dX10_triesBounds_146 : decode cX10_triesBounds 146 = .ok (.putfield 239, 3) := by decide +kernel
theorem dX10_triesBounds_149 : decode cX10_triesBounds 149 = .ok (.aload_n 0, 1) := by decide +kernel
theorem dX10_triesBounds_150 : decode cX10_triesBounds 150 = .ok (.aload_n 0, 1) := by decide +kernel
theorem dX10_triesBounds_151 : decode cX10_triesBounds 151 = .ok (.getfield 185, 3) := by decide +kernel
theorem dX10_triesBounds_154 : decode cX10_triesBounds 154 = .ok (.putfield 242, 3) := by decide +kernel
theorem dX10_triesBounds_157 : decode cX10_triesBounds 157 = .ok (.iconst 0, 1) := by decide +kernel
theorem dX10_triesBounds_158 : decode cX10_triesBounds 158 = .ok (.istore 4, 2) := by decide +kernel
theorem dX10_triesBounds_160 : decode cX10_triesBounds 160 = .ok (.iload 4, 2) := by decide +kernel
theorem dX10_triesBounds_162 : decode cX10_triesBounds 162 = .ok (.aload_n 0, 1) := by decide +kernel
theorem dX10_triesBounds_163 : decode cX10_triesBounds 163 = .ok (.getfield 7, 3) := by decide +kernel
theorem dX10_triesBounds_166 : decode cX10_triesBounds 166 = .ok (.iconst 0, 1) := by decide +kernel
theorem dX10_triesBounds_167 : decode cX10_triesBounds 167 = .ok (.iaload, 1) := by decide +kernel
theorem dX10_triesBounds_168 : decode cX10_triesBounds 168 = .ok (.if_icmp .ge 23, 3) := by decide +kernel
theorem dX10_triesBounds_171 : decode cX10_triesBounds 171 = .ok (.aload_n 0, 1) := by decide +kernel
theorem dX10_triesBounds_172 : decode cX10_triesBounds 172 = .ok (.getfield 50, 3) := by decide +kernel
theorem dX10_triesBounds_175 : decode cX10_triesBounds 175 = .ok (.iload 4, 2) := by decide +kernel
theorem dX10_triesBounds_177 : decode cX10_triesBounds 177 = .ok (.aload_n 0, 1) := by decide +kernel
theorem dX10_triesBounds_178 : decode cX10_triesBounds 178 = .ok (.getfield 35, 3) := by decide +kernel
theorem dX10_triesBounds_181 : decode cX10_triesBounds 181 = .ok (.iload 4, 2) := by decide +kernel
theorem dX10_triesBounds_183 : decode cX10_triesBounds 183 = .ok (.laload, 1) := by decide +kernel
theorem dX10_triesBounds_184 : decode cX10_triesBounds 184 = .ok (.lastore, 1) := by decide +kernel
theorem dX10_triesBounds_185 : decode cX10_triesBounds 185 = .ok (.iinc 4 1, 3) := by decide +kernel
theorem dX10_triesBounds_188 : decode cX10_triesBounds 188 = .ok (.goto (-28), 3) := by decide +kernel
theorem dX10_triesBounds_191 : decode cX10_triesBounds 191 = .ok (.return_, 1) := by decide +kernel
theorem dX10_multiplies_0 : decode cX10_multiplies 0 = .ok (.aload_n 0, 1) := by decide +kernel
theorem dX10_multiplies_1 : decode cX10_multiplies 1 = .ok (.invokevirtual 245, 3) := by decide +kernel
theorem dX10_multiplies_4 : decode cX10_multiplies 4 = .ok (.aload_n 0, 1) := by decide +kernel
theorem dX10_multiplies_5 : decode cX10_multiplies 5 = .ok (.iconst 0, 1) := by decide +kernel
theorem dX10_multiplies_6 : decode cX10_multiplies 6 = .ok (.putfield 200, 3) := by decide +kernel
theorem dX10_multiplies_9 : decode cX10_multiplies 9 = .ok (.iconst 0, 1) := by decide +kernel
theorem dX10_multiplies_10 : decode cX10_multiplies 10 = .ok (.istore_n 1, 1) := by decide +kernel
theorem dX10_multiplies_11 : decode cX10_multiplies 11 = .ok (.iload_n 1, 1) := by decide +kernel
theorem dX10_multiplies_12 : decode cX10_multiplies 12 = .ok (.aload_n 0, 1) := by decide +kernel
theorem dX10_multiplies_13 : decode cX10_multiplies 13 = .ok (.getfield 7, 3) := by decide +kernel
theorem dX10_multiplies_16 : decode cX10_multiplies 16 = .ok (.iconst 0, 1) := by decide +kernel
theorem dX10_multiplies_17 : decode cX10_multiplies 17 = .ok (.iaload, 1) := by decide +kernel
theorem dX10_multiplies_18 : decode cX10_multiplies 18 = .ok (.if_icmp .ge 16, 3) := by decide +kernel
theorem dX10_multiplies_21 : decode cX10_multiplies 21 = .ok (.aload_n 0, 1) := by decide +kernel
theorem dX10_multiplies_22 : decode cX10_multiplies 22 = .ok (.getfield 32, 3) := by decide +kernel
theorem dX10_multiplies_25 : decode cX10_multiplies 25 = .ok (.iload_n 1, 1) := by decide +kernel
theorem dX10_multiplies_26 : decode cX10_multiplies 26 = .ok (.iload_n 1, 1) := by decide +kernel
theorem dX10_multiplies_27 : decode cX10_multiplies 27 = .ok (.iastore, 1) := by decide +kernel
theorem dX10_multiplies_28 : decode cX10_multiplies 28 = .ok (.iinc 1 1, 3) := by decide +kernel
theorem dX10_multiplies_31 : decode cX10_multiplies 31 = .ok (.goto (-20), 3) := by decide +kernel
theorem dX10_multiplies_34 : decode cX10_multiplies 34 = .ok (.iconst 1, 1) := by decide +kernel
theorem dX10_multiplies_35 : decode cX10_multiplies 35 = .ok (.istore_n 1, 1) := by decide +kernel
theorem dX10_multiplies_36 : decode cX10_multiplies 36 = .ok (.iload_n 1, 1) := by decide +kernel
theorem dX10_multiplies_37 : decode cX10_multiplies 37 = .ok (.ifCond .eq 30, 3) := by decide +kernel
theorem dX10_multiplies_40 : decode cX10_multiplies 40 = .ok (.aload_n 0, 1) := by decide +kernel
theorem dX10_multiplies_41 : decode cX10_multiplies 41 = .ok (.invokevirtual 248, 3) := by decide +kernel
theorem dX10_multiplies_44 : decode cX10_multiplies 44 = .ok (.aload_n 0, 1) := by decide +kernel
theorem dX10_multiplies_45 : decode cX10_multiplies 45 = .ok (.aload_n 0, 1) := by decide +kernel
theorem dX10_multiplies_46 : decode cX10_multiplies 46 = .ok (.getfield 7, 3) := by decide +kernel
theorem dX10_multiplies_49 : decode cX10_multiplies 49 = .ok (.iconst 1, 1) := by decide +kernel
theorem dX10_multiplies_50 : decode cX10_multiplies 50 = .ok (.iaload, 1) := by decide +kernel
theorem dX10_multiplies_51 : decode cX10_multiplies 51 = .ok (.aload_n 0, 1) := by decide +kernel
theorem dX10_multiplies_52 : decode cX10_multiplies 52 = .ok (.getfield 7, 3) := by decide +kernel
theorem dX10_multiplies_55 : decode cX10_multiplies 55 = .ok (.iconst 0, 1) := by decide +kernel
theorem dX10_multiplies_56 : decode cX10_multiplies 56 = .ok (.iaload, 1) := by decide +kernel
theorem dX10_multiplies_57 : decode cX10_multiplies 57 = .ok (.iadd, 1) := by decide +kernel
theorem dX10_multiplies_58 : decode cX10_multiplies 58 = .ok (.iconst 1, 1) := by decide +kernel
theorem dX10_multiplies_59 : decode cX10_multiplies 59 = .ok (.iadd, 1) := by decide +kernel
theorem dX10_multiplies_60 : decode cX10_multiplies 60 = .ok (.invokevirtual 223, 3) := by decide +kernel
theorem dX10_multiplies_63 : decode cX10_multiplies 63 = .ok (.istore_n 1, 1) := by decide +kernel
theorem dX10_multiplies_64 : decode cX10_multiplies 64 = .ok (.goto (-28), 3) := by decide +kernel
theorem dX10_multiplies_67 : decode cX10_multiplies 67 = .ok (.return_, 1) := by decide +kernel
theorem dX10_multiplier_0 : decode cX10_multiplier 0 = .ok (.aload_n 0, 1) := by decide +kernel
theorem dX10_multiplier_1 : decode cX10_multiplier 1 = .ok (.iconst 0, 1) := by decide +kernel
theorem dX10_multiplier_2 : decode cX10_multiplier 2 = .ok (.putfield 65, 3) := by decide +kernel
theorem dX10_multiplier_5 : decode cX10_multiplier 5 = .ok (.iload_n 1, 1) := by decide +kernel
theorem dX10_multiplier_6 : decode cX10_multiplier 6 = .ok (.iconst 1, 1) := by decide +kernel
theorem dX10_multiplier_7 : decode cX10_multiplier 7 = .ok (.aload_n 0, 1) := by decide +kernel
theorem dX10_multiplier_8 : decode cX10_multiplier 8 = .ok (.getfield 7, 3) := by decide +kernel
theorem dX10_multiplier_11 : decode cX10_multiplier 11 = .ok (.iconst 0, 1) := by decide +kernel
theorem dX10_multiplier_12 : decode cX10_multiplier 12 = .ok (.iaload, 1) := by decide +kernel
theorem dX10_multiplier_13 : decode cX10_multiplier 13 = .ok (.invokestatic 69, 3) := by decide +kernel
theorem dX10_multiplier_16 : decode cX10_multiplier 16 = .ok (.ifCond .ne 7, 3) := by decide +kernel
theorem dX10_multiplier_19 : decode cX10_multiplier 19 = .ok (.ldc2_w 135, 3) := by decide +kernel
theorem dX10_multiplier_22 : decode cX10_multiplier 22 = .ok (.lreturn, 1) := by decide +kernel
theorem dX10_multiplier_23 : decode cX10_multiplier 23 = .ok (.aload_n 0, 1) := by decide +kernel
theorem dX10_multiplier_24 : decode cX10_multiplier 24 = .ok (.invokevirtual 251, 3) := by decide +kernel
theorem dX10_multiplier_27 : decode cX10_multiplier 27 = .ok (.aload_n 0, 1) := by decide +kernel
theorem dX10_multiplier_28 : decode cX10_multiplier 28 = .ok (.getfield 50, 3) := by decide +kernel
theorem dX10_multiplier_31 : decode cX10_multiplier 31 = .ok (.iload_n 1, 1) := by decide +kernel
theorem dX10_multiplier_32 : decode cX10_multiplier 32 = .ok (.iconst 1, 1) := by decide +kernel
theorem dX10_multiplier_33 : decode cX10_multiplier 33 = .ok (.isub, 1) := by decide +kernel
theorem dX10_multiplier_34 : decode cX10_multiplier 34 = .ok (.laload, 1) := by decide +kernel
theorem dX10_multiplier_35 : decode cX10_multiplier 35 = .ok (.aload_n 0, 1) := by decide +kernel
theorem dX10_multiplier_36 : decode cX10_multiplier 36 = .ok (.getfield 242, 3) := by decide +kernel
theorem dX10_multiplier_39 : decode cX10_multiplier 39 = .ok (.iload_n 2, 1) := by decide +kernel
theorem dX10_multiplier_40 : decode cX10_multiplier 40 = .ok (.invokestatic 229, 3) := by decide +kernel
theorem dX10_multiplier_43 : decode cX10_multiplier 43 = .ok (.lreturn, 1) := by decide +kernel
theorem dX10_dear_0 : decode cX10_dear 0 = .ok (.aload_n 0, 1) := by decide +kernel
theorem dX10_dear_1 : decode cX10_dear 1 = .ok (.iconst 0, 1) := by decide +kernel
theorem dX10_dear_2 : decode cX10_dear 2 = .ok (.putfield 65, 3) := by decide +kernel
theorem dX10_dear_5 : decode cX10_dear 5 = .ok (.iload_n 1, 1) := by decide +kernel
theorem dX10_dear_6 : decode cX10_dear 6 = .ok (.iconst 0, 1) := by decide +kernel
theorem dX10_dear_7 : decode cX10_dear 7 = .ok (.aload_n 0, 1) := by decide +kernel
theorem dX10_dear_8 : decode cX10_dear 8 = .ok (.getfield 7, 3) := by decide +kernel
theorem dX10_dear_11 : decode cX10_dear 11 = .ok (.iconst 1, 1) := by decide +kernel
theorem dX10_dear_12 : decode cX10_dear 12 = .ok (.iaload, 1) := by decide +kernel
theorem dX10_dear_13 : decode cX10_dear 13 = .ok (.iconst 1, 1) := by decide +kernel
theorem dX10_dear_14 : decode cX10_dear 14 = .ok (.isub, 1) := by decide +kernel
theorem dX10_dear_15 : decode cX10_dear 15 = .ok (.invokestatic 69, 3) := by decide +kernel
theorem dX10_dear_18 : decode cX10_dear 18 = .ok (.ifCond .ne 7, 3) := by decide +kernel
theorem dX10_dear_21 : decode cX10_dear 21 = .ok (.ldc2_w 135, 3) := by decide +kernel
theorem dX10_dear_24 : decode cX10_dear 24 = .ok (.lreturn, 1) := by decide +kernel
theorem dX10_dear_25 : decode cX10_dear 25 = .ok (.aload_n 0, 1) := by decide +kernel
theorem dX10_dear_26 : decode cX10_dear 26 = .ok (.invokevirtual 251, 3) := by decide +kernel
theorem dX10_dear_29 : decode cX10_dear 29 = .ok (.aload_n 0, 1) := by decide +kernel
theorem dX10_dear_30 : decode cX10_dear 30 = .ok (.getfield 7, 3) := by decide +kernel
theorem dX10_dear_33 : decode cX10_dear 33 = .ok (.bipush 27, 2) := by decide +kernel
theorem dX10_dear_35 : decode cX10_dear 35 = .ok (.iload_n 1, 1) := by decide +kernel
theorem dX10_dear_36 : decode cX10_dear 36 = .ok (.iadd, 1) := by decide +kernel
theorem dX10_dear_37 : decode cX10_dear 37 = .ok (.iaload, 1) := by decide +kernel
theorem dX10_dear_38 : decode cX10_dear 38 = .ok (.i2l, 1) := by decide +kernel
theorem dX10_dear_39 : decode cX10_dear 39 = .ok (.aload_n 0, 1) := by decide +kernel
theorem dX10_dear_40 : decode cX10_dear 40 = .ok (.getfield 242, 3) := by decide +kernel
theorem dX10_dear_43 : decode cX10_dear 43 = .ok (.lmul, 1) := by decide +kernel
theorem dX10_dear_44 : decode cX10_dear 44 = .ok (.lstore_n 3, 1) := by decide +kernel
theorem dX10_dear_45 : decode cX10_dear 45 = .ok (.iconst 1, 1) := by decide +kernel
theorem dX10_dear_46 : decode cX10_dear 46 = .ok (.istore 5, 2) := by decide +kernel
theorem dX10_dear_48 : decode cX10_dear 48 = .ok (.iload 5, 2) := by decide +kernel
theorem dX10_dear_50 : decode cX10_dear 50 = .ok (.aload_n 0, 1) := by decide +kernel
theorem dX10_dear_51 : decode cX10_dear 51 = .ok (.getfield 7, 3) := by decide +kernel
theorem dX10_dear_54 : decode cX10_dear 54 = .ok (.iconst 0, 1) := by decide +kernel
theorem dX10_dear_55 : decode cX10_dear 55 = .ok (.iaload, 1) := by decide +kernel
theorem dX10_dear_56 : decode cX10_dear 56 = .ok (.if_icmp .gt 30, 3) := by decide +kernel
theorem dX10_dear_59 : decode cX10_dear 59 = .ok (.lload_n 3, 1) := by decide +kernel
theorem dX10_dear_60 : decode cX10_dear 60 = .ok (.aload_n 0, 1) := by decide +kernel
theorem dX10_dear_61 : decode cX10_dear 61 = .ok (.getfield 50, 3) := by decide +kernel
theorem dX10_dear_64 : decode cX10_dear 64 = .ok (.iload 5, 2) := by decide +kernel
theorem dX10_dear_66 : decode cX10_dear 66 = .ok (.iconst 1, 1) := by decide +kernel
theorem dX10_dear_67 : decode cX10_dear 67 = .ok (.isub, 1) := by decide +kernel
theorem dX10_dear_68 : decode cX10_dear 68 = .ok (.laload, 1) := by decide +kernel
theorem dX10_dear_69 : decode cX10_dear 69 = .ok (.aload_n 0, 1) := by decide +kernel
theorem dX10_dear_70 : decode cX10_dear 70 = .ok (.iload_n 1, 1) := by decide +kernel
theorem dX10_dear_71 : decode cX10_dear 71 = .ok (.iload 5, 2) := by decide +kernel
theorem dX10_dear_73 : decode cX10_dear 73 = .ok (.invokevirtual 167, 3) := by decide +kernel
theorem dX10_dear_76 : decode cX10_dear 76 = .ok (.i2l, 1) := by decide +kernel
theorem dX10_dear_77 : decode cX10_dear 77 = .ok (.lmul, 1) := by decide +kernel
theorem dX10_dear_78 : decode cX10_dear 78 = .ok (.lsub, 1) := by decide +kernel
theorem dX10_dear_79 : decode cX10_dear 79 = .ok (.lstore_n 3, 1) := by decide +kernel
theorem dX10_dear_80 : decode cX10_dear 80 = .ok (.iinc 5 1, 3) := by decide +kernel
theorem dX10_dear_83 : decode cX10_dear 83 = .ok (.goto (-35), 3) := by decide +kernel
theorem dX10_dear_86 : decode cX10_dear 86 = .ok (.lload_n 3, 1) := by decide +kernel
theorem dX10_dear_87 : decode cX10_dear 87 = .ok (.aload_n 0, 1) := by decide +kernel
theorem dX10_dear_88 : decode cX10_dear 88 = .ok (.getfield 242, 3) := by decide +kernel
theorem dX10_dear_91 : decode cX10_dear 91 = .ok (.iload_n 2, 1) := by decide +kernel
theorem dX10_dear_92 : decode cX10_dear 92 = .ok (.invokestatic 229, 3) := by decide +kernel
theorem dX10_dear_95 : decode cX10_dear 95 = .ok (.lreturn, 1) := by decide +kernel
theorem dX10_power_0 : decode cX10_power 0 = .ok (.lconst 1, 1) := by decide +kernel
theorem dX10_power_1 : decode cX10_power 1 = .ok (.lstore_n 2, 1) := by decide +kernel
theorem dX10_power_2 : decode cX10_power 2 = .ok (.iconst 0, 1) := by decide +kernel
theorem dX10_power_3 : decode cX10_power 3 = .ok (.istore 4, 2) := by decide +kernel
theorem dX10_power_5 : decode cX10_power 5 = .ok (.iload 4, 2) := by decide +kernel
theorem dX10_power_7 : decode cX10_power 7 = .ok (.iload_n 1, 1) := by decide +kernel
theorem dX10_power_8 : decode cX10_power 8 = .ok (.if_icmp .ge 15, 3) := by decide +kernel
theorem dX10_power_11 : decode cX10_power 11 = .ok (.lload_n 2, 1) := by decide +kernel
theorem dX10_power_12 : decode cX10_power 12 = .ok (.ldc2_w 189, 3) := by decide +kernel
theorem dX10_power_15 : decode cX10_power 15 = .ok (.lmul, 1) := by decide +kernel
theorem dX10_power_16 : decode cX10_power 16 = .ok (.lstore_n 2, 1) := by decide +kernel
theorem dX10_power_17 : decode cX10_power 17 = .ok (.iinc 4 1, 3) := by decide +kernel
theorem dX10_power_20 : decode cX10_power 20 = .ok (.goto (-15), 3) := by decide +kernel
theorem dX10_power_23 : decode cX10_power 23 = .ok (.lload_n 2, 1) := by decide +kernel
theorem dX10_power_24 : decode cX10_power 24 = .ok (.lreturn, 1) := by decide +kernel
theorem dX10_grows_0 : decode cX10_grows 0 = .ok (.lconst 1, 1) := by decide +kernel
theorem dX10_grows_1 : decode cX10_grows 1 = .ok (.lstore_n 3, 1) := by decide +kernel
theorem dX10_grows_2 : decode cX10_grows 2 = .ok (.iload_n 1, 1) := by decide +kernel
theorem dX10_grows_3 : decode cX10_grows 3 = .ok (.iconst 1, 1) := by decide +kernel
theorem dX10_grows_4 : decode cX10_grows 4 = .ok (.iadd, 1) := by decide +kernel
theorem dX10_grows_5 : decode cX10_grows 5 = .ok (.istore 5, 2) := by decide +kernel
theorem dX10_grows_7 : decode cX10_grows 7 = .ok (.iload 5, 2) := by decide +kernel
theorem dX10_grows_9 : decode cX10_grows 9 = .ok (.iload_n 2, 1) := by decide +kernel
theorem dX10_grows_10 : decode cX10_grows 10 = .ok (.if_icmp .gt 27, 3) := by decide +kernel
theorem dX10_grows_13 : decode cX10_grows 13 = .ok (.lload_n 3, 1) := by decide +kernel
theorem dX10_grows_14 : decode cX10_grows 14 = .ok (.ldc2_w 189, 3) := by decide +kernel
theorem dX10_grows_17 : decode cX10_grows 17 = .ok (.aload_n 0, 1) := by decide +kernel
theorem dX10_grows_18 : decode cX10_grows 18 = .ok (.getfield 7, 3) := by decide +kernel
theorem dX10_grows_21 : decode cX10_grows 21 = .ok (.bipush 7, 2) := by decide +kernel
theorem dX10_grows_23 : decode cX10_grows 23 = .ok (.iload 5, 2) := by decide +kernel
theorem dX10_grows_25 : decode cX10_grows 25 = .ok (.iadd, 1) := by decide +kernel
theorem dX10_grows_26 : decode cX10_grows 26 = .ok (.iaload, 1) := by decide +kernel
theorem dX10_grows_27 : decode cX10_grows 27 = .ok (.i2l, 1) := by decide +kernel
theorem dX10_grows_28 : decode cX10_grows 28 = .ok (.ladd, 1) := by decide +kernel
theorem dX10_grows_29 : decode cX10_grows 29 = .ok (.lmul, 1) := by decide +kernel
theorem dX10_grows_30 : decode cX10_grows 30 = .ok (.lstore_n 3, 1) := by decide +kernel
theorem dX10_grows_31 : decode cX10_grows 31 = .ok (.iinc 5 1, 3) := by decide +kernel
theorem dX10_grows_34 : decode cX10_grows 34 = .ok (.goto (-27), 3) := by decide +kernel
theorem dX10_grows_37 : decode cX10_grows 37 = .ok (.lload_n 3, 1) := by decide +kernel
theorem dX10_grows_38 : decode cX10_grows 38 = .ok (.lreturn, 1) := by decide +kernel
theorem dX10_runs_0 : decode cX10_runs 0 = .ok (.aload_n 0, 1) := by decide +kernel
theorem dX10_runs_1 : decode cX10_runs 1 = .ok (.getfield 62, 3) := by decide +kernel
theorem dX10_runs_4 : decode cX10_runs 4 = .ok (.iconst 0, 1) := by decide +kernel
theorem dX10_runs_5 : decode cX10_runs 5 = .ok (.iload_n 3, 1) := by decide +kernel
theorem dX10_runs_6 : decode cX10_runs 6 = .ok (.i2l, 1) := by decide +kernel
theorem dX10_runs_7 : decode cX10_runs 7 = .ok (.lastore, 1) := by decide +kernel
theorem dX10_runs_8 : decode cX10_runs 8 = .ok (.iconst 1, 1) := by decide +kernel
theorem dX10_runs_9 : decode cX10_runs 9 = .ok (.istore 4, 2) := by decide +kernel
theorem dX10_runs_11 : decode cX10_runs 11 = .ok (.iload 4, 2) := by decide +kernel
theorem dX10_runs_13 : decode cX10_runs 13 = .ok (.aload_n 0, 1) := by decide +kernel
theorem dX10_runs_14 : decode cX10_runs 14 = .ok (.getfield 7, 3) := by decide +kernel
theorem dX10_runs_17 : decode cX10_runs 17 = .ok (.iconst 0, 1) := by decide +kernel
theorem dX10_runs_18 : decode cX10_runs 18 = .ok (.iaload, 1) := by decide +kernel
theorem dX10_runs_19 : decode cX10_runs 19 = .ok (.if_icmp .gt 106, 3) := by decide +kernel
theorem dX10_runs_22 : decode cX10_runs 22 = .ok (.aload_n 0, 1) := by decide +kernel
theorem dX10_runs_23 : decode cX10_runs 23 = .ok (.getfield 7, 3) := by decide +kernel
theorem dX10_runs_26 : decode cX10_runs 26 = .ok (.iconst 2, 1) := by decide +kernel
theorem dX10_runs_27 : decode cX10_runs 27 = .ok (.iload 4, 2) := by decide +kernel
theorem dX10_runs_29 : decode cX10_runs 29 = .ok (.iadd, 1) := by decide +kernel
theorem dX10_runs_30 : decode cX10_runs 30 = .ok (.iaload, 1) := by decide +kernel
theorem dX10_runs_31 : decode cX10_runs 31 = .ok (.ineg, 1) := by decide +kernel
theorem dX10_runs_32 : decode cX10_runs 32 = .ok (.i2l, 1) := by decide +kernel
theorem dX10_runs_33 : decode cX10_runs 33 = .ok (.lstore 5, 2) := by decide +kernel
theorem dX10_runs_35 : decode cX10_runs 35 = .ok (.iconst 0, 1) := by decide +kernel
theorem dX10_runs_36 : decode cX10_runs 36 = .ok (.istore 7, 2) := by decide +kernel
theorem dX10_runs_38 : decode cX10_runs 38 = .ok (.iload 7, 2) := by decide +kernel
theorem dX10_runs_40 : decode cX10_runs 40 = .ok (.aload_n 0, 1) := by decide +kernel
theorem dX10_runs_41 : decode cX10_runs 41 = .ok (.getfield 7, 3) := by decide +kernel
theorem dX10_runs_44 : decode cX10_runs 44 = .ok (.iconst 1, 1) := by decide +kernel
theorem dX10_runs_45 : decode cX10_runs 45 = .ok (.iaload, 1) := by decide +kernel
theorem dX10_runs_46 : decode cX10_runs 46 = .ok (.if_icmp .ge 31, 3) := by decide +kernel
theorem dX10_runs_49 : decode cX10_runs 49 = .ok (.lload 5, 2) := by decide +kernel
theorem dX10_runs_51 : decode cX10_runs 51 = .ok (.aload_n 1, 1) := by decide +kernel
theorem dX10_runs_52 : decode cX10_runs 52 = .ok (.iload_n 2, 1) := by decide +kernel
theorem dX10_runs_53 : decode cX10_runs 53 = .ok (.iload 7, 2) := by decide +kernel
theorem dX10_runs_55 : decode cX10_runs 55 = .ok (.iadd, 1) := by decide +kernel
theorem dX10_runs_56 : decode cX10_runs 56 = .ok (.iaload, 1) := by decide +kernel
theorem dX10_runs_57 : decode cX10_runs 57 = .ok (.i2l, 1) := by decide +kernel
theorem dX10_runs_58 : decode cX10_runs 58 = .ok (.aload_n 0, 1) := by decide +kernel
theorem dX10_runs_59 : decode cX10_runs 59 = .ok (.iload 7, 2) := by decide +kernel
theorem dX10_runs_61 : decode cX10_runs 61 = .ok (.iload 4, 2) := by decide +kernel
theorem dX10_runs_63 : decode cX10_runs 63 = .ok (.invokevirtual 167, 3) := by decide +kernel
theorem dX10_runs_66 : decode cX10_runs 66 = .ok (.i2l, 1) := by decide +kernel
theorem dX10_runs_67 : decode cX10_runs 67 = .ok (.lmul, 1) := by decide +kernel
theorem dX10_runs_68 : decode cX10_runs 68 = .ok (.ladd, 1) := by decide +kernel
theorem dX10_runs_69 : decode cX10_runs 69 = .ok (.lstore 5, 2) := by decide +kernel
theorem dX10_runs_71 : decode cX10_runs 71 = .ok (.iinc 7 1, 3) := by decide +kernel
theorem dX10_runs_74 : decode cX10_runs 74 = .ok (.goto (-36), 3) := by decide +kernel
theorem dX10_runs_77 : decode cX10_runs 77 = .ok (.aload_n 0, 1) := by decide +kernel
theorem dX10_runs_78 : decode cX10_runs 78 = .ok (.getfield 62, 3) := by decide +kernel
theorem dX10_runs_81 : decode cX10_runs 81 = .ok (.iload 4, 2) := by decide +kernel
theorem dX10_runs_83 : decode cX10_runs 83 = .ok (.ldc2_w 189, 3) := by decide +kernel
theorem dX10_runs_86 : decode cX10_runs 86 = .ok (.aload_n 0, 1) := by decide +kernel
theorem dX10_runs_87 : decode cX10_runs 87 = .ok (.getfield 7, 3) := by decide +kernel
theorem dX10_runs_90 : decode cX10_runs 90 = .ok (.bipush 7, 2) := by decide +kernel
theorem dX10_runs_92 : decode cX10_runs 92 = .ok (.iload 4, 2) := by decide +kernel
theorem dX10_runs_94 : decode cX10_runs 94 = .ok (.iadd, 1) := by decide +kernel
theorem dX10_runs_95 : decode cX10_runs 95 = .ok (.iaload, 1) := by decide +kernel
theorem dX10_runs_96 : decode cX10_runs 96 = .ok (.i2l, 1) := by decide +kernel
theorem dX10_runs_97 : decode cX10_runs 97 = .ok (.ladd, 1) := by decide +kernel
theorem dX10_runs_98 : decode cX10_runs 98 = .ok (.aload_n 0, 1) := by decide +kernel
theorem dX10_runs_99 : decode cX10_runs 99 = .ok (.getfield 62, 3) := by decide +kernel
theorem dX10_runs_102 : decode cX10_runs 102 = .ok (.iload 4, 2) := by decide +kernel
theorem dX10_runs_104 : decode cX10_runs 104 = .ok (.iconst 1, 1) := by decide +kernel
theorem dX10_runs_105 : decode cX10_runs 105 = .ok (.isub, 1) := by decide +kernel
theorem dX10_runs_106 : decode cX10_runs 106 = .ok (.laload, 1) := by decide +kernel
theorem dX10_runs_107 : decode cX10_runs 107 = .ok (.lmul, 1) := by decide +kernel
theorem dX10_runs_108 : decode cX10_runs 108 = .ok (.aload_n 0, 1) := by decide +kernel
theorem dX10_runs_109 : decode cX10_runs 109 = .ok (.iload 4, 2) := by decide +kernel
theorem dX10_runs_111 : decode cX10_runs 111 = .ok (.invokevirtual 254, 3) := by decide +kernel
theorem dX10_runs_114 : decode cX10_runs 114 = .ok (.lload 5, 2) := by decide +kernel
theorem dX10_runs_116 : decode cX10_runs 116 = .ok (.lmul, 1) := by decide +kernel
theorem dX10_runs_117 : decode cX10_runs 117 = .ok (.ladd, 1) := by decide +kernel
theorem dX10_runs_118 : decode cX10_runs 118 = .ok (.lastore, 1) := by decide +kernel
theorem dX10_runs_119 : decode cX10_runs 119 = .ok (.iinc 4 1, 3) := by decide +kernel
theorem dX10_runs_122 : decode cX10_runs 122 = .ok (.goto (-111), 3) := by decide +kernel
theorem dX10_runs_125 : decode cX10_runs 125 = .ok (.return_, 1) := by decide +kernel
theorem dX10_needs_0 : decode cX10_needs 0 = .ok (.aload_n 0, 1) := by decide +kernel
theorem dX10_needs_1 : decode cX10_needs 1 = .ok (.lconst 0, 1) := by decide +kernel
theorem dX10_needs_2 : decode cX10_needs 2 = .ok (.putfield 257, 3) := by decide +kernel
theorem dX10_needs_5 : decode cX10_needs 5 = .ok (.aload_n 0, 1) := by decide +kernel
theorem dX10_needs_6 : decode cX10_needs 6 = .ok (.lconst 1, 1) := by decide +kernel
theorem dX10_needs_7 : decode cX10_needs 7 = .ok (.putfield 260, 3) := by decide +kernel
theorem dX10_needs_10 : decode cX10_needs 10 = .ok (.iload_n 1, 1) := by decide +kernel
theorem dX10_needs_11 : decode cX10_needs 11 = .ok (.istore_n 2, 1) := by decide +kernel
theorem dX10_needs_12 : decode cX10_needs 12 = .ok (.iload_n 2, 1) := by decide +kernel
theorem dX10_needs_13 : decode cX10_needs 13 = .ok (.aload_n 0, 1) := by decide +kernel
theorem dX10_needs_14 : decode cX10_needs 14 = .ok (.getfield 7, 3) := by decide +kernel
theorem dX10_needs_17 : decode cX10_needs 17 = .ok (.iconst 0, 1) := by decide +kernel
theorem dX10_needs_18 : decode cX10_needs 18 = .ok (.iaload, 1) := by decide +kernel
theorem dX10_needs_19 : decode cX10_needs 19 = .ok (.if_icmp .gt 71, 3) := by decide +kernel
theorem dX10_needs_22 : decode cX10_needs 22 = .ok (.aload_n 0, 1) := by decide +kernel
theorem dX10_needs_23 : decode cX10_needs 23 = .ok (.iload_n 1, 1) := by decide +kernel
theorem dX10_needs_24 : decode cX10_needs 24 = .ok (.invokevirtual 254, 3) := by decide +kernel
theorem dX10_needs_27 : decode cX10_needs 27 = .ok (.aload_n 0, 1) := by decide +kernel
theorem dX10_needs_28 : decode cX10_needs 28 = .ok (.iload_n 1, 1) := by decide +kernel
theorem dX10_needs_29 : decode cX10_needs 29 = .ok (.iload_n 2, 1) := by decide +kernel
theorem dX10_needs_30 : decode cX10_needs 30 = .ok (.invokevirtual 263, 3) := by decide +kernel
theorem dX10_needs_33 : decode cX10_needs 33 = .ok (.lmul, 1) := by decide +kernel
theorem dX10_needs_34 : decode cX10_needs 34 = .ok (.lstore_n 3, 1) := by decide +kernel
theorem dX10_needs_35 : decode cX10_needs 35 = .ok (.aload_n 0, 1) := by decide +kernel
theorem dX10_needs_36 : decode cX10_needs 36 = .ok (.getfield 62, 3) := by decide +kernel
theorem dX10_needs_39 : decode cX10_needs 39 = .ok (.iload_n 2, 1) := by decide +kernel
theorem dX10_needs_40 : decode cX10_needs 40 = .ok (.laload, 1) := by decide +kernel
theorem dX10_needs_41 : decode cX10_needs 41 = .ok (.lconst 0, 1) := by decide +kernel
theorem dX10_needs_42 : decode cX10_needs 42 = .ok (.lcmp, 1) := by decide +kernel
theorem dX10_needs_43 : decode cX10_needs 43 = .ok (.ifCond .ge 41, 3) := by decide +kernel
theorem dX10_needs_46 : decode cX10_needs 46 = .ok (.aload_n 0, 1) := by decide +kernel
theorem dX10_needs_47 : decode cX10_needs 47 = .ok (.getfield 62, 3) := by decide +kernel
theorem dX10_needs_50 : decode cX10_needs 50 = .ok (.iload_n 2, 1) := by decide +kernel
theorem dX10_needs_51 : decode cX10_needs 51 = .ok (.laload, 1) := by decide +kernel
theorem dX10_needs_52 : decode cX10_needs 52 = .ok (.lneg, 1) := by decide +kernel
theorem dX10_needs_53 : decode cX10_needs 53 = .ok (.lload_n 3, 1) := by decide +kernel
theorem dX10_needs_54 : decode cX10_needs 54 = .ok (.aload_n 0, 1) := by decide +kernel
theorem dX10_needs_55 : decode cX10_needs 55 = .ok (.getfield 257, 3) := by decide +kernel
theorem dX10_needs_58 : decode cX10_needs 58 = .ok (.aload_n 0, 1) := by decide +kernel
theorem dX10_needs_59 : decode cX10_needs 59 = .ok (.getfield 260, 3) := by decide +kernel
theorem dX10_needs_62 : decode cX10_needs 62 = .ok (.invokestatic 210, 3) := by decide +kernel
theorem dX10_needs_65 : decode cX10_needs 65 = .ok (.ifCond .le 19, 3) := by decide +kernel
theorem dX10_needs_68 : decode cX10_needs 68 = .ok (.aload_n 0, 1) := by decide +kernel
theorem dX10_needs_69 : decode cX10_needs 69 = .ok (.aload_n 0, 1) := by decide +kernel
theorem dX10_needs_70 : decode cX10_needs 70 = .ok (.getfield 62, 3) := by decide +kernel
theorem dX10_needs_73 : decode cX10_needs 73 = .ok (.iload_n 2, 1) := by decide +kernel
theorem dX10_needs_74 : decode cX10_needs 74 = .ok (.laload, 1) := by decide +kernel
theorem dX10_needs_75 : decode cX10_needs 75 = .ok (.lneg, 1) := by decide +kernel
theorem dX10_needs_76 : decode cX10_needs 76 = .ok (.putfield 257, 3) := by decide +kernel
theorem dX10_needs_79 : decode cX10_needs 79 = .ok (.aload_n 0, 1) := by decide +kernel
theorem dX10_needs_80 : decode cX10_needs 80 = .ok (.lload_n 3, 1) := by decide +kernel
theorem dX10_needs_81 : decode cX10_needs 81 = .ok (.putfield 260, 3) := by decide +kernel
theorem dX10_needs_84 : decode cX10_needs 84 = .ok (.iinc 2 1, 3) := by decide +kernel
theorem dX10_needs_87 : decode cX10_needs 87 = .ok (.goto (-75), 3) := by decide +kernel
theorem dX10_needs_90 : decode cX10_needs 90 = .ok (.return_, 1) := by decide +kernel
theorem dX10_triesLot_0 : decode cX10_triesLot 0 = .ok (.aload_n 0, 1) := by decide +kernel
theorem dX10_triesLot_1 : decode cX10_triesLot 1 = .ok (.aload_n 0, 1) := by decide +kernel
theorem dX10_triesLot_2 : decode cX10_triesLot 2 = .ok (.getfield 56, 3) := by decide +kernel
theorem dX10_triesLot_5 : decode cX10_triesLot 5 = .ok (.iconst 0, 1) := by decide +kernel
theorem dX10_triesLot_6 : decode cX10_triesLot 6 = .ok (.iconst 0, 1) := by decide +kernel
theorem dX10_triesLot_7 : decode cX10_triesLot 7 = .ok (.invokevirtual 267, 3) := by decide +kernel
theorem dX10_triesLot_10 : decode cX10_triesLot 10 = .ok (.aload_n 0, 1) := by decide +kernel
theorem dX10_triesLot_11 : decode cX10_triesLot 11 = .ok (.iconst 0, 1) := by decide +kernel
theorem dX10_triesLot_12 : decode cX10_triesLot 12 = .ok (.invokevirtual 271, 3) := by decide +kernel
theorem dX10_triesLot_15 : decode cX10_triesLot 15 = .ok (.aload_n 0, 1) := by decide +kernel
theorem dX10_triesLot_16 : decode cX10_triesLot 16 = .ok (.getfield 257, 3) := by decide +kernel
theorem dX10_triesLot_19 : decode cX10_triesLot 19 = .ok (.lstore_n 1, 1) := by decide +kernel
theorem dX10_triesLot_20 : decode cX10_triesLot 20 = .ok (.iconst 0, 1) := by decide +kernel
theorem dX10_triesLot_21 : decode cX10_triesLot 21 = .ok (.istore_n 3, 1) := by decide +kernel
theorem dX10_triesLot_22 : decode cX10_triesLot 22 = .ok (.iload_n 3, 1) := by decide +kernel
theorem dX10_triesLot_23 : decode cX10_triesLot 23 = .ok (.aload_n 0, 1) := by decide +kernel
theorem dX10_triesLot_24 : decode cX10_triesLot 24 = .ok (.getfield 7, 3) := by decide +kernel
theorem dX10_triesLot_27 : decode cX10_triesLot 27 = .ok (.iconst 1, 1) := by decide +kernel
theorem dX10_triesLot_28 : decode cX10_triesLot 28 = .ok (.iaload, 1) := by decide +kernel
theorem dX10_triesLot_29 : decode cX10_triesLot 29 = .ok (.if_icmp .ge 35, 3) := by decide +kernel
theorem dX10_triesLot_32 : decode cX10_triesLot 32 = .ok (.lload_n 1, 1) := by decide +kernel
theorem dX10_triesLot_33 : decode cX10_triesLot 33 = .ok (.aload_n 0, 1) := by decide +kernel
theorem dX10_triesLot_34 : decode cX10_triesLot 34 = .ok (.getfield 56, 3) := by decide +kernel
theorem dX10_triesLot_37 : decode cX10_triesLot 37 = .ok (.iload_n 3, 1) := by decide +kernel
theorem dX10_triesLot_38 : decode cX10_triesLot 38 = .ok (.iaload, 1) := by decide +kernel
theorem dX10_triesLot_39 : decode cX10_triesLot 39 = .ok (.i2l, 1) := by decide +kernel
theorem dX10_triesLot_40 : decode cX10_triesLot 40 = .ok (.aload_n 0, 1) := by decide +kernel
theorem dX10_triesLot_41 : decode cX10_triesLot 41 = .ok (.getfield 7, 3) := by decide +kernel
theorem dX10_triesLot_44 : decode cX10_triesLot 44 = .ok (.bipush 27, 2) := by decide +kernel
theorem dX10_triesLot_46 : decode cX10_triesLot 46 = .ok (.iload_n 3, 1) := by decide +kernel
theorem dX10_triesLot_47 : decode cX10_triesLot 47 = .ok (.iadd, 1) := by decide +kernel
theorem dX10_triesLot_48 : decode cX10_triesLot 48 = .ok (.iaload, 1) := by decide +kernel
theorem dX10_triesLot_49 : decode cX10_triesLot 49 = .ok (.i2l, 1) := by decide +kernel
theorem dX10_triesLot_50 : decode cX10_triesLot 50 = .ok (.lmul, 1) := by decide +kernel
theorem dX10_triesLot_51 : decode cX10_triesLot 51 = .ok (.aload_n 0, 1) := by decide +kernel
theorem dX10_triesLot_52 : decode cX10_triesLot 52 = .ok (.getfield 260, 3) := by decide +kernel
theorem dX10_triesLot_55 : decode cX10_triesLot 55 = .ok (.lmul, 1) := by decide +kernel
theorem dX10_triesLot_56 : decode cX10_triesLot 56 = .ok (.ladd, 1) := by decide +kernel
theorem dX10_triesLot_57 : decode cX10_triesLot 57 = .ok (.lstore_n 1, 1) := by decide +kernel
theorem dX10_triesLot_58 : decode cX10_triesLot 58 = .ok (.iinc 3 1, 3) := by decide +kernel
theorem dX10_triesLot_61 : decode cX10_triesLot 61 = .ok (.goto (-39), 3) := by decide +kernel
theorem dX10_triesLot_64 : decode cX10_triesLot 64 = .ok (.aload_n 0, 1) := by decide +kernel
theorem dX10_triesLot_65 : decode cX10_triesLot 65 = .ok (.getfield 200, 3) := by decide +kernel
theorem dX10_triesLot_68 : decode cX10_triesLot 68 = .ok (.ifCond .eq 22, 3) := by decide +kernel
theorem dX10_triesLot_71 : decode cX10_triesLot 71 = .ok (.lload_n 1, 1) := by decide +kernel
theorem dX10_triesLot_72 : decode cX10_triesLot 72 = .ok (.aload_n 0, 1) := by decide +kernel
theorem dX10_triesLot_73 : decode cX10_triesLot 73 = .ok (.getfield 260, 3) := by decide +kernel
theorem dX10_triesLot_76 : decode cX10_triesLot 76 = .ok (.aload_n 0, 1) := by decide +kernel
theorem dX10_triesLot_77 : decode cX10_triesLot 77 = .ok (.getfield 274, 3) := by decide +kernel
theorem dX10_triesLot_80 : decode cX10_triesLot 80 = .ok (.aload_n 0, 1) := by decide +kernel
theorem dX10_triesLot_81 : decode cX10_triesLot 81 = .ok (.getfield 277, 3) := by decide +kernel
theorem dX10_triesLot_84 : decode cX10_triesLot 84 = .ok (.invokestatic 210, 3) := by decide +kernel
theorem dX10_triesLot_87 : decode cX10_triesLot 87 = .ok (.ifCond .ge 59, 3) := by decide +kernel
theorem dX10_triesLot_90 : decode cX10_triesLot 90 = .ok (.aload_n 0, 1) := by decide +kernel
theorem dX10_triesLot_91 : decode cX10_triesLot 91 = .ok (.iconst 1, 1) := by decide +kernel
theorem dX10_triesLot_92 : decode cX10_triesLot 92 = .ok (.putfield 200, 3) := by decide +kernel
theorem dX10_triesLot_95 : decode cX10_triesLot 95 = .ok (.aload_n 0, 1) := by decide +kernel
theorem dX10_triesLot_96 : decode cX10_triesLot 96 = .ok (.lload_n 1, 1) := by decide +kernel
theorem dX10_triesLot_97 : decode cX10_triesLot 97 = .ok (.putfield 274, 3) := by decide +kernel
theorem dX10_triesLot_100 : decode cX10_triesLot 100 = .ok (.aload_n 0, 1) := by decide +kernel
theorem dX10_triesLot_101 : decode cX10_triesLot 101 = .ok (.aload_n 0, 1) := by decide +kernel
theorem dX10_triesLot_102 : decode cX10_triesLot 102 = .ok (.getfield 260, 3) := by decide +kernel
theorem dX10_triesLot_105 : decode cX10_triesLot 105 = .ok (.putfield 277, 3) := by decide +kernel
theorem dX10_triesLot_108 : decode cX10_triesLot 108 = .ok (.aload_n 0, 1) := by decide +kernel
theorem dX10_triesLot_109 : decode cX10_triesLot 109 = .ok (.aload_n 0, 1) := by decide +kernel
theorem dX10_triesLot_110 : decode cX10_triesLot 110 = .ok (.getfield 257, 3) := by decide +kernel
theorem dX10_triesLot_113 : decode cX10_triesLot 113 = .ok (.putfield 280, 3) := by decide +kernel
theorem dX10_triesLot_116 : decode cX10_triesLot 116 = .ok (.iconst 0, 1) := by decide +kernel
theorem dX10_triesLot_117 : decode cX10_triesLot 117 = .ok (.istore_n 3, 1) := by decide +kernel
theorem dX10_triesLot_118 : decode cX10_triesLot 118 = .ok (.iload_n 3, 1) := by decide +kernel
theorem dX10_triesLot_119 : decode cX10_triesLot 119 = .ok (.aload_n 0, 1) := by decide +kernel
theorem dX10_triesLot_120 : decode cX10_triesLot 120 = .ok (.getfield 7, 3) := by decide +kernel
theorem dX10_triesLot_123 : decode cX10_triesLot 123 = .ok (.iconst 1, 1) := by decide +kernel
theorem dX10_triesLot_124 : decode cX10_triesLot 124 = .ok (.iaload, 1) := by decide +kernel
theorem dX10_triesLot_125 : decode cX10_triesLot 125 = .ok (.if_icmp .ge 21, 3) := by decide +kernel
theorem dX10_triesLot_128 : decode cX10_triesLot 128 = .ok (.aload_n 0, 1) := by decide +kernel
theorem dX10_triesLot_129 : decode cX10_triesLot 129 = .ok (.getfield 59, 3) := by decide +kernel
theorem dX10_triesLot_132 : decode cX10_triesLot 132 = .ok (.iload_n 3, 1) := by decide +kernel
theorem dX10_triesLot_133 : decode cX10_triesLot 133 = .ok (.aload_n 0, 1) := by decide +kernel
theorem dX10_triesLot_134 : decode cX10_triesLot 134 = .ok (.getfield 56, 3) := by decide +kernel
theorem dX10_triesLot_137 : decode cX10_triesLot 137 = .ok (.iload_n 3, 1) := by decide +kernel
theorem dX10_triesLot_138 : decode cX10_triesLot 138 = .ok (.iaload, 1) := by decide +kernel
theorem dX10_triesLot_139 : decode cX10_triesLot 139 = .ok (.iastore, 1) := by decide +kernel
theorem dX10_triesLot_140 : decode cX10_triesLot 140 = .ok (.iinc 3 1, 3) := by decide +kernel
theorem dX10_triesLot_143 : decode cX10_triesLot 143 = .ok (.goto (-25), 3) := by decide +kernel
theorem dX10_triesLot_146 : decode cX10_triesLot 146 = .ok (.return_, 1) := by decide +kernel
theorem dX10_buysLots_0 : decode cX10_buysLots 0 = .ok (.aload_n 0, 1) := by decide +kernel
theorem dX10_buysLots_1 : decode cX10_buysLots 1 = .ok (.iconst 0, 1) := by decide +kernel
theorem dX10_buysLots_2 : decode cX10_buysLots 2 = .ok (.putfield 200, 3) := by decide +kernel
theorem dX10_buysLots_5 : decode cX10_buysLots 5 = .ok (.iconst 0, 1) := by decide +kernel
theorem dX10_buysLots_6 : decode cX10_buysLots 6 = .ok (.istore_n 1, 1) := by decide +kernel
theorem dX10_buysLots_7 : decode cX10_buysLots 7 = .ok (.iload_n 1, 1) := by decide +kernel
theorem dX10_buysLots_8 : decode cX10_buysLots 8 = .ok (.iconst 5, 1) := by decide +kernel
theorem dX10_buysLots_9 : decode cX10_buysLots 9 = .ok (.if_icmp .ge 16, 3) := by decide +kernel
theorem dX10_buysLots_12 : decode cX10_buysLots 12 = .ok (.aload_n 0, 1) := by decide +kernel
theorem dX10_buysLots_13 : decode cX10_buysLots 13 = .ok (.getfield 56, 3) := by decide +kernel
theorem dX10_buysLots_16 : decode cX10_buysLots 16 = .ok (.iload_n 1, 1) := by decide +kernel
theorem dX10_buysLots_17 : decode cX10_buysLots 17 = .ok (.iconst 0, 1) := by decide +kernel
theorem dX10_buysLots_18 : decode cX10_buysLots 18 = .ok (.iastore, 1) := by decide +kernel
theorem dX10_buysLots_19 : decode cX10_buysLots 19 = .ok (.iinc 1 1, 3) := by decide +kernel
theorem dX10_buysLots_22 : decode cX10_buysLots 22 = .ok (.goto (-15), 3) := by decide +kernel
theorem dX10_buysLots_25 : decode cX10_buysLots 25 = .ok (.iconst 1, 1) := by decide +kernel
theorem dX10_buysLots_26 : decode cX10_buysLots 26 = .ok (.istore_n 1, 1) := by decide +kernel
theorem dX10_buysLots_27 : decode cX10_buysLots 27 = .ok (.iload_n 1, 1) := by decide +kernel
theorem dX10_buysLots_28 : decode cX10_buysLots 28 = .ok (.ifCond .eq 78, 3) := by decide +kernel
theorem dX10_buysLots_31 : decode cX10_buysLots 31 = .ok (.aload_n 0, 1) := by decide +kernel
theorem dX10_buysLots_32 : decode cX10_buysLots 32 = .ok (.invokevirtual 283, 3) := by decide +kernel
theorem dX10_buysLots_35 : decode cX10_buysLots 35 = .ok (.aload_n 0, 1) := by decide +kernel
theorem dX10_buysLots_36 : decode cX10_buysLots 36 = .ok (.getfield 7, 3) := by decide +kernel
theorem dX10_buysLots_39 : decode cX10_buysLots 39 = .ok (.iconst 1, 1) := by decide +kernel
theorem dX10_buysLots_40 : decode cX10_buysLots 40 = .ok (.iaload, 1) := by decide +kernel
theorem dX10_buysLots_41 : decode cX10_buysLots 41 = .ok (.iconst 1, 1) := by decide +kernel
theorem dX10_buysLots_42 : decode cX10_buysLots 42 = .ok (.isub, 1) := by decide +kernel
theorem dX10_buysLots_43 : decode cX10_buysLots 43 = .ok (.istore_n 2, 1) := by decide +kernel
theorem dX10_buysLots_44 : decode cX10_buysLots 44 = .ok (.iload_n 2, 1) := by decide +kernel
theorem dX10_buysLots_45 : decode cX10_buysLots 45 = .ok (.ifCond .lt 34, 3) := by decide +kernel
theorem dX10_buysLots_48 : decode cX10_buysLots 48 = .ok (.aload_n 0, 1) := by decide +kernel
theorem dX10_buysLots_49 : decode cX10_buysLots 49 = .ok (.getfield 56, 3) := by decide +kernel
theorem dX10_buysLots_52 : decode cX10_buysLots 52 = .ok (.iload_n 2, 1) := by decide +kernel
theorem dX10_buysLots_53 : decode cX10_buysLots 53 = .ok (.iaload, 1) := by decide +kernel
theorem dX10_buysLots_54 : decode cX10_buysLots 54 = .ok (.aload_n 0, 1) := by decide +kernel
theorem dX10_buysLots_55 : decode cX10_buysLots 55 = .ok (.getfield 7, 3) := by decide +kernel
theorem dX10_buysLots_58 : decode cX10_buysLots 58 = .ok (.bipush 32, 2) := by decide +kernel
theorem dX10_buysLots_60 : decode cX10_buysLots 60 = .ok (.iload_n 2, 1) := by decide +kernel
theorem dX10_buysLots_61 : decode cX10_buysLots 61 = .ok (.iadd, 1) := by decide +kernel
theorem dX10_buysLots_62 : decode cX10_buysLots 62 = .ok (.iaload, 1) := by decide +kernel
theorem dX10_buysLots_63 : decode cX10_buysLots 63 = .ok (.if_icmp .ne 16, 3) := by decide +kernel
theorem dX10_buysLots_66 : decode cX10_buysLots 66 = .ok (.aload_n 0, 1) := by decide +kernel
theorem dX10_buysLots_67 : decode cX10_buysLots 67 = .ok (.getfield 56, 3) := by decide +kernel
theorem dX10_buysLots_70 : decode cX10_buysLots 70 = .ok (.iload_n 2, 1) := by decide +kernel
theorem dX10_buysLots_71 : decode cX10_buysLots 71 = .ok (.iconst 0, 1) := by decide +kernel
theorem dX10_buysLots_72 : decode cX10_buysLots 72 = .ok (.iastore, 1) := by decide +kernel
theorem dX10_buysLots_73 : decode cX10_buysLots 73 = .ok (.iinc 2 (-1), 3) := by decide +kernel
theorem dX10_buysLots_76 : decode cX10_buysLots 76 = .ok (.goto (-32), 3) := by decide +kernel
theorem dX10_buysLots_79 : decode cX10_buysLots 79 = .ok (.iload_n 2, 1) := by decide +kernel
theorem dX10_buysLots_80 : decode cX10_buysLots 80 = .ok (.ifCond .lt 7, 3) := by decide +kernel
theorem dX10_buysLots_83 : decode cX10_buysLots 83 = .ok (.iconst 1, 1) := by decide +kernel
theorem dX10_buysLots_84 : decode cX10_buysLots 84 = .ok (.goto 4, 3) := by decide +kernel
theorem dX10_buysLots_87 : decode cX10_buysLots 87 = .ok (.iconst 0, 1) := by decide +kernel
theorem dX10_buysLots_88 : decode cX10_buysLots 88 = .ok (.istore_n 1, 1) := by decide +kernel
theorem dX10_buysLots_89 : decode cX10_buysLots 89 = .ok (.iload_n 1, 1) := by decide +kernel
theorem dX10_buysLots_90 : decode cX10_buysLots 90 = .ok (.ifCond .eq 13, 3) := by decide +kernel
theorem dX10_buysLots_93 : decode cX10_buysLots 93 = .ok (.aload_n 0, 1) := by decide +kernel
theorem dX10_buysLots_94 : decode cX10_buysLots 94 = .ok (.getfield 56, 3) := by decide +kernel
theorem dX10_buysLots_97 : decode cX10_buysLots 97 = .ok (.iload_n 2, 1) := by decide +kernel
theorem dX10_buysLots_98 : decode cX10_buysLots 98 = .ok (.dup2, 1) := by decide +kernel
theorem dX10_buysLots_99 : decode cX10_buysLots 99 = .ok (.iaload, 1) := by decide +kernel
theorem dX10_buysLots_100 : decode cX10_buysLots 100 = .ok (.iconst 1, 1) := by decide +kernel
theorem dX10_buysLots_101 : decode cX10_buysLots 101 = .ok (.iadd, 1) := by decide +kernel
theorem dX10_buysLots_102 : decode cX10_buysLots 102 = .ok (.iastore, 1) := by decide +kernel
theorem dX10_buysLots_103 : decode cX10_buysLots 103 = .ok (.goto (-76), 3) := by decide +kernel
theorem dX10_buysLots_106 : decode cX10_buysLots 106 = .ok (.return_, 1) := by decide +kernel
theorem dX10_lots_0 : decode cX10_lots 0 = .ok (.aload_n 0, 1) := by decide +kernel
theorem dX10_lots_1 : decode cX10_lots 1 = .ok (.iconst 0, 1) := by decide +kernel
theorem dX10_lots_2 : decode cX10_lots 2 = .ok (.putfield 65, 3) := by decide +kernel
theorem dX10_lots_5 : decode cX10_lots 5 = .ok (.iload_n 1, 1) := by decide +kernel
theorem dX10_lots_6 : decode cX10_lots 6 = .ok (.iconst 0, 1) := by decide +kernel
theorem dX10_lots_7 : decode cX10_lots 7 = .ok (.aload_n 0, 1) := by decide +kernel
theorem dX10_lots_8 : decode cX10_lots 8 = .ok (.getfield 7, 3) := by decide +kernel
theorem dX10_lots_11 : decode cX10_lots 11 = .ok (.iconst 1, 1) := by decide +kernel
theorem dX10_lots_12 : decode cX10_lots 12 = .ok (.iaload, 1) := by decide +kernel
theorem dX10_lots_13 : decode cX10_lots 13 = .ok (.iconst 1, 1) := by decide +kernel
theorem dX10_lots_14 : decode cX10_lots 14 = .ok (.isub, 1) := by decide +kernel
theorem dX10_lots_15 : decode cX10_lots 15 = .ok (.invokestatic 69, 3) := by decide +kernel
theorem dX10_lots_18 : decode cX10_lots 18 = .ok (.ifCond .ne 5, 3) := by decide +kernel
theorem dX10_lots_21 : decode cX10_lots 21 = .ok (.iconst (-1), 1) := by decide +kernel
theorem dX10_lots_22 : decode cX10_lots 22 = .ok (.ireturn, 1) := by decide +kernel
theorem dX10_lots_23 : decode cX10_lots 23 = .ok (.aload_n 0, 1) := by decide +kernel
theorem dX10_lots_24 : decode cX10_lots 24 = .ok (.invokevirtual 286, 3) := by decide +kernel
theorem dX10_lots_27 : decode cX10_lots 27 = .ok (.aload_n 0, 1) := by decide +kernel
theorem dX10_lots_28 : decode cX10_lots 28 = .ok (.getfield 59, 3) := by decide +kernel
theorem dX10_lots_31 : decode cX10_lots 31 = .ok (.iload_n 1, 1) := by decide +kernel
theorem dX10_lots_32 : decode cX10_lots 32 = .ok (.iaload, 1) := by decide +kernel
theorem dX10_lots_33 : decode cX10_lots 33 = .ok (.ireturn, 1) := by decide +kernel
theorem dX10_lotsCost_0 : decode cX10_lotsCost 0 = .ok (.aload_n 0, 1) := by decide +kernel
theorem dX10_lotsCost_1 : decode cX10_lotsCost 1 = .ok (.iconst 0, 1) := by decide +kernel
theorem dX10_lotsCost_2 : decode cX10_lotsCost 2 = .ok (.putfield 65, 3) := by decide +kernel
theorem dX10_lotsCost_5 : decode cX10_lotsCost 5 = .ok (.iload_n 1, 1) := by decide +kernel
theorem dX10_lotsCost_6 : decode cX10_lotsCost 6 = .ok (.iconst 0, 1) := by decide +kernel
theorem dX10_lotsCost_7 : decode cX10_lotsCost 7 = .ok (.iconst 1, 1) := by decide +kernel
theorem dX10_lotsCost_8 : decode cX10_lotsCost 8 = .ok (.invokestatic 69, 3) := by decide +kernel
theorem dX10_lotsCost_11 : decode cX10_lotsCost 11 = .ok (.ifCond .ne 7, 3) := by decide +kernel
theorem dX10_lotsCost_14 : decode cX10_lotsCost 14 = .ok (.ldc2_w 135, 3) := by decide +kernel
theorem dX10_lotsCost_17 : decode cX10_lotsCost 17 = .ok (.lreturn, 1) := by decide +kernel
theorem dX10_lotsCost_18 : decode cX10_lotsCost 18 = .ok (.aload_n 0, 1) := by decide +kernel
theorem dX10_lotsCost_19 : decode cX10_lotsCost 19 = .ok (.invokevirtual 286, 3) := by decide +kernel
theorem dX10_lotsCost_22 : decode cX10_lotsCost 22 = .ok (.iload_n 1, 1) := by decide +kernel
theorem dX10_lotsCost_23 : decode cX10_lotsCost 23 = .ok (.ifCond .ne 10, 3) := by decide +kernel
theorem dX10_lotsCost_26 : decode cX10_lotsCost 26 = .ok (.aload_n 0, 1) := by decide +kernel
theorem dX10_lotsCost_27 : decode cX10_lotsCost 27 = .ok (.getfield 274, 3) := by decide +kernel
theorem dX10_lotsCost_30 : decode cX10_lotsCost 30 = .ok (.goto 7, 3) := by decide +kernel
theorem dX10_lotsCost_33 : decode cX10_lotsCost 33 = .ok (.aload_n 0, 1) := by decide +kernel
theorem dX10_lotsCost_34 : decode cX10_lotsCost 34 = .ok (.getfield 280, 3) := by decide +kernel
theorem dX10_lotsCost_37 : decode cX10_lotsCost 37 = .ok (.aload_n 0, 1) := by decide +kernel
theorem dX10_lotsCost_38 : decode cX10_lotsCost 38 = .ok (.getfield 277, 3) := by decide +kernel
theorem dX10_lotsCost_41 : decode cX10_lotsCost 41 = .ok (.iload_n 2, 1) := by decide +kernel
theorem dX10_lotsCost_42 : decode cX10_lotsCost 42 = .ok (.invokestatic 229, 3) := by decide +kernel
theorem dX10_lotsCost_45 : decode cX10_lotsCost 45 = .ok (.lreturn, 1) := by decide +kernel
theorem dX10_take_0 : decode cX10_take 0 = .ok (.aload_n 0, 1) := by decide +kernel
theorem dX10_take_1 : decode cX10_take 1 = .ok (.iconst 0, 1) := by decide +kernel
theorem dX10_take_2 : decode cX10_take 2 = .ok (.putfield 65, 3) := by decide +kernel
theorem dX10_take_5 : decode cX10_take 5 = .ok (.aload_n 0, 1) := by decide +kernel
theorem dX10_take_6 : decode cX10_take 6 = .ok (.invokevirtual 286, 3) := by decide +kernel
theorem dX10_take_9 : decode cX10_take 9 = .ok (.iconst 0, 1) := by decide +kernel
theorem dX10_take_10 : decode cX10_take 10 = .ok (.istore_n 1, 1) := by decide +kernel
theorem dX10_take_11 : decode cX10_take 11 = .ok (.iload_n 1, 1) := by decide +kernel
theorem dX10_take_12 : decode cX10_take 12 = .ok (.aload_n 0, 1) := by decide +kernel
theorem dX10_take_13 : decode cX10_take 13 = .ok (.getfield 7, 3) := by decide +kernel
theorem dX10_take_16 : decode cX10_take 16 = .ok (.iconst 1, 1) := by decide +kernel
theorem dX10_take_17 : decode cX10_take 17 = .ok (.iaload, 1) := by decide +kernel
theorem dX10_take_18 : decode cX10_take 18 = .ok (.if_icmp .ge 24, 3) := by decide +kernel
theorem dX10_take_21 : decode cX10_take 21 = .ok (.aload_n 0, 1) := by decide +kernel
theorem dX10_take_22 : decode cX10_take 22 = .ok (.getfield 7, 3) := by decide +kernel
theorem dX10_take_25 : decode cX10_take 25 = .ok (.bipush 42, 2) := by decide +kernel
theorem dX10_take_27 : decode cX10_take 27 = .ok (.iload_n 1, 1) := by decide +kernel
theorem dX10_take_28 : decode cX10_take 28 = .ok (.iadd, 1) := by decide +kernel
theorem dX10_take_29 : decode cX10_take 29 = .ok (.aload_n 0, 1) := by decide +kernel
theorem dX10_take_30 : decode cX10_take 30 = .ok (.getfield 59, 3) := by decide +kernel
theorem dX10_take_33 : decode cX10_take 33 = .ok (.iload_n 1, 1) := by decide +kernel
theorem dX10_take_34 : decode cX10_take 34 = .ok (.iaload, 1) := by decide +kernel
theorem dX10_take_35 : decode cX10_take 35 = .ok (.iastore, 1) := by decide +kernel
theorem dX10_take_36 : decode cX10_take 36 = .ok (.iinc 1 1, 3) := by decide +kernel
theorem dX10_take_39 : decode cX10_take 39 = .ok (.goto (-28), 3) := by decide +kernel
theorem dX10_take_42 : decode cX10_take 42 = .ok (.aload_n 0, 1) := by decide +kernel
theorem dX10_take_43 : decode cX10_take 43 = .ok (.aload_n 0, 1) := by decide +kernel
theorem dX10_take_44 : decode cX10_take 44 = .ok (.getfield 280, 3) := by decide +kernel
theorem dX10_take_47 : decode cX10_take 47 = .ok (.aload_n 0, 1) := by decide +kernel
theorem dX10_take_48 : decode cX10_take 48 = .ok (.getfield 277, 3) := by decide +kernel
theorem dX10_take_51 : decode cX10_take 51 = .ok (.ladd, 1) := by decide +kernel
theorem dX10_take_52 : decode cX10_take 52 = .ok (.lconst 1, 1) := by decide +kernel
theorem dX10_take_53 : decode cX10_take 53 = .ok (.lsub, 1) := by decide +kernel
theorem dX10_take_54 : decode cX10_take 54 = .ok (.aload_n 0, 1) := by decide +kernel
theorem dX10_take_55 : decode cX10_take 55 = .ok (.getfield 277, 3) := by decide +kernel
theorem dX10_take_58 : decode cX10_take 58 = .ok (.ldiv, 1) := by decide +kernel
theorem dX10_take_59 : decode cX10_take 59 = .ok (.l2i, 1) := by decide +kernel
theorem dX10_take_60 : decode cX10_take 60 = .ok (.putfield 99, 3) := by decide +kernel
theorem dX10_take_63 : decode cX10_take 63 = .ok (.aload_n 0, 1) := by decide +kernel
theorem dX10_take_64 : decode cX10_take 64 = .ok (.getfield 99, 3) := by decide +kernel
theorem dX10_take_67 : decode cX10_take 67 = .ok (.ireturn, 1) := by decide +kernel
theorem dX10_failsAt_0 : decode cX10_failsAt 0 = .ok (.iconst 1, 1) := by decide +kernel
theorem dX10_failsAt_1 : decode cX10_failsAt 1 = .ok (.istore_n 1, 1) := by decide +kernel
theorem dX10_failsAt_2 : decode cX10_failsAt 2 = .ok (.iload_n 1, 1) := by decide +kernel
theorem dX10_failsAt_3 : decode cX10_failsAt 3 = .ok (.aload_n 0, 1) := by decide +kernel
theorem dX10_failsAt_4 : decode cX10_failsAt 4 = .ok (.getfield 7, 3) := by decide +kernel
theorem dX10_failsAt_7 : decode cX10_failsAt 7 = .ok (.iconst 0, 1) := by decide +kernel
theorem dX10_failsAt_8 : decode cX10_failsAt 8 = .ok (.iaload, 1) := by decide +kernel
theorem dX10_failsAt_9 : decode cX10_failsAt 9 = .ok (.if_icmp .gt 22, 3) := by decide +kernel
theorem dX10_failsAt_12 : decode cX10_failsAt 12 = .ok (.aload_n 0, 1) := by decide +kernel
theorem dX10_failsAt_13 : decode cX10_failsAt 13 = .ok (.getfield 62, 3) := by decide +kernel
theorem dX10_failsAt_16 : decode cX10_failsAt 16 = .ok (.iload_n 1, 1) := by decide +kernel
theorem dX10_failsAt_17 : decode cX10_failsAt 17 = .ok (.laload, 1) := by decide +kernel
theorem dX10_failsAt_18 : decode cX10_failsAt 18 = .ok (.lconst 0, 1) := by decide +kernel
theorem dX10_failsAt_19 : decode cX10_failsAt 19 = .ok (.lcmp, 1) := by decide +kernel
theorem dX10_failsAt_20 : decode cX10_failsAt 20 = .ok (.ifCond .ge 5, 3) := by decide +kernel
theorem dX10_failsAt_23 : decode cX10_failsAt 23 = .ok (.iload_n 1, 1) := by decide +kernel
theorem dX10_failsAt_24 : decode cX10_failsAt 24 = .ok (.ireturn, 1) := by decide +kernel
theorem dX10_failsAt_25 : decode cX10_failsAt 25 = .ok (.iinc 1 1, 3) := by decide +kernel
theorem dX10_failsAt_28 : decode cX10_failsAt 28 = .ok (.goto (-26), 3) := by decide +kernel
theorem dX10_failsAt_31 : decode cX10_failsAt 31 = .ok (.iconst 0, 1) := by decide +kernel
theorem dX10_failsAt_32 : decode cX10_failsAt 32 = .ok (.ireturn, 1) := by decide +kernel
theorem dX10_fails__0 : decode cX10_fails_ 0 = .ok (.aload_n 0, 1) := by decide +kernel
theorem dX10_fails__1 : decode cX10_fails_ 1 = .ok (.iconst 0, 1) := by decide +kernel
theorem dX10_fails__2 : decode cX10_fails_ 2 = .ok (.putfield 65, 3) := by decide +kernel
theorem dX10_fails__5 : decode cX10_fails_ 5 = .ok (.aload_n 0, 1) := by decide +kernel
theorem dX10_fails__6 : decode cX10_fails_ 6 = .ok (.aload_n 0, 1) := by decide +kernel
theorem dX10_fails__7 : decode cX10_fails_ 7 = .ok (.getfield 7, 3) := by decide +kernel
theorem dX10_fails__10 : decode cX10_fails_ 10 = .ok (.bipush 42, 2) := by decide +kernel
theorem dX10_fails__12 : decode cX10_fails_ 12 = .ok (.aload_n 0, 1) := by decide +kernel
theorem dX10_fails__13 : decode cX10_fails_ 13 = .ok (.getfield 99, 3) := by decide +kernel
theorem dX10_fails__16 : decode cX10_fails_ 16 = .ok (.invokevirtual 267, 3) := by decide +kernel
theorem dX10_fails__19 : decode cX10_fails_ 19 = .ok (.aload_n 0, 1) := by decide +kernel
theorem dX10_fails__20 : decode cX10_fails_ 20 = .ok (.invokevirtual 289, 3) := by decide +kernel
theorem dX10_fails__23 : decode cX10_fails_ 23 = .ok (.ireturn, 1) := by decide +kernel
theorem dX10_balance_0 : decode cX10_balance 0 = .ok (.aload_n 0, 1) := by decide +kernel
theorem dX10_balance_1 : decode cX10_balance 1 = .ok (.iconst 0, 1) := by decide +kernel
theorem dX10_balance_2 : decode cX10_balance 2 = .ok (.putfield 65, 3) := by decide +kernel
theorem dX10_balance_5 : decode cX10_balance 5 = .ok (.aload_n 0, 1) := by decide +kernel
theorem dX10_balance_6 : decode cX10_balance 6 = .ok (.aload_n 0, 1) := by decide +kernel
theorem dX10_balance_7 : decode cX10_balance 7 = .ok (.getfield 7, 3) := by decide +kernel
theorem dX10_balance_10 : decode cX10_balance 10 = .ok (.bipush 42, 2) := by decide +kernel
theorem dX10_balance_12 : decode cX10_balance 12 = .ok (.aload_n 0, 1) := by decide +kernel
theorem dX10_balance_13 : decode cX10_balance 13 = .ok (.getfield 99, 3) := by decide +kernel
theorem dX10_balance_16 : decode cX10_balance 16 = .ok (.invokevirtual 267, 3) := by decide +kernel
theorem dX10_balance_19 : decode cX10_balance 19 = .ok (.aload_n 0, 1) := by decide +kernel
theorem dX10_balance_20 : decode cX10_balance 20 = .ok (.invokevirtual 289, 3) := by decide +kernel
theorem dX10_balance_23 : decode cX10_balance 23 = .ok (.istore_n 3, 1) := by decide +kernel
theorem dX10_balance_24 : decode cX10_balance 24 = .ok (.iload_n 1, 1) := by decide +kernel
theorem dX10_balance_25 : decode cX10_balance 25 = .ok (.iconst 0, 1) := by decide +kernel
theorem dX10_balance_26 : decode cX10_balance 26 = .ok (.aload_n 0, 1) := by decide +kernel
theorem dX10_balance_27 : decode cX10_balance 27 = .ok (.getfield 7, 3) := by decide +kernel
theorem dX10_balance_30 : decode cX10_balance 30 = .ok (.iconst 0, 1) := by decide +kernel
theorem dX10_balance_31 : decode cX10_balance 31 = .ok (.iaload, 1) := by decide +kernel
theorem dX10_balance_32 : decode cX10_balance 32 = .ok (.invokestatic 69, 3) := by decide +kernel
theorem dX10_balance_35 : decode cX10_balance 35 = .ok (.ifCond .eq 30, 3) := by decide +kernel
theorem dX10_balance_38 : decode cX10_balance 38 = .ok (.iload_n 3, 1) := by decide +kernel
theorem dX10_balance_39 : decode cX10_balance 39 = .ok (.ifCond .eq 8, 3) := by decide +kernel
theorem dX10_balance_42 : decode cX10_balance 42 = .ok (.iload_n 1, 1) := by decide +kernel
theorem dX10_balance_43 : decode cX10_balance 43 = .ok (.iload_n 3, 1) := by decide +kernel
theorem dX10_balance_44 : decode cX10_balance 44 = .ok (.if_icmp .ge 21, 3) := by decide +kernel
theorem dX10_balance_47 : decode cX10_balance 47 = .ok (.aload_n 0, 1) := by decide +kernel
theorem dX10_balance_48 : decode cX10_balance 48 = .ok (.getfield 62, 3) := by decide +kernel
theorem dX10_balance_51 : decode cX10_balance 51 = .ok (.iload_n 1, 1) := by decide +kernel
theorem dX10_balance_52 : decode cX10_balance 52 = .ok (.laload, 1) := by decide +kernel
theorem dX10_balance_53 : decode cX10_balance 53 = .ok (.aload_n 0, 1) := by decide +kernel
theorem dX10_balance_54 : decode cX10_balance 54 = .ok (.iload_n 1, 1) := by decide +kernel
theorem dX10_balance_55 : decode cX10_balance 55 = .ok (.invokevirtual 254, 3) := by decide +kernel
theorem dX10_balance_58 : decode cX10_balance 58 = .ok (.iload_n 2, 1) := by decide +kernel
theorem dX10_balance_59 : decode cX10_balance 59 = .ok (.invokestatic 229, 3) := by decide +kernel
theorem dX10_balance_62 : decode cX10_balance 62 = .ok (.goto 6, 3) := by decide +kernel
theorem dX10_balance_65 : decode cX10_balance 65 = .ok (.ldc2_w 135, 3) := by decide +kernel
theorem dX10_balance_68 : decode cX10_balance 68 = .ok (.lreturn, 1) := by decide +kernel
theorem dX10_need_0 : decode cX10_need 0 = .ok (.aload_n 0, 1) := by decide +kernel
theorem dX10_need_1 : decode cX10_need 1 = .ok (.iconst 0, 1) := by decide +kernel
theorem dX10_need_2 : decode cX10_need 2 = .ok (.putfield 65, 3) := by decide +kernel
theorem dX10_need_5 : decode cX10_need 5 = .ok (.aload_n 0, 1) := by decide +kernel
theorem dX10_need_6 : decode cX10_need 6 = .ok (.aload_n 0, 1) := by decide +kernel
theorem dX10_need_7 : decode cX10_need 7 = .ok (.getfield 7, 3) := by decide +kernel
theorem dX10_need_10 : decode cX10_need 10 = .ok (.bipush 42, 2) := by decide +kernel
theorem dX10_need_12 : decode cX10_need 12 = .ok (.iconst 0, 1) := by decide +kernel
theorem dX10_need_13 : decode cX10_need 13 = .ok (.invokevirtual 267, 3) := by decide +kernel
theorem dX10_need_16 : decode cX10_need 16 = .ok (.aload_n 0, 1) := by decide +kernel
theorem dX10_need_17 : decode cX10_need 17 = .ok (.iconst 0, 1) := by decide +kernel
theorem dX10_need_18 : decode cX10_need 18 = .ok (.invokevirtual 271, 3) := by decide +kernel
theorem dX10_need_21 : decode cX10_need 21 = .ok (.aload_n 0, 1) := by decide +kernel
theorem dX10_need_22 : decode cX10_need 22 = .ok (.getfield 257, 3) := by decide +kernel
theorem dX10_need_25 : decode cX10_need 25 = .ok (.aload_n 0, 1) := by decide +kernel
theorem dX10_need_26 : decode cX10_need 26 = .ok (.getfield 260, 3) := by decide +kernel
theorem dX10_need_29 : decode cX10_need 29 = .ok (.iload_n 1, 1) := by decide +kernel
theorem dX10_need_30 : decode cX10_need 30 = .ok (.invokestatic 229, 3) := by decide +kernel
theorem dX10_need_33 : decode cX10_need 33 = .ok (.lreturn, 1) := by decide +kernel
theorem dX10_lack_0 : decode cX10_lack 0 = .ok (.aload_n 0, 1) := by decide +kernel
theorem dX10_lack_1 : decode cX10_lack 1 = .ok (.iconst 0, 1) := by decide +kernel
theorem dX10_lack_2 : decode cX10_lack 2 = .ok (.putfield 65, 3) := by decide +kernel
theorem dX10_lack_5 : decode cX10_lack 5 = .ok (.aload_n 0, 1) := by decide +kernel
theorem dX10_lack_6 : decode cX10_lack 6 = .ok (.aload_n 0, 1) := by decide +kernel
theorem dX10_lack_7 : decode cX10_lack 7 = .ok (.getfield 7, 3) := by decide +kernel
theorem dX10_lack_10 : decode cX10_lack 10 = .ok (.bipush 42, 2) := by decide +kernel
theorem dX10_lack_12 : decode cX10_lack 12 = .ok (.aload_n 0, 1) := by decide +kernel
theorem dX10_lack_13 : decode cX10_lack 13 = .ok (.getfield 99, 3) := by decide +kernel
theorem dX10_lack_16 : decode cX10_lack 16 = .ok (.invokevirtual 267, 3) := by decide +kernel
theorem dX10_lack_19 : decode cX10_lack 19 = .ok (.aload_n 0, 1) := by decide +kernel
theorem dX10_lack_20 : decode cX10_lack 20 = .ok (.invokevirtual 289, 3) := by decide +kernel
theorem dX10_lack_23 : decode cX10_lack 23 = .ok (.istore_n 3, 1) := by decide +kernel
theorem dX10_lack_24 : decode cX10_lack 24 = .ok (.iload_n 1, 1) := by decide +kernel
theorem dX10_lack_25 : decode cX10_lack 25 = .ok (.iconst 0, 1) := by decide +kernel
theorem dX10_lack_26 : decode cX10_lack 26 = .ok (.aload_n 0, 1) := by decide +kernel
theorem dX10_lack_27 : decode cX10_lack 27 = .ok (.getfield 7, 3) := by decide +kernel
theorem dX10_lack_30 : decode cX10_lack 30 = .ok (.iconst 0, 1) := by decide +kernel
theorem dX10_lack_31 : decode cX10_lack 31 = .ok (.iaload, 1) := by decide +kernel
theorem dX10_lack_32 : decode cX10_lack 32 = .ok (.invokestatic 69, 3) := by decide +kernel
theorem dX10_lack_35 : decode cX10_lack 35 = .ok (.ifCond .eq 12, 3) := by decide +kernel
theorem dX10_lack_38 : decode cX10_lack 38 = .ok (.iload_n 3, 1) := by decide +kernel
theorem dX10_lack_39 : decode cX10_lack 39 = .ok (.ifCond .le 12, 3) := by decide +kernel
theorem dX10_lack_42 : decode cX10_lack 42 = .ok (.iload_n 3, 1) := by decide +kernel
theorem dX10_lack_43 : decode cX10_lack 43 = .ok (.iload_n 1, 1) := by decide +kernel
theorem dX10_lack_44 : decode cX10_lack 44 = .ok (.if_icmp .ge 7, 3) := by decide +kernel
theorem dX10_lack_47 : decode cX10_lack 47 = .ok (.ldc2_w 135, 3) := by decide +kernel
theorem dX10_lack_50 : decode cX10_lack 50 = .ok (.lreturn, 1) := by decide +kernel
theorem dX10_lack_51 : decode cX10_lack 51 = .ok (.aload_n 0, 1) := by decide +kernel
theorem dX10_lack_52 : decode cX10_lack 52 = .ok (.iload_n 1, 1) := by decide +kernel
theorem dX10_lack_53 : decode cX10_lack 53 = .ok (.invokevirtual 271, 3) := by decide +kernel
theorem dX10_lack_56 : decode cX10_lack 56 = .ok (.aload_n 0, 1) := by decide +kernel
theorem dX10_lack_57 : decode cX10_lack 57 = .ok (.getfield 257, 3) := by decide +kernel
theorem dX10_lack_60 : decode cX10_lack 60 = .ok (.aload_n 0, 1) := by decide +kernel
theorem dX10_lack_61 : decode cX10_lack 61 = .ok (.getfield 260, 3) := by decide +kernel
theorem dX10_lack_64 : decode cX10_lack 64 = .ok (.iload_n 2, 1) := by decide +kernel
theorem dX10_lack_65 : decode cX10_lack 65 = .ok (.invokestatic 229, 3) := by decide +kernel
theorem dX10_lack_68 : decode cX10_lack 68 = .ok (.lreturn, 1) := by decide +kernel
theorem dJ6_bitCount_0f7a4_0 : decode cJ6_bitCount_0f7a4 0 = .ok (.iload_n 0, 1) := by decide +kernel
theorem dJ6_bitCount_0f7a4_1 : decode cJ6_bitCount_0f7a4 1 = .ok (.iload_n 0, 1) := by decide +kernel
theorem dJ6_bitCount_0f7a4_2 : decode cJ6_bitCount_0f7a4 2 = .ok (.iconst 1, 1) := by decide +kernel
theorem dJ6_bitCount_0f7a4_3 : decode cJ6_bitCount_0f7a4 3 = .ok (.iushr, 1) := by decide +kernel
theorem dJ6_bitCount_0f7a4_4 : decode cJ6_bitCount_0f7a4 4 = .ok (.ldc_w 265, 3) := by decide +kernel
theorem dJ6_bitCount_0f7a4_7 : decode cJ6_bitCount_0f7a4 7 = .ok (.iand, 1) := by decide +kernel
theorem dJ6_bitCount_0f7a4_8 : decode cJ6_bitCount_0f7a4 8 = .ok (.isub, 1) := by decide +kernel
theorem dJ6_bitCount_0f7a4_9 : decode cJ6_bitCount_0f7a4 9 = .ok (.istore_n 0, 1) := by decide +kernel
theorem dJ6_bitCount_0f7a4_10 : decode cJ6_bitCount_0f7a4 10 = .ok (.iload_n 0, 1) := by decide +kernel
theorem dJ6_bitCount_0f7a4_11 : decode cJ6_bitCount_0f7a4 11 = .ok (.ldc_w 266, 3) := by decide +kernel
theorem dJ6_bitCount_0f7a4_14 : decode cJ6_bitCount_0f7a4 14 = .ok (.iand, 1) := by decide +kernel
theorem dJ6_bitCount_0f7a4_15 : decode cJ6_bitCount_0f7a4 15 = .ok (.iload_n 0, 1) := by decide +kernel
theorem dJ6_bitCount_0f7a4_16 : decode cJ6_bitCount_0f7a4 16 = .ok (.iconst 2, 1) := by decide +kernel
theorem dJ6_bitCount_0f7a4_17 : decode cJ6_bitCount_0f7a4 17 = .ok (.iushr, 1) := by decide +kernel
theorem dJ6_bitCount_0f7a4_18 : decode cJ6_bitCount_0f7a4 18 = .ok (.ldc_w 266, 3) := by decide +kernel
theorem dJ6_bitCount_0f7a4_21 : decode cJ6_bitCount_0f7a4 21 = .ok (.iand, 1) := by decide +kernel
theorem dJ6_bitCount_0f7a4_22 : decode cJ6_bitCount_0f7a4 22 = .ok (.iadd, 1) := by decide +kernel
theorem dJ6_bitCount_0f7a4_23 : decode cJ6_bitCount_0f7a4 23 = .ok (.istore_n 0, 1) := by decide +kernel
theorem dJ6_bitCount_0f7a4_24 : decode cJ6_bitCount_0f7a4 24 = .ok (.iload_n 0, 1) := by decide +kernel
theorem dJ6_bitCount_0f7a4_25 : decode cJ6_bitCount_0f7a4 25 = .ok (.iload_n 0, 1) := by decide +kernel
theorem dJ6_bitCount_0f7a4_26 : decode cJ6_bitCount_0f7a4 26 = .ok (.iconst 4, 1) := by decide +kernel
theorem dJ6_bitCount_0f7a4_27 : decode cJ6_bitCount_0f7a4 27 = .ok (.iushr, 1) := by decide +kernel
theorem dJ6_bitCount_0f7a4_28 : decode cJ6_bitCount_0f7a4 28 = .ok (.iadd, 1) := by decide +kernel
theorem dJ6_bitCount_0f7a4_29 : decode cJ6_bitCount_0f7a4 29 = .ok (.ldc_w 267, 3) := by decide +kernel
theorem dJ6_bitCount_0f7a4_32 : decode cJ6_bitCount_0f7a4 32 = .ok (.iand, 1) := by decide +kernel
theorem dJ6_bitCount_0f7a4_33 : decode cJ6_bitCount_0f7a4 33 = .ok (.istore_n 0, 1) := by decide +kernel
theorem dJ6_bitCount_0f7a4_34 : decode cJ6_bitCount_0f7a4 34 = .ok (.iload_n 0, 1) := by decide +kernel
theorem dJ6_bitCount_0f7a4_35 : decode cJ6_bitCount_0f7a4 35 = .ok (.iload_n 0, 1) := by decide +kernel
theorem dJ6_bitCount_0f7a4_36 : decode cJ6_bitCount_0f7a4 36 = .ok (.bipush 8, 2) := by decide +kernel
theorem dJ6_bitCount_0f7a4_38 : decode cJ6_bitCount_0f7a4 38 = .ok (.iushr, 1) := by decide +kernel
theorem dJ6_bitCount_0f7a4_39 : decode cJ6_bitCount_0f7a4 39 = .ok (.iadd, 1) := by decide +kernel
theorem dJ6_bitCount_0f7a4_40 : decode cJ6_bitCount_0f7a4 40 = .ok (.istore_n 0, 1) := by decide +kernel
theorem dJ6_bitCount_0f7a4_41 : decode cJ6_bitCount_0f7a4 41 = .ok (.iload_n 0, 1) := by decide +kernel
theorem dJ6_bitCount_0f7a4_42 : decode cJ6_bitCount_0f7a4 42 = .ok (.iload_n 0, 1) := by decide +kernel
theorem dJ6_bitCount_0f7a4_43 : decode cJ6_bitCount_0f7a4 43 = .ok (.bipush 16, 2) := by decide +kernel
theorem dJ6_bitCount_0f7a4_45 : decode cJ6_bitCount_0f7a4 45 = .ok (.iushr, 1) := by decide +kernel
theorem dJ6_bitCount_0f7a4_46 : decode cJ6_bitCount_0f7a4 46 = .ok (.iadd, 1) := by decide +kernel
theorem dJ6_bitCount_0f7a4_47 : decode cJ6_bitCount_0f7a4 47 = .ok (.istore_n 0, 1) := by decide +kernel
theorem dJ6_bitCount_0f7a4_48 : decode cJ6_bitCount_0f7a4 48 = .ok (.iload_n 0, 1) := by decide +kernel
theorem dJ6_bitCount_0f7a4_49 : decode cJ6_bitCount_0f7a4 49 = .ok (.bipush 63, 2) := by decide +kernel
theorem dJ6_bitCount_0f7a4_51 : decode cJ6_bitCount_0f7a4 51 = .ok (.iand, 1) := by decide +kernel
theorem dJ6_bitCount_0f7a4_52 : decode cJ6_bitCount_0f7a4 52 = .ok (.ireturn, 1) := by decide +kernel
theorem dJ13_compare_74951_0 : decode cJ13_compare_74951 0 = .ok (.lload_n 0, 1) := by decide +kernel
theorem dJ13_compare_74951_1 : decode cJ13_compare_74951 1 = .ok (.lload_n 2, 1) := by decide +kernel
theorem dJ13_compare_74951_2 : decode cJ13_compare_74951 2 = .ok (.lcmp, 1) := by decide +kernel
theorem dJ13_compare_74951_3 : decode cJ13_compare_74951 3 = .ok (.ifCond .ge 7, 3) := by decide +kernel
theorem dJ13_compare_74951_6 : decode cJ13_compare_74951 6 = .ok (.iconst (-1), 1) := by decide +kernel
theorem dJ13_compare_74951_7 : decode cJ13_compare_74951 7 = .ok (.goto 14, 3) := by decide +kernel
theorem dJ13_compare_74951_10 : decode cJ13_compare_74951 10 = .ok (.lload_n 0, 1) := by decide +kernel
theorem dJ13_compare_74951_11 : decode cJ13_compare_74951 11 = .ok (.lload_n 2, 1) := by decide +kernel
theorem dJ13_compare_74951_12 : decode cJ13_compare_74951 12 = .ok (.lcmp, 1) := by decide +kernel
theorem dJ13_compare_74951_13 : decode cJ13_compare_74951 13 = .ok (.ifCond .ne 7, 3) := by decide +kernel
theorem dJ13_compare_74951_16 : decode cJ13_compare_74951 16 = .ok (.iconst 0, 1) := by decide +kernel
theorem dJ13_compare_74951_17 : decode cJ13_compare_74951 17 = .ok (.goto 4, 3) := by decide +kernel
theorem dJ13_compare_74951_20 : decode cJ13_compare_74951 20 = .ok (.iconst 1, 1) := by decide +kernel
theorem dJ13_compare_74951_21 : decode cJ13_compare_74951 21 = .ok (.ireturn, 1) := by decide +kernel
theorem dJ9_max_f86c9_0 : decode cJ9_max_f86c9 0 = .ok (.lload_n 0, 1) := by decide +kernel
theorem dJ9_max_f86c9_1 : decode cJ9_max_f86c9 1 = .ok (.lload_n 2, 1) := by decide +kernel
theorem dJ9_max_f86c9_2 : decode cJ9_max_f86c9 2 = .ok (.lcmp, 1) := by decide +kernel
theorem dJ9_max_f86c9_3 : decode cJ9_max_f86c9 3 = .ok (.ifCond .lt 7, 3) := by decide +kernel
theorem dJ9_max_f86c9_6 : decode cJ9_max_f86c9 6 = .ok (.lload_n 0, 1) := by decide +kernel
theorem dJ9_max_f86c9_7 : decode cJ9_max_f86c9 7 = .ok (.goto 4, 3) := by decide +kernel
theorem dJ9_max_f86c9_10 : decode cJ9_max_f86c9 10 = .ok (.lload_n 2, 1) := by decide +kernel
theorem dJ9_max_f86c9_11 : decode cJ9_max_f86c9 11 = .ok (.lreturn, 1) := by decide +kernel
theorem dJ0_length_8abf5_0 : decode cJ0_length_8abf5 0 = .ok (.aload_n 0, 1) := by decide +kernel
theorem dJ0_length_8abf5_1 : decode cJ0_length_8abf5 1 = .ok (.getfield 9, 3) := by decide +kernel
theorem dJ0_length_8abf5_4 : decode cJ0_length_8abf5 4 = .ok (.arraylength, 1) := by decide +kernel
theorem dJ0_length_8abf5_5 : decode cJ0_length_8abf5 5 = .ok (.aload_n 0, 1) := by decide +kernel
theorem dJ0_length_8abf5_6 : decode cJ0_length_8abf5 6 = .ok (.invokevirtual 335, 3) := by decide +kernel
theorem dJ0_length_8abf5_9 : decode cJ0_length_8abf5 9 = .ok (.ishr, 1) := by decide +kernel
theorem dJ0_length_8abf5_10 : decode cJ0_length_8abf5 10 = .ok (.ireturn, 1) := by decide +kernel
theorem dJ0_charAt_5068e_0 : decode cJ0_charAt_5068e 0 = .ok (.aload_n 0, 1) := by decide +kernel
theorem dJ0_charAt_5068e_1 : decode cJ0_charAt_5068e 1 = .ok (.invokevirtual 492, 3) := by decide +kernel
theorem dJ0_charAt_5068e_4 : decode cJ0_charAt_5068e 4 = .ok (.ifCond .eq 12, 3) := by decide +kernel
theorem dJ0_charAt_5068e_7 : decode cJ0_charAt_5068e 7 = .ok (.aload_n 0, 1) := by decide +kernel
theorem dJ0_charAt_5068e_8 : decode cJ0_charAt_5068e 8 = .ok (.getfield 9, 3) := by decide +kernel
theorem dJ0_charAt_5068e_11 : decode cJ0_charAt_5068e 11 = .ok (.iload_n 1, 1) := by decide +kernel
theorem dJ0_charAt_5068e_12 : decode cJ0_charAt_5068e 12 = .ok (.invokestatic 495, 3) := by decide +kernel
theorem dJ0_charAt_5068e_15 : decode cJ0_charAt_5068e 15 = .ok (.ireturn, 1) := by decide +kernel
theorem dJ0_charAt_5068e_16 : decode cJ0_charAt_5068e 16 = .ok (.aload_n 0, 1) := by decide +kernel
theorem dJ0_charAt_5068e_17 : decode cJ0_charAt_5068e 17 = .ok (.getfield 9, 3) := by decide +kernel
theorem dJ0_charAt_5068e_20 : decode cJ0_charAt_5068e 20 = .ok (.iload_n 1, 1) := by decide +kernel
theorem dJ0_charAt_5068e_21 : decode cJ0_charAt_5068e 21 = .ok (.invokestatic 498, 3) := by decide +kernel
theorem dJ0_charAt_5068e_24 : decode cJ0_charAt_5068e 24 = .ok (.ireturn, 1) := by decide +kernel
theorem dJ0_coder_7d493_0 : decode cJ0_coder_7d493 0 = .ok (.getstatic 38, 3) := by decide +kernel
theorem dJ0_coder_7d493_3 : decode cJ0_coder_7d493 3 = .ok (.ifCond .eq 10, 3) := by decide +kernel
theorem dJ0_coder_7d493_6 : decode cJ0_coder_7d493 6 = .ok (.aload_n 0, 1) := by decide +kernel
theorem dJ0_coder_7d493_7 : decode cJ0_coder_7d493 7 = .ok (.getfield 15, 3) := by decide +kernel
theorem dJ0_coder_7d493_10 : decode cJ0_coder_7d493 10 = .ok (.goto 4, 3) := by decide +kernel
theorem dJ0_coder_7d493_13 : decode cJ0_coder_7d493 13 = .ok (.iconst 1, 1) := by decide +kernel
theorem dJ0_coder_7d493_14 : decode cJ0_coder_7d493 14 = .ok (.ireturn, 1) := by decide +kernel
theorem dJ0_isLatin1_aae02_0 : decode cJ0_isLatin1_aae02 0 = .ok (.getstatic 38, 3) := by decide +kernel
theorem dJ0_isLatin1_aae02_3 : decode cJ0_isLatin1_aae02 3 = .ok (.ifCond .eq 14, 3) := by decide +kernel
theorem dJ0_isLatin1_aae02_6 : decode cJ0_isLatin1_aae02 6 = .ok (.aload_n 0, 1) := by decide +kernel
theorem dJ0_isLatin1_aae02_7 : decode cJ0_isLatin1_aae02 7 = .ok (.getfield 15, 3) := by decide +kernel
theorem dJ0_isLatin1_aae02_10 : decode cJ0_isLatin1_aae02 10 = .ok (.ifCond .ne 7, 3) := by decide +kernel
theorem dJ0_isLatin1_aae02_13 : decode cJ0_isLatin1_aae02 13 = .ok (.iconst 1, 1) := by decide +kernel
theorem dJ0_isLatin1_aae02_14 : decode cJ0_isLatin1_aae02 14 = .ok (.goto 4, 3) := by decide +kernel
theorem dJ0_isLatin1_aae02_17 : decode cJ0_isLatin1_aae02 17 = .ok (.iconst 0, 1) := by decide +kernel
theorem dJ0_isLatin1_aae02_18 : decode cJ0_isLatin1_aae02 18 = .ok (.ireturn, 1) := by decide +kernel
theorem dJ0_checkIndex_df160_0 : decode cJ0_checkIndex_df160 0 = .ok (.iload_n 0, 1) := by decide +kernel
theorem dJ0_checkIndex_df160_1 : decode cJ0_checkIndex_df160 1 = .ok (.iload_n 1, 1) := by decide +kernel
theorem dJ0_checkIndex_df160_2 : decode cJ0_checkIndex_df160 2 = .ok (.getstatic 1053, 3) := by decide +kernel
theorem dJ0_checkIndex_df160_5 : decode cJ0_checkIndex_df160 5 = .ok (.invokestatic 1059, 3) := by decide +kernel
theorem dJ0_checkIndex_df160_8 : decode cJ0_checkIndex_df160 8 = .ok (.pop, 1) := by decide +kernel
theorem dJ0_checkIndex_df160_9 : decode cJ0_checkIndex_df160 9 = .ok (.return_, 1) := by decide +kernel
theorem dJ1_charAt_3b067_0 : decode cJ1_charAt_3b067 0 = .ok (.iload_n 1, 1) := by decide +kernel
theorem dJ1_charAt_3b067_1 : decode cJ1_charAt_3b067 1 = .ok (.aload_n 0, 1) := by decide +kernel
theorem dJ1_charAt_3b067_2 : decode cJ1_charAt_3b067 2 = .ok (.arraylength, 1) := by decide +kernel
theorem dJ1_charAt_3b067_3 : decode cJ1_charAt_3b067 3 = .ok (.invokestatic 9, 3) := by decide +kernel
theorem dJ1_charAt_3b067_6 : decode cJ1_charAt_3b067 6 = .ok (.aload_n 0, 1) := by decide +kernel
theorem dJ1_charAt_3b067_7 : decode cJ1_charAt_3b067 7 = .ok (.iload_n 1, 1) := by decide +kernel
theorem dJ1_charAt_3b067_8 : decode cJ1_charAt_3b067 8 = .ok (.baload, 1) := by decide +kernel
theorem dJ1_charAt_3b067_9 : decode cJ1_charAt_3b067 9 = .ok (.sipush 255, 3) := by decide +kernel
theorem dJ1_charAt_3b067_12 : decode cJ1_charAt_3b067 12 = .ok (.iand, 1) := by decide +kernel
theorem dJ1_charAt_3b067_13 : decode cJ1_charAt_3b067 13 = .ok (.i2c, 1) := by decide +kernel
theorem dJ1_charAt_3b067_14 : decode cJ1_charAt_3b067 14 = .ok (.ireturn, 1) := by decide +kernel
theorem dJ2_getChar_3b067_0 : decode cJ2_getChar_3b067 0 = .ok (.getstatic 44, 3) := by decide +kernel
theorem dJ2_getChar_3b067_3 : decode cJ2_getChar_3b067 3 = .ok (.ifCond .ne 25, 3) := by decide +kernel
theorem dJ2_getChar_3b067_6 : decode cJ2_getChar_3b067 6 = .ok (.iload_n 1, 1) := by decide +kernel
theorem dJ2_getChar_3b067_7 : decode cJ2_getChar_3b067 7 = .ok (.ifCond .lt 11, 3) := by decide +kernel
theorem dJ2_getChar_3b067_10 : decode cJ2_getChar_3b067 10 = .ok (.iload_n 1, 1) := by decide +kernel
theorem dJ2_getChar_3b067_11 : decode cJ2_getChar_3b067 11 = .ok (.aload_n 0, 1) := by decide +kernel
theorem dJ2_getChar_3b067_12 : decode cJ2_getChar_3b067 12 = .ok (.invokestatic 48, 3) := by decide +kernel
theorem dJ2_getChar_3b067_15 : decode cJ2_getChar_3b067 15 = .ok (.if_icmp .lt 13, 3) := by decide +kernel
theorem dJ2_getChar_3b067_18 : decode cJ2_getChar_3b067 18 = .ok (.new 52, 3) := by decide +kernel
theorem dJ2_getChar_3b067_21 : decode cJ2_getChar_3b067 21 = .ok (.dup, 1) := by decide +kernel
theorem dJ2_getChar_3b067_22 : decode cJ2_getChar_3b067 22 = .ok (.ldc 54, 2) := by decide +kernel
theorem dJ2_getChar_3b067_24 : decode cJ2_getChar_3b067 24 = .ok (.invokespecial 56, 3) := by decide +kernel
theorem dJ2_getChar_3b067_27 : decode cJ2_getChar_3b067 27 = .ok (.athrow, 1) := by decide +kernel
theorem dJ2_getChar_3b067_28 : decode cJ2_getChar_3b067 28 = .ok (.iload_n 1, 1) := by decide +kernel
theorem dJ2_getChar_3b067_29 : decode cJ2_getChar_3b067 29 = .ok (.iconst 1, 1) := by decide +kernel
theorem dJ2_getChar_3b067_30 : decode cJ2_getChar_3b067 30 = .ok (.ishl, 1) := by decide +kernel
theorem dJ2_getChar_3b067_31 : decode cJ2_getChar_3b067 31 = .ok (.istore_n 1, 1) := by decide +kernel
theorem dJ2_getChar_3b067_32 : decode cJ2_getChar_3b067 32 = .ok (.aload_n 0, 1) := by decide +kernel
theorem dJ2_getChar_3b067_33 : decode cJ2_getChar_3b067 33 = .ok (.iload_n 1, 1) := by decide +kernel
theorem dJ2_getChar_3b067_34 : decode cJ2_getChar_3b067 34 = .ok (.iinc 1 1, 3) := by decide +kernel
theorem dJ2_getChar_3b067_37 : decode cJ2_getChar_3b067 37 = .ok (.baload, 1) := by decide +kernel
theorem dJ2_getChar_3b067_38 : decode cJ2_getChar_3b067 38 = .ok (.sipush 255, 3) := by decide +kernel
theorem dJ2_getChar_3b067_41 : decode cJ2_getChar_3b067 41 = .ok (.iand, 1) := by decide +kernel
theorem dJ2_getChar_3b067_42 : decode cJ2_getChar_3b067 42 = .ok (.getstatic 59, 3) := by decide +kernel
theorem dJ2_getChar_3b067_45 : decode cJ2_getChar_3b067 45 = .ok (.ishl, 1) := by decide +kernel
theorem dJ2_getChar_3b067_46 : decode cJ2_getChar_3b067 46 = .ok (.aload_n 0, 1) := by decide +kernel
theorem dJ2_getChar_3b067_47 : decode cJ2_getChar_3b067 47 = .ok (.iload_n 1, 1) := by decide +kernel
theorem dJ2_getChar_3b067_48 : decode cJ2_getChar_3b067 48 = .ok (.baload, 1) := by decide +kernel
theorem dJ2_getChar_3b067_49 : decode cJ2_getChar_3b067 49 = .ok (.sipush 255, 3) := by decide +kernel
theorem dJ2_getChar_3b067_52 : decode cJ2_getChar_3b067 52 = .ok (.iand, 1) := by decide +kernel
theorem dJ2_getChar_3b067_53 : decode cJ2_getChar_3b067 53 = .ok (.getstatic 63, 3) := by decide +kernel
theorem dJ2_getChar_3b067_56 : decode cJ2_getChar_3b067 56 = .ok (.ishl, 1) := by decide +kernel
theorem dJ2_getChar_3b067_57 : decode cJ2_getChar_3b067 57 = .ok (.ior, 1) := by decide +kernel
theorem dJ2_getChar_3b067_58 : decode cJ2_getChar_3b067 58 = .ok (.i2c, 1) := by decide +kernel
theorem dJ2_getChar_3b067_59 : decode cJ2_getChar_3b067 59 = .ok (.ireturn, 1) := by decide +kernel
theorem dJ2_length_9d52b_0 : decode cJ2_length_9d52b 0 = .ok (.aload_n 0, 1) := by decide +kernel
theorem dJ2_length_9d52b_1 : decode cJ2_length_9d52b 1 = .ok (.arraylength, 1) := by decide +kernel
theorem dJ2_length_9d52b_2 : decode cJ2_length_9d52b 2 = .ok (.iconst 1, 1) := by decide +kernel
theorem dJ2_length_9d52b_3 : decode cJ2_length_9d52b 3 = .ok (.ishr, 1) := by decide +kernel
theorem dJ2_length_9d52b_4 : decode cJ2_length_9d52b 4 = .ok (.ireturn, 1) := by decide +kernel
theorem dJ2_charAt_3b067_0 : decode cJ2_charAt_3b067 0 = .ok (.iload_n 1, 1) := by decide +kernel
theorem dJ2_charAt_3b067_1 : decode cJ2_charAt_3b067 1 = .ok (.aload_n 0, 1) := by decide +kernel
theorem dJ2_charAt_3b067_2 : decode cJ2_charAt_3b067 2 = .ok (.invokestatic 67, 3) := by decide +kernel
theorem dJ2_charAt_3b067_5 : decode cJ2_charAt_3b067 5 = .ok (.aload_n 0, 1) := by decide +kernel
theorem dJ2_charAt_3b067_6 : decode cJ2_charAt_3b067 6 = .ok (.iload_n 1, 1) := by decide +kernel
theorem dJ2_charAt_3b067_7 : decode cJ2_charAt_3b067 7 = .ok (.invokestatic 71, 3) := by decide +kernel
theorem dJ2_charAt_3b067_10 : decode cJ2_charAt_3b067 10 = .ok (.ireturn, 1) := by decide +kernel
theorem dJ2_checkIndex_2214a_0 : decode cJ2_checkIndex_2214a 0 = .ok (.iload_n 0, 1) := by decide +kernel
theorem dJ2_checkIndex_2214a_1 : decode cJ2_checkIndex_2214a 1 = .ok (.aload_n 1, 1) := by decide +kernel
theorem dJ2_checkIndex_2214a_2 : decode cJ2_checkIndex_2214a 2 = .ok (.invokestatic 48, 3) := by decide +kernel
theorem dJ2_checkIndex_2214a_5 : decode cJ2_checkIndex_2214a 5 = .ok (.invokestatic 414, 3) := by decide +kernel
theorem dJ2_checkIndex_2214a_8 : decode cJ2_checkIndex_2214a 8 = .ok (.return_, 1) := by decide +kernel
theorem dJ3_checkIndex_8e157_0 : decode cJ3_checkIndex_8e157 0 = .ok (.iload_n 0, 1) := by decide +kernel
theorem dJ3_checkIndex_8e157_1 : decode cJ3_checkIndex_8e157 1 = .ok (.ifCond .lt 8, 3) := by decide +kernel
theorem dJ3_checkIndex_8e157_4 : decode cJ3_checkIndex_8e157 4 = .ok (.iload_n 0, 1) := by decide +kernel
theorem dJ3_checkIndex_8e157_5 : decode cJ3_checkIndex_8e157 5 = .ok (.iload_n 1, 1) := by decide +kernel
theorem dJ3_checkIndex_8e157_6 : decode cJ3_checkIndex_8e157 6 = .ok (.if_icmp .lt 10, 3) := by decide +kernel
theorem dJ3_checkIndex_8e157_9 : decode cJ3_checkIndex_8e157 9 = .ok (.aload_n 2, 1) := by decide +kernel
theorem dJ3_checkIndex_8e157_10 : decode cJ3_checkIndex_8e157 10 = .ok (.iload_n 0, 1) := by decide +kernel
theorem dJ3_checkIndex_8e157_11 : decode cJ3_checkIndex_8e157 11 = .ok (.iload_n 1, 1) := by decide +kernel
theorem dJ3_checkIndex_8e157_12 : decode cJ3_checkIndex_8e157 12 = .ok (.invokestatic 95, 3) := by decide +kernel
theorem dJ3_checkIndex_8e157_15 : decode cJ3_checkIndex_8e157 15 = .ok (.athrow, 1) := by decide +kernel
theorem dJ3_checkIndex_8e157_16 : decode cJ3_checkIndex_8e157 16 = .ok (.iload_n 0, 1) := by decide +kernel
theorem dJ3_checkIndex_8e157_17 : decode cJ3_checkIndex_8e157 17 = .ok (.ireturn, 1) := by decide +kernel
theorem dL_told_0 : decode cL_told 0 = .ok (.aload_n 3, 1) := by decide +kernel
theorem dL_told_1 : decode cL_told 1 = .ok (.iconst 0, 1) := by decide +kernel
theorem dL_told_2 : decode cL_told 2 = .ok (.aload_n 0, 1) := by decide +kernel
theorem dL_told_3 : decode cL_told 3 = .ok (.iload_n 1, 1) := by decide +kernel
theorem dL_told_4 : decode cL_told 4 = .ok (.iload_n 2, 1) := by decide +kernel
theorem dL_told_5 : decode cL_told 5 = .ok (.invokevirtual 7, 3) := by decide +kernel
theorem dL_told_8 : decode cL_told 8 = .ok (.i2l, 1) := by decide +kernel
theorem dL_told_9 : decode cL_told 9 = .ok (.lastore, 1) := by decide +kernel
theorem dL_told_10 : decode cL_told 10 = .ok (.goto 7, 3) := by decide +kernel
theorem dL_told_13 : decode cL_told 13 = .ok (.astore 4, 2) := by decide +kernel
theorem dL_told_15 : decode cL_told 15 = .ok (.iconst 1, 1) := by decide +kernel
theorem dL_told_16 : decode cL_told 16 = .ok (.ireturn, 1) := by decide +kernel
theorem dL_told_17 : decode cL_told 17 = .ok (.iconst 0, 1) := by decide +kernel
theorem dL_told_18 : decode cL_told 18 = .ok (.ireturn, 1) := by decide +kernel
theorem dL_law_0 : decode cL_law 0 = .ok (.new 8, 3) := by decide +kernel
theorem dL_law_3 : decode cL_law 3 = .ok (.dup, 1) := by decide +kernel
theorem dL_law_4 : decode cL_law 4 = .ok (.invokespecial 15, 3) := by decide +kernel
theorem dL_law_7 : decode cL_law 7 = .ok (.astore_n 1, 1) := by decide +kernel
theorem dL_law_8 : decode cL_law 8 = .ok (.new 16, 3) := by decide +kernel
theorem dL_law_11 : decode cL_law 11 = .ok (.dup, 1) := by decide +kernel
theorem dL_law_12 : decode cL_law 12 = .ok (.invokespecial 18, 3) := by decide +kernel
theorem dL_law_15 : decode cL_law 15 = .ok (.astore_n 2, 1) := by decide +kernel
theorem dL_law_16 : decode cL_law 16 = .ok (.iconst 1, 1) := by decide +kernel
theorem dL_law_17 : decode cL_law 17 = .ok (.newarray .long, 2) := by decide +kernel
theorem dL_law_19 : decode cL_law 19 = .ok (.astore_n 3, 1) := by decide +kernel
theorem dL_law_20 : decode cL_law 20 = .ok (.iconst 0, 1) := by decide +kernel
theorem dL_law_21 : decode cL_law 21 = .ok (.istore 4, 2) := by decide +kernel
theorem dL_law_23 : decode cL_law 23 = .ok (.iload 4, 2) := by decide +kernel
theorem dL_law_25 : decode cL_law 25 = .ok (.aload_n 0, 1) := by decide +kernel
theorem dL_law_26 : decode cL_law 26 = .ok (.arraylength, 1) := by decide +kernel
theorem dL_law_27 : decode cL_law 27 = .ok (.bipush 6, 2) := by decide +kernel
theorem dL_law_29 : decode cL_law 29 = .ok (.isub, 1) := by decide +kernel
theorem dL_law_30 : decode cL_law 30 = .ok (.if_icmp .gt 1290, 3) := by decide +kernel
theorem dL_law_33 : decode cL_law 33 = .ok (.aload_n 0, 1) := by decide +kernel
theorem dL_law_34 : decode cL_law 34 = .ok (.iload 4, 2) := by decide +kernel
theorem dL_law_36 : decode cL_law 36 = .ok (.iaload, 1) := by decide +kernel
theorem dL_law_37 : decode cL_law 37 = .ok (.bipush 31, 2) := by decide +kernel
theorem dL_law_39 : decode cL_law 39 = .ok (.iand, 1) := by decide +kernel
theorem dL_law_40 : decode cL_law 40 = .ok (.tableswitch 1274 0 28 #[132, 157, 194, 231, 292, 329, 366, 391, 464, 489, 502, 515, 540, 577, 645, 687, 741, 795, 849, 903, 957, 982, 1036, 1073, 1098, 1111, 1124, 1178, 1220], 132) := by decide +kernel
theorem dL_law_172 : decode cL_law 172 = .ok (.aload_n 1, 1) := by decide +kernel
theorem dL_law_173 : decode cL_law 173 = .ok (.aload_n 0, 1) := by decide +kernel
theorem dL_law_174 : decode cL_law 174 = .ok (.iload 4, 2) := by decide +kernel
theorem dL_law_176 : decode cL_law 176 = .ok (.iconst 1, 1) := by decide +kernel
theorem dL_law_177 : decode cL_law 177 = .ok (.iadd, 1) := by decide +kernel
theorem dL_law_178 : decode cL_law 178 = .ok (.iaload, 1) := by decide +kernel
theorem dL_law_179 : decode cL_law 179 = .ok (.invokevirtual 19, 3) := by decide +kernel
theorem dL_law_182 : decode cL_law 182 = .ok (.aload_n 2, 1) := by decide +kernel
theorem dL_law_183 : decode cL_law 183 = .ok (.aload_n 0, 1) := by decide +kernel
theorem dL_law_184 : decode cL_law 184 = .ok (.iload 4, 2) := by decide +kernel
theorem dL_law_186 : decode cL_law 186 = .ok (.iconst 1, 1) := by decide +kernel
theorem dL_law_187 : decode cL_law 187 = .ok (.iadd, 1) := by decide +kernel
theorem dL_law_188 : decode cL_law 188 = .ok (.iaload, 1) := by decide +kernel
theorem dL_law_189 : decode cL_law 189 = .ok (.invokevirtual 23, 3) := by decide +kernel
theorem dL_law_192 : decode cL_law 192 = .ok (.if_icmp .eq 1122, 3) := by decide +kernel
theorem dL_law_195 : decode cL_law 195 = .ok (.iconst 0, 1) := by decide +kernel
theorem dL_law_196 : decode cL_law 196 = .ok (.ireturn, 1) := by decide +kernel
theorem dL_law_197 : decode cL_law 197 = .ok (.aload_n 1, 1) := by decide +kernel
theorem dL_law_198 : decode cL_law 198 = .ok (.aload_n 0, 1) := by decide +kernel
theorem dL_law_199 : decode cL_law 199 = .ok (.iload 4, 2) := by decide +kernel
theorem dL_law_201 : decode cL_law 201 = .ok (.iconst 1, 1) := by decide +kernel
theorem dL_law_202 : decode cL_law 202 = .ok (.iadd, 1) := by decide +kernel
theorem dL_law_203 : decode cL_law 203 = .ok (.iaload, 1) := by decide +kernel
theorem dL_law_204 : decode cL_law 204 = .ok (.aload_n 0, 1) := by decide +kernel
theorem dL_law_205 : decode cL_law 205 = .ok (.iload 4, 2) := by decide +kernel
theorem dL_law_207 : decode cL_law 207 = .ok (.iconst 2, 1) := by decide +kernel
theorem dL_law_208 : decode cL_law 208 = .ok (.iadd, 1) := by decide +kernel
theorem dL_law_209 : decode cL_law 209 = .ok (.iaload, 1) := by decide +kernel
theorem dL_law_210 : decode cL_law 210 = .ok (.invokevirtual 24, 3) := by decide +kernel
theorem dL_law_213 : decode cL_law 213 = .ok (.aload_n 2, 1) := by decide +kernel
theorem dL_law_214 : decode cL_law 214 = .ok (.aload_n 0, 1) := by decide +kernel
theorem dL_law_215 : decode cL_law 215 = .ok (.iload 4, 2) := by decide +kernel
theorem dL_law_217 : decode cL_law 217 = .ok (.iconst 1, 1) := by decide +kernel
theorem dL_law_218 : decode cL_law 218 = .ok (.iadd, 1) := by decide +kernel
theorem dL_law_219 : decode cL_law 219 = .ok (.iaload, 1) := by decide +kernel
theorem dL_law_220 : decode cL_law 220 = .ok (.aload_n 0, 1) := by decide +kernel
theorem dL_law_221 : decode cL_law 221 = .ok (.iload 4, 2) := by decide +kernel
theorem dL_law_223 : decode cL_law 223 = .ok (.iconst 2, 1) := by decide +kernel
theorem dL_law_224 : decode cL_law 224 = .ok (.iadd, 1) := by decide +kernel
theorem dL_law_225 : decode cL_law 225 = .ok (.iaload, 1) := by decide +kernel
theorem dL_law_226 : decode cL_law 226 = .ok (.invokevirtual 28, 3) := by decide +kernel
theorem dL_law_229 : decode cL_law 229 = .ok (.if_icmp .eq 1085, 3) := by decide +kernel
theorem dL_law_232 : decode cL_law 232 = .ok (.iconst 0, 1) := by decide +kernel
theorem dL_law_233 : decode cL_law 233 = .ok (.ireturn, 1) := by decide +kernel
theorem dL_law_234 : decode cL_law 234 = .ok (.aload_n 1, 1) := by decide +kernel
theorem dL_law_235 : decode cL_law 235 = .ok (.aload_n 0, 1) := by decide +kernel
theorem dL_law_236 : decode cL_law 236 = .ok (.iload 4, 2) := by decide +kernel
theorem dL_law_238 : decode cL_law 238 = .ok (.iconst 1, 1) := by decide +kernel
theorem dL_law_239 : decode cL_law 239 = .ok (.iadd, 1) := by decide +kernel
theorem dL_law_240 : decode cL_law 240 = .ok (.iaload, 1) := by decide +kernel
theorem dL_law_241 : decode cL_law 241 = .ok (.aload_n 0, 1) := by decide +kernel
theorem dL_law_242 : decode cL_law 242 = .ok (.iload 4, 2) := by decide +kernel
theorem dL_law_244 : decode cL_law 244 = .ok (.iconst 2, 1) := by decide +kernel
theorem dL_law_245 : decode cL_law 245 = .ok (.iadd, 1) := by decide +kernel
theorem dL_law_246 : decode cL_law 246 = .ok (.iaload, 1) := by decide +kernel
theorem dL_law_247 : decode cL_law 247 = .ok (.invokevirtual 29, 3) := by decide +kernel
theorem dL_law_250 : decode cL_law 250 = .ok (.aload_n 2, 1) := by decide +kernel
theorem dL_law_251 : decode cL_law 251 = .ok (.aload_n 0, 1) := by decide +kernel
theorem dL_law_252 : decode cL_law 252 = .ok (.iload 4, 2) := by decide +kernel
theorem dL_law_254 : decode cL_law 254 = .ok (.iconst 1, 1) := by decide +kernel
theorem dL_law_255 : decode cL_law 255 = .ok (.iadd, 1) := by decide +kernel
theorem dL_law_256 : decode cL_law 256 = .ok (.iaload, 1) := by decide +kernel
theorem dL_law_257 : decode cL_law 257 = .ok (.aload_n 0, 1) := by decide +kernel
theorem dL_law_258 : decode cL_law 258 = .ok (.iload 4, 2) := by decide +kernel
theorem dL_law_260 : decode cL_law 260 = .ok (.iconst 2, 1) := by decide +kernel
theorem dL_law_261 : decode cL_law 261 = .ok (.iadd, 1) := by decide +kernel
theorem dL_law_262 : decode cL_law 262 = .ok (.iaload, 1) := by decide +kernel
theorem dL_law_263 : decode cL_law 263 = .ok (.invokevirtual 32, 3) := by decide +kernel
theorem dL_law_266 : decode cL_law 266 = .ok (.if_icmp .eq 1048, 3) := by decide +kernel
theorem dL_law_269 : decode cL_law 269 = .ok (.iconst 0, 1) := by decide +kernel
theorem dL_law_270 : decode cL_law 270 = .ok (.ireturn, 1) := by decide +kernel
theorem dL_law_271 : decode cL_law 271 = .ok (.aload_n 1, 1) := by decide +kernel
theorem dL_law_272 : decode cL_law 272 = .ok (.aload_n 0, 1) := by decide +kernel
theorem dL_law_273 : decode cL_law 273 = .ok (.iload 4, 2) := by decide +kernel
theorem dL_law_275 : decode cL_law 275 = .ok (.iconst 1, 1) := by decide +kernel
theorem dL_law_276 : decode cL_law 276 = .ok (.iadd, 1) := by decide +kernel
theorem dL_law_277 : decode cL_law 277 = .ok (.iaload, 1) := by decide +kernel
theorem dL_law_278 : decode cL_law 278 = .ok (.aload_n 0, 1) := by decide +kernel
theorem dL_law_279 : decode cL_law 279 = .ok (.iload 4, 2) := by decide +kernel
theorem dL_law_281 : decode cL_law 281 = .ok (.iconst 2, 1) := by decide +kernel
theorem dL_law_282 : decode cL_law 282 = .ok (.iadd, 1) := by decide +kernel
theorem dL_law_283 : decode cL_law 283 = .ok (.iaload, 1) := by decide +kernel
theorem dL_law_284 : decode cL_law 284 = .ok (.aload_n 0, 1) := by decide +kernel
theorem dL_law_285 : decode cL_law 285 = .ok (.iload 4, 2) := by decide +kernel
theorem dL_law_287 : decode cL_law 287 = .ok (.iconst 3, 1) := by decide +kernel
theorem dL_law_288 : decode cL_law 288 = .ok (.iadd, 1) := by decide +kernel
theorem dL_law_289 : decode cL_law 289 = .ok (.iaload, 1) := by decide +kernel
theorem dL_law_290 : decode cL_law 290 = .ok (.aload_n 0, 1) := by decide +kernel
theorem dL_law_291 : decode cL_law 291 = .ok (.iload 4, 2) := by decide +kernel
theorem dL_law_293 : decode cL_law 293 = .ok (.iconst 4, 1) := by decide +kernel
theorem dL_law_294 : decode cL_law 294 = .ok (.iadd, 1) := by decide +kernel
theorem dL_law_295 : decode cL_law 295 = .ok (.iaload, 1) := by decide +kernel
theorem dL_law_296 : decode cL_law 296 = .ok (.invokevirtual 33, 3) := by decide +kernel
theorem dL_law_299 : decode cL_law 299 = .ok (.aload_n 2, 1) := by decide +kernel
theorem dL_law_300 : decode cL_law 300 = .ok (.aload_n 0, 1) := by decide +kernel
theorem dL_law_301 : decode cL_law 301 = .ok (.iload 4, 2) := by decide +kernel
theorem dL_law_303 : decode cL_law 303 = .ok (.iconst 1, 1) := by decide +kernel
theorem dL_law_304 : decode cL_law 304 = .ok (.iadd, 1) := by decide +kernel
theorem dL_law_305 : decode cL_law 305 = .ok (.iaload, 1) := by decide +kernel
theorem dL_law_306 : decode cL_law 306 = .ok (.aload_n 0, 1) := by decide +kernel
theorem dL_law_307 : decode cL_law 307 = .ok (.iload 4, 2) := by decide +kernel
theorem dL_law_309 : decode cL_law 309 = .ok (.iconst 2, 1) := by decide +kernel
theorem dL_law_310 : decode cL_law 310 = .ok (.iadd, 1) := by decide +kernel
theorem dL_law_311 : decode cL_law 311 = .ok (.iaload, 1) := by decide +kernel
theorem dL_law_312 : decode cL_law 312 = .ok (.aload_n 0, 1) := by decide +kernel
theorem dL_law_313 : decode cL_law 313 = .ok (.iload 4, 2) := by decide +kernel
theorem dL_law_315 : decode cL_law 315 = .ok (.iconst 3, 1) := by decide +kernel
theorem dL_law_316 : decode cL_law 316 = .ok (.iadd, 1) := by decide +kernel
theorem dL_law_317 : decode cL_law 317 = .ok (.iaload, 1) := by decide +kernel
theorem dL_law_318 : decode cL_law 318 = .ok (.aload_n 0, 1) := by decide +kernel
theorem dL_law_319 : decode cL_law 319 = .ok (.iload 4, 2) := by decide +kernel
theorem dL_law_321 : decode cL_law 321 = .ok (.iconst 4, 1) := by decide +kernel
theorem dL_law_322 : decode cL_law 322 = .ok (.iadd, 1) := by decide +kernel
theorem dL_law_323 : decode cL_law 323 = .ok (.iaload, 1) := by decide +kernel
theorem dL_law_324 : decode cL_law 324 = .ok (.invokevirtual 37, 3) := by decide +kernel
theorem dL_law_327 : decode cL_law 327 = .ok (.if_icmp .eq 987, 3) := by decide +kernel
theorem dL_law_330 : decode cL_law 330 = .ok (.iconst 0, 1) := by decide +kernel
theorem dL_law_331 : decode cL_law 331 = .ok (.ireturn, 1) := by decide +kernel
theorem dL_law_332 : decode cL_law 332 = .ok (.aload_n 1, 1) := by decide +kernel
theorem dL_law_333 : decode cL_law 333 = .ok (.aload_n 0, 1) := by decide +kernel
theorem dL_law_334 : decode cL_law 334 = .ok (.iload 4, 2) := by decide +kernel
theorem dL_law_336 : decode cL_law 336 = .ok (.iconst 1, 1) := by decide +kernel
theorem dL_law_337 : decode cL_law 337 = .ok (.iadd, 1) := by decide +kernel
theorem dL_law_338 : decode cL_law 338 = .ok (.iaload, 1) := by decide +kernel
theorem dL_law_339 : decode cL_law 339 = .ok (.aload_n 0, 1) := by decide +kernel
theorem dL_law_340 : decode cL_law 340 = .ok (.iload 4, 2) := by decide +kernel
theorem dL_law_342 : decode cL_law 342 = .ok (.iconst 2, 1) := by decide +kernel
theorem dL_law_343 : decode cL_law 343 = .ok (.iadd, 1) := by decide +kernel
theorem dL_law_344 : decode cL_law 344 = .ok (.iaload, 1) := by decide +kernel
theorem dL_law_345 : decode cL_law 345 = .ok (.invokevirtual 38, 3) := by decide +kernel
theorem dL_law_348 : decode cL_law 348 = .ok (.aload_n 2, 1) := by decide +kernel
theorem dL_law_349 : decode cL_law 349 = .ok (.aload_n 0, 1) := by decide +kernel
theorem dL_law_350 : decode cL_law 350 = .ok (.iload 4, 2) := by decide +kernel
theorem dL_law_352 : decode cL_law 352 = .ok (.iconst 1, 1) := by decide +kernel
theorem dL_law_353 : decode cL_law 353 = .ok (.iadd, 1) := by decide +kernel
theorem dL_law_354 : decode cL_law 354 = .ok (.iaload, 1) := by decide +kernel
theorem dL_law_355 : decode cL_law 355 = .ok (.aload_n 0, 1) := by decide +kernel
theorem dL_law_356 : decode cL_law 356 = .ok (.iload 4, 2) := by decide +kernel
theorem dL_law_358 : decode cL_law 358 = .ok (.iconst 2, 1) := by decide +kernel
theorem dL_law_359 : decode cL_law 359 = .ok (.iadd, 1) := by decide +kernel
theorem dL_law_360 : decode cL_law 360 = .ok (.iaload, 1) := by decide +kernel
theorem dL_law_361 : decode cL_law 361 = .ok (.invokevirtual 41, 3) := by decide +kernel
theorem dL_law_364 : decode cL_law 364 = .ok (.if_icmp .eq 950, 3) := by decide +kernel
theorem dL_law_367 : decode cL_law 367 = .ok (.iconst 0, 1) := by decide +kernel
theorem dL_law_368 : decode cL_law 368 = .ok (.ireturn, 1) := by decide +kernel
theorem dL_law_369 : decode cL_law 369 = .ok (.aload_n 1, 1) := by decide +kernel
theorem dL_law_370 : decode cL_law 370 = .ok (.aload_n 0, 1) := by decide +kernel
theorem dL_law_371 : decode cL_law 371 = .ok (.iload 4, 2) := by decide +kernel
theorem dL_law_373 : decode cL_law 373 = .ok (.iconst 1, 1) := by decide +kernel
theorem dL_law_374 : decode cL_law 374 = .ok (.iadd, 1) := by decide +kernel
theorem dL_law_375 : decode cL_law 375 = .ok (.iaload, 1) := by decide +kernel
theorem dL_law_376 : decode cL_law 376 = .ok (.aload_n 0, 1) := by decide +kernel
theorem dL_law_377 : decode cL_law 377 = .ok (.iload 4, 2) := by decide +kernel
theorem dL_law_379 : decode cL_law 379 = .ok (.iconst 2, 1) := by decide +kernel
theorem dL_law_380 : decode cL_law 380 = .ok (.iadd, 1) := by decide +kernel
theorem dL_law_381 : decode cL_law 381 = .ok (.iaload, 1) := by decide +kernel
theorem dL_law_382 : decode cL_law 382 = .ok (.invokevirtual 42, 3) := by decide +kernel
theorem dL_law_385 : decode cL_law 385 = .ok (.aload_n 2, 1) := by decide +kernel
theorem dL_law_386 : decode cL_law 386 = .ok (.aload_n 0, 1) := by decide +kernel
theorem dL_law_387 : decode cL_law 387 = .ok (.iload 4, 2) := by decide +kernel
theorem dL_law_389 : decode cL_law 389 = .ok (.iconst 1, 1) := by decide +kernel
theorem dL_law_390 : decode cL_law 390 = .ok (.iadd, 1) := by decide +kernel
theorem dL_law_391 : decode cL_law 391 = .ok (.iaload, 1) := by decide +kernel
theorem dL_law_392 : decode cL_law 392 = .ok (.aload_n 0, 1) := by decide +kernel
theorem dL_law_393 : decode cL_law 393 = .ok (.iload 4, 2) := by decide +kernel
theorem dL_law_395 : decode cL_law 395 = .ok (.iconst 2, 1) := by decide +kernel
theorem dL_law_396 : decode cL_law 396 = .ok (.iadd, 1) := by decide +kernel
theorem dL_law_397 : decode cL_law 397 = .ok (.iaload, 1) := by decide +kernel
theorem dL_law_398 : decode cL_law 398 = .ok (.invokevirtual 45, 3) := by decide +kernel
theorem dL_law_401 : decode cL_law 401 = .ok (.if_icmp .eq 913, 3) := by decide +kernel
theorem dL_law_404 : decode cL_law 404 = .ok (.iconst 0, 1) := by decide +kernel
theorem dL_law_405 : decode cL_law 405 = .ok (.ireturn, 1) := by decide +kernel
theorem dL_law_406 : decode cL_law 406 = .ok (.aload_n 1, 1) := by decide +kernel
theorem dL_law_407 : decode cL_law 407 = .ok (.aload_n 0, 1) := by decide +kernel
theorem dL_law_408 : decode cL_law 408 = .ok (.iload 4, 2) := by decide +kernel
theorem dL_law_410 : decode cL_law 410 = .ok (.iconst 1, 1) := by decide +kernel
theorem dL_law_411 : decode cL_law 411 = .ok (.iadd, 1) := by decide +kernel
theorem dL_law_412 : decode cL_law 412 = .ok (.iaload, 1) := by decide +kernel
theorem dL_law_413 : decode cL_law 413 = .ok (.invokevirtual 46, 3) := by decide +kernel
theorem dL_law_416 : decode cL_law 416 = .ok (.aload_n 2, 1) := by decide +kernel
theorem dL_law_417 : decode cL_law 417 = .ok (.aload_n 0, 1) := by decide +kernel
theorem dL_law_418 : decode cL_law 418 = .ok (.iload 4, 2) := by decide +kernel
theorem dL_law_420 : decode cL_law 420 = .ok (.iconst 1, 1) := by decide +kernel
theorem dL_law_421 : decode cL_law 421 = .ok (.iadd, 1) := by decide +kernel
theorem dL_law_422 : decode cL_law 422 = .ok (.iaload, 1) := by decide +kernel
theorem dL_law_423 : decode cL_law 423 = .ok (.invokevirtual 50, 3) := by decide +kernel
theorem dL_law_426 : decode cL_law 426 = .ok (.if_icmp .eq 888, 3) := by decide +kernel
theorem dL_law_429 : decode cL_law 429 = .ok (.iconst 0, 1) := by decide +kernel
theorem dL_law_430 : decode cL_law 430 = .ok (.ireturn, 1) := by decide +kernel
theorem dL_law_431 : decode cL_law 431 = .ok (.aload_n 1, 1) := by decide +kernel
theorem dL_law_432 : decode cL_law 432 = .ok (.aload_n 0, 1) := by decide +kernel
theorem dL_law_433 : decode cL_law 433 = .ok (.iload 4, 2) := by decide +kernel
theorem dL_law_435 : decode cL_law 435 = .ok (.iconst 1, 1) := by decide +kernel
theorem dL_law_436 : decode cL_law 436 = .ok (.iadd, 1) := by decide +kernel
theorem dL_law_437 : decode cL_law 437 = .ok (.iaload, 1) := by decide +kernel
theorem dL_law_438 : decode cL_law 438 = .ok (.aload_n 0, 1) := by decide +kernel
theorem dL_law_439 : decode cL_law 439 = .ok (.iload 4, 2) := by decide +kernel
theorem dL_law_441 : decode cL_law 441 = .ok (.iconst 2, 1) := by decide +kernel
theorem dL_law_442 : decode cL_law 442 = .ok (.iadd, 1) := by decide +kernel
theorem dL_law_443 : decode cL_law 443 = .ok (.iaload, 1) := by decide +kernel
theorem dL_law_444 : decode cL_law 444 = .ok (.aload_n 0, 1) := by decide +kernel
theorem dL_law_445 : decode cL_law 445 = .ok (.iload 4, 2) := by decide +kernel
theorem dL_law_447 : decode cL_law 447 = .ok (.iconst 3, 1) := by decide +kernel
theorem dL_law_448 : decode cL_law 448 = .ok (.iadd, 1) := by decide +kernel
theorem dL_law_449 : decode cL_law 449 = .ok (.iaload, 1) := by decide +kernel
theorem dL_law_450 : decode cL_law 450 = .ok (.aload_n 0, 1) := by decide +kernel
theorem dL_law_451 : decode cL_law 451 = .ok (.iload 4, 2) := by decide +kernel
theorem dL_law_453 : decode cL_law 453 = .ok (.iconst 4, 1) := by decide +kernel
theorem dL_law_454 : decode cL_law 454 = .ok (.iadd, 1) := by decide +kernel
theorem dL_law_455 : decode cL_law 455 = .ok (.iaload, 1) := by decide +kernel
theorem dL_law_456 : decode cL_law 456 = .ok (.aload_n 0, 1) := by decide +kernel
theorem dL_law_457 : decode cL_law 457 = .ok (.iload 4, 2) := by decide +kernel
theorem dL_law_459 : decode cL_law 459 = .ok (.iconst 5, 1) := by decide +kernel
theorem dL_law_460 : decode cL_law 460 = .ok (.iadd, 1) := by decide +kernel
theorem dL_law_461 : decode cL_law 461 = .ok (.iaload, 1) := by decide +kernel
theorem dL_law_462 : decode cL_law 462 = .ok (.invokevirtual 51, 3) := by decide +kernel
theorem dL_law_465 : decode cL_law 465 = .ok (.aload_n 2, 1) := by decide +kernel
theorem dL_law_466 : decode cL_law 466 = .ok (.aload_n 0, 1) := by decide +kernel
theorem dL_law_467 : decode cL_law 467 = .ok (.iload 4, 2) := by decide +kernel
theorem dL_law_469 : decode cL_law 469 = .ok (.iconst 1, 1) := by decide +kernel
theorem dL_law_470 : decode cL_law 470 = .ok (.iadd, 1) := by decide +kernel
theorem dL_law_471 : decode cL_law 471 = .ok (.iaload, 1) := by decide +kernel
theorem dL_law_472 : decode cL_law 472 = .ok (.aload_n 0, 1) := by decide +kernel
theorem dL_law_473 : decode cL_law 473 = .ok (.iload 4, 2) := by decide +kernel
theorem dL_law_475 : decode cL_law 475 = .ok (.iconst 2, 1) := by decide +kernel
theorem dL_law_476 : decode cL_law 476 = .ok (.iadd, 1) := by decide +kernel
theorem dL_law_477 : decode cL_law 477 = .ok (.iaload, 1) := by decide +kernel
theorem dL_law_478 : decode cL_law 478 = .ok (.aload_n 0, 1) := by decide +kernel
theorem dL_law_479 : decode cL_law 479 = .ok (.iload 4, 2) := by decide +kernel
theorem dL_law_481 : decode cL_law 481 = .ok (.iconst 3, 1) := by decide +kernel
theorem dL_law_482 : decode cL_law 482 = .ok (.iadd, 1) := by decide +kernel
theorem dL_law_483 : decode cL_law 483 = .ok (.iaload, 1) := by decide +kernel
theorem dL_law_484 : decode cL_law 484 = .ok (.aload_n 0, 1) := by decide +kernel
theorem dL_law_485 : decode cL_law 485 = .ok (.iload 4, 2) := by decide +kernel
theorem dL_law_487 : decode cL_law 487 = .ok (.iconst 4, 1) := by decide +kernel
theorem dL_law_488 : decode cL_law 488 = .ok (.iadd, 1) := by decide +kernel
theorem dL_law_489 : decode cL_law 489 = .ok (.iaload, 1) := by decide +kernel
theorem dL_law_490 : decode cL_law 490 = .ok (.aload_n 0, 1) := by decide +kernel
theorem dL_law_491 : decode cL_law 491 = .ok (.iload 4, 2) := by decide +kernel
theorem dL_law_493 : decode cL_law 493 = .ok (.iconst 5, 1) := by decide +kernel
theorem dL_law_494 : decode cL_law 494 = .ok (.iadd, 1) := by decide +kernel
theorem dL_law_495 : decode cL_law 495 = .ok (.iaload, 1) := by decide +kernel
theorem dL_law_496 : decode cL_law 496 = .ok (.invokevirtual 55, 3) := by decide +kernel
theorem dL_law_499 : decode cL_law 499 = .ok (.if_icmp .eq 815, 3) := by decide +kernel
theorem dL_law_502 : decode cL_law 502 = .ok (.iconst 0, 1) := by decide +kernel
theorem dL_law_503 : decode cL_law 503 = .ok (.ireturn, 1) := by decide +kernel
theorem dL_law_504 : decode cL_law 504 = .ok (.aload_n 1, 1) := by decide +kernel
theorem dL_law_505 : decode cL_law 505 = .ok (.aload_n 0, 1) := by decide +kernel
theorem dL_law_506 : decode cL_law 506 = .ok (.iload 4, 2) := by decide +kernel
theorem dL_law_508 : decode cL_law 508 = .ok (.iconst 1, 1) := by decide +kernel
theorem dL_law_509 : decode cL_law 509 = .ok (.iadd, 1) := by decide +kernel
theorem dL_law_510 : decode cL_law 510 = .ok (.iaload, 1) := by decide +kernel
theorem dL_law_511 : decode cL_law 511 = .ok (.invokevirtual 56, 3) := by decide +kernel
theorem dL_law_514 : decode cL_law 514 = .ok (.aload_n 2, 1) := by decide +kernel
theorem dL_law_515 : decode cL_law 515 = .ok (.aload_n 0, 1) := by decide +kernel
theorem dL_law_516 : decode cL_law 516 = .ok (.iload 4, 2) := by decide +kernel
theorem dL_law_518 : decode cL_law 518 = .ok (.iconst 1, 1) := by decide +kernel
theorem dL_law_519 : decode cL_law 519 = .ok (.iadd, 1) := by decide +kernel
theorem dL_law_520 : decode cL_law 520 = .ok (.iaload, 1) := by decide +kernel
theorem dL_law_521 : decode cL_law 521 = .ok (.invokevirtual 59, 3) := by decide +kernel
theorem dL_law_524 : decode cL_law 524 = .ok (.if_icmp .eq 790, 3) := by decide +kernel
theorem dL_law_527 : decode cL_law 527 = .ok (.iconst 0, 1) := by decide +kernel
theorem dL_law_528 : decode cL_law 528 = .ok (.ireturn, 1) := by decide +kernel
theorem dL_law_529 : decode cL_law 529 = .ok (.aload_n 1, 1) := by decide +kernel
theorem dL_law_530 : decode cL_law 530 = .ok (.invokevirtual 60, 3) := by decide +kernel
theorem dL_law_533 : decode cL_law 533 = .ok (.aload_n 2, 1) := by decide +kernel
theorem dL_law_534 : decode cL_law 534 = .ok (.invokevirtual 64, 3) := by decide +kernel
theorem dL_law_537 : decode cL_law 537 = .ok (.if_icmp .eq 777, 3) := by decide +kernel
theorem dL_law_540 : decode cL_law 540 = .ok (.iconst 0, 1) := by decide +kernel
theorem dL_law_541 : decode cL_law 541 = .ok (.ireturn, 1) := by decide +kernel
theorem dL_law_542 : decode cL_law 542 = .ok (.aload_n 1, 1) := by decide +kernel
theorem dL_law_543 : decode cL_law 543 = .ok (.invokevirtual 65, 3) := by decide +kernel
theorem dL_law_546 : decode cL_law 546 = .ok (.aload_n 2, 1) := by decide +kernel
theorem dL_law_547 : decode cL_law 547 = .ok (.invokevirtual 68, 3) := by decide +kernel
theorem dL_law_550 : decode cL_law 550 = .ok (.if_icmp .eq 764, 3) := by decide +kernel
theorem dL_law_553 : decode cL_law 553 = .ok (.iconst 0, 1) := by decide +kernel
theorem dL_law_554 : decode cL_law 554 = .ok (.ireturn, 1) := by decide +kernel
theorem dL_law_555 : decode cL_law 555 = .ok (.aload_n 1, 1) := by decide +kernel
theorem dL_law_556 : decode cL_law 556 = .ok (.aload_n 0, 1) := by decide +kernel
theorem dL_law_557 : decode cL_law 557 = .ok (.iload 4, 2) := by decide +kernel
theorem dL_law_559 : decode cL_law 559 = .ok (.iconst 1, 1) := by decide +kernel
theorem dL_law_560 : decode cL_law 560 = .ok (.iadd, 1) := by decide +kernel
theorem dL_law_561 : decode cL_law 561 = .ok (.iaload, 1) := by decide +kernel
theorem dL_law_562 : decode cL_law 562 = .ok (.invokevirtual 69, 3) := by decide +kernel
theorem dL_law_565 : decode cL_law 565 = .ok (.aload_n 2, 1) := by decide +kernel
theorem dL_law_566 : decode cL_law 566 = .ok (.aload_n 0, 1) := by decide +kernel
theorem dL_law_567 : decode cL_law 567 = .ok (.iload 4, 2) := by decide +kernel
theorem dL_law_569 : decode cL_law 569 = .ok (.iconst 1, 1) := by decide +kernel
theorem dL_law_570 : decode cL_law 570 = .ok (.iadd, 1) := by decide +kernel
theorem dL_law_571 : decode cL_law 571 = .ok (.iaload, 1) := by decide +kernel
theorem dL_law_572 : decode cL_law 572 = .ok (.invokevirtual 72, 3) := by decide +kernel
theorem dL_law_575 : decode cL_law 575 = .ok (.if_icmp .eq 739, 3) := by decide +kernel
theorem dL_law_578 : decode cL_law 578 = .ok (.iconst 0, 1) := by decide +kernel
theorem dL_law_579 : decode cL_law 579 = .ok (.ireturn, 1) := by decide +kernel
theorem dL_law_580 : decode cL_law 580 = .ok (.aload_n 1, 1) := by decide +kernel
theorem dL_law_581 : decode cL_law 581 = .ok (.aload_n 0, 1) := by decide +kernel
theorem dL_law_582 : decode cL_law 582 = .ok (.iload 4, 2) := by decide +kernel
theorem dL_law_584 : decode cL_law 584 = .ok (.iconst 1, 1) := by decide +kernel
theorem dL_law_585 : decode cL_law 585 = .ok (.iadd, 1) := by decide +kernel
theorem dL_law_586 : decode cL_law 586 = .ok (.iaload, 1) := by decide +kernel
theorem dL_law_587 : decode cL_law 587 = .ok (.aload_n 0, 1) := by decide +kernel
theorem dL_law_588 : decode cL_law 588 = .ok (.iload 4, 2) := by decide +kernel
theorem dL_law_590 : decode cL_law 590 = .ok (.iconst 2, 1) := by decide +kernel
theorem dL_law_591 : decode cL_law 591 = .ok (.iadd, 1) := by decide +kernel
theorem dL_law_592 : decode cL_law 592 = .ok (.iaload, 1) := by decide +kernel
theorem dL_law_593 : decode cL_law 593 = .ok (.invokevirtual 73, 3) := by decide +kernel
theorem dL_law_596 : decode cL_law 596 = .ok (.aload_n 2, 1) := by decide +kernel
theorem dL_law_597 : decode cL_law 597 = .ok (.aload_n 0, 1) := by decide +kernel
theorem dL_law_598 : decode cL_law 598 = .ok (.iload 4, 2) := by decide +kernel
theorem dL_law_600 : decode cL_law 600 = .ok (.iconst 1, 1) := by decide +kernel
theorem dL_law_601 : decode cL_law 601 = .ok (.iadd, 1) := by decide +kernel
theorem dL_law_602 : decode cL_law 602 = .ok (.iaload, 1) := by decide +kernel
theorem dL_law_603 : decode cL_law 603 = .ok (.aload_n 0, 1) := by decide +kernel
theorem dL_law_604 : decode cL_law 604 = .ok (.iload 4, 2) := by decide +kernel
theorem dL_law_606 : decode cL_law 606 = .ok (.iconst 2, 1) := by decide +kernel
theorem dL_law_607 : decode cL_law 607 = .ok (.iadd, 1) := by decide +kernel
theorem dL_law_608 : decode cL_law 608 = .ok (.iaload, 1) := by decide +kernel
theorem dL_law_609 : decode cL_law 609 = .ok (.invokevirtual 76, 3) := by decide +kernel
theorem dL_law_612 : decode cL_law 612 = .ok (.if_icmp .eq 702, 3) := by decide +kernel
theorem dL_law_615 : decode cL_law 615 = .ok (.iconst 0, 1) := by decide +kernel
theorem dL_law_616 : decode cL_law 616 = .ok (.ireturn, 1) := by decide +kernel
theorem dL_law_617 : decode cL_law 617 = .ok (.aload_n 1, 1) := by decide +kernel
theorem dL_law_618 : decode cL_law 618 = .ok (.aload_n 0, 1) := by decide +kernel
theorem dL_law_619 : decode cL_law 619 = .ok (.iload 4, 2) := by decide +kernel
theorem dL_law_621 : decode cL_law 621 = .ok (.iconst 1, 1) := by decide +kernel
theorem dL_law_622 : decode cL_law 622 = .ok (.iadd, 1) := by decide +kernel
theorem dL_law_623 : decode cL_law 623 = .ok (.iaload, 1) := by decide +kernel
theorem dL_law_624 : decode cL_law 624 = .ok (.aload_n 0, 1) := by decide +kernel
theorem dL_law_625 : decode cL_law 625 = .ok (.iload 4, 2) := by decide +kernel
theorem dL_law_627 : decode cL_law 627 = .ok (.iconst 2, 1) := by decide +kernel
theorem dL_law_628 : decode cL_law 628 = .ok (.iadd, 1) := by decide +kernel
theorem dL_law_629 : decode cL_law 629 = .ok (.iaload, 1) := by decide +kernel
theorem dL_law_630 : decode cL_law 630 = .ok (.aload_n 3, 1) := by decide +kernel
theorem dL_law_631 : decode cL_law 631 = .ok (.invokestatic 77, 3) := by decide +kernel
theorem dL_law_634 : decode cL_law 634 = .ok (.istore 5, 2) := by decide +kernel
theorem dL_law_636 : decode cL_law 636 = .ok (.aload_n 2, 1) := by decide +kernel
theorem dL_law_637 : decode cL_law 637 = .ok (.aload_n 0, 1) := by decide +kernel
theorem dL_law_638 : decode cL_law 638 = .ok (.iload 4, 2) := by decide +kernel
theorem dL_law_640 : decode cL_law 640 = .ok (.iconst 1, 1) := by decide +kernel
theorem dL_law_641 : decode cL_law 641 = .ok (.iadd, 1) := by decide +kernel
theorem dL_law_642 : decode cL_law 642 = .ok (.iaload, 1) := by decide +kernel
theorem dL_law_643 : decode cL_law 643 = .ok (.aload_n 0, 1) := by decide +kernel
theorem dL_law_644 : decode cL_law 644 = .ok (.iload 4, 2) := by decide +kernel
theorem dL_law_646 : decode cL_law 646 = .ok (.iconst 2, 1) := by decide +kernel
theorem dL_law_647 : decode cL_law 647 = .ok (.iadd, 1) := by decide +kernel
theorem dL_law_648 : decode cL_law 648 = .ok (.iaload, 1) := by decide +kernel
theorem dL_law_649 : decode cL_law 649 = .ok (.invokevirtual 82, 3) := by decide +kernel
theorem dL_law_652 : decode cL_law 652 = .ok (.istore 6, 2) := by decide +kernel
theorem dL_law_654 : decode cL_law 654 = .ok (.aload_n 2, 1) := by decide +kernel
theorem dL_law_655 : decode cL_law 655 = .ok (.invokevirtual 83, 3) := by decide +kernel
theorem dL_law_658 : decode cL_law 658 = .ok (.iload 5, 2) := by decide +kernel
theorem dL_law_660 : decode cL_law 660 = .ok (.if_icmp .eq 5, 3) := by decide +kernel
theorem dL_law_663 : decode cL_law 663 = .ok (.iconst 0, 1) := by decide +kernel
theorem dL_law_664 : decode cL_law 664 = .ok (.ireturn, 1) := by decide +kernel
theorem dL_law_665 : decode cL_law 665 = .ok (.iload 5, 2) := by decide +kernel
theorem dL_law_667 : decode cL_law 667 = .ok (.ifCond .ne 15, 3) := by decide +kernel
theorem dL_law_670 : decode cL_law 670 = .ok (.aload_n 3, 1) := by decide +kernel
theorem dL_law_671 : decode cL_law 671 = .ok (.iconst 0, 1) := by decide +kernel
theorem dL_law_672 : decode cL_law 672 = .ok (.laload, 1) := by decide +kernel
theorem dL_law_673 : decode cL_law 673 = .ok (.iload 6, 2) := by decide +kernel
theorem dL_law_675 : decode cL_law 675 = .ok (.i2l, 1) := by decide +kernel
theorem dL_law_676 : decode cL_law 676 = .ok (.lcmp, 1) := by decide +kernel
theorem dL_law_677 : decode cL_law 677 = .ok (.ifCond .eq 5, 3) := by decide +kernel
theorem dL_law_680 : decode cL_law 680 = .ok (.iconst 0, 1) := by decide +kernel
theorem dL_law_681 : decode cL_law 681 = .ok (.ireturn, 1) := by decide +kernel
theorem dL_law_682 : decode cL_law 682 = .ok (.goto 632, 3) := by decide +kernel
theorem dL_law_685 : decode cL_law 685 = .ok (.aload_n 1, 1) := by decide +kernel
theorem dL_law_686 : decode cL_law 686 = .ok (.aload_n 0, 1) := by decide +kernel
theorem dL_law_687 : decode cL_law 687 = .ok (.iload 4, 2) := by decide +kernel
theorem dL_law_689 : decode cL_law 689 = .ok (.iconst 1, 1) := by decide +kernel
theorem dL_law_690 : decode cL_law 690 = .ok (.iadd, 1) := by decide +kernel
theorem dL_law_691 : decode cL_law 691 = .ok (.iaload, 1) := by decide +kernel
theorem dL_law_692 : decode cL_law 692 = .ok (.ifCond .eq 7, 3) := by decide +kernel
theorem dL_law_695 : decode cL_law 695 = .ok (.iconst 1, 1) := by decide +kernel
theorem dL_law_696 : decode cL_law 696 = .ok (.goto 4, 3) := by decide +kernel
theorem dL_law_699 : decode cL_law 699 = .ok (.iconst 0, 1) := by decide +kernel
theorem dL_law_700 : decode cL_law 700 = .ok (.invokevirtual 86, 3) := by decide +kernel
theorem dL_law_703 : decode cL_law 703 = .ok (.aload_n 2, 1) := by decide +kernel
theorem dL_law_704 : decode cL_law 704 = .ok (.aload_n 0, 1) := by decide +kernel
theorem dL_law_705 : decode cL_law 705 = .ok (.iload 4, 2) := by decide +kernel
theorem dL_law_707 : decode cL_law 707 = .ok (.iconst 1, 1) := by decide +kernel
theorem dL_law_708 : decode cL_law 708 = .ok (.iadd, 1) := by decide +kernel
theorem dL_law_709 : decode cL_law 709 = .ok (.iaload, 1) := by decide +kernel
theorem dL_law_710 : decode cL_law 710 = .ok (.ifCond .eq 7, 3) := by decide +kernel
theorem dL_law_713 : decode cL_law 713 = .ok (.iconst 1, 1) := by decide +kernel
theorem dL_law_714 : decode cL_law 714 = .ok (.goto 4, 3) := by decide +kernel
theorem dL_law_717 : decode cL_law 717 = .ok (.iconst 0, 1) := by decide +kernel
theorem dL_law_718 : decode cL_law 718 = .ok (.invokevirtual 90, 3) := by decide +kernel
theorem dL_law_721 : decode cL_law 721 = .ok (.lcmp, 1) := by decide +kernel
theorem dL_law_722 : decode cL_law 722 = .ok (.ifCond .eq 592, 3) := by decide +kernel
theorem dL_law_725 : decode cL_law 725 = .ok (.iconst 0, 1) := by decide +kernel
theorem dL_law_726 : decode cL_law 726 = .ok (.ireturn, 1) := by decide +kernel
theorem dL_law_727 : decode cL_law 727 = .ok (.aload_n 1, 1) := by decide +kernel
theorem dL_law_728 : decode cL_law 728 = .ok (.aload_n 0, 1) := by decide +kernel
theorem dL_law_729 : decode cL_law 729 = .ok (.iload 4, 2) := by decide +kernel
theorem dL_law_731 : decode cL_law 731 = .ok (.iconst 1, 1) := by decide +kernel
theorem dL_law_732 : decode cL_law 732 = .ok (.iadd, 1) := by decide +kernel
theorem dL_law_733 : decode cL_law 733 = .ok (.iaload, 1) := by decide +kernel
theorem dL_law_734 : decode cL_law 734 = .ok (.aload_n 0, 1) := by decide +kernel
theorem dL_law_735 : decode cL_law 735 = .ok (.iload 4, 2) := by decide +kernel
theorem dL_law_737 : decode cL_law 737 = .ok (.iconst 2, 1) := by decide +kernel
theorem dL_law_738 : decode cL_law 738 = .ok (.iadd, 1) := by decide +kernel
theorem dL_law_739 : decode cL_law 739 = .ok (.iaload, 1) := by decide +kernel
theorem dL_law_740 : decode cL_law 740 = .ok (.ifCond .eq 7, 3) := by decide +kernel
theorem dL_law_743 : decode cL_law 743 = .ok (.iconst 1, 1) := by decide +kernel
theorem dL_law_744 : decode cL_law 744 = .ok (.goto 4, 3) := by decide +kernel
theorem dL_law_747 : decode cL_law 747 = .ok (.iconst 0, 1) := by decide +kernel
theorem dL_law_748 : decode cL_law 748 = .ok (.invokevirtual 91, 3) := by decide +kernel
theorem dL_law_751 : decode cL_law 751 = .ok (.aload_n 2, 1) := by decide +kernel
theorem dL_law_752 : decode cL_law 752 = .ok (.aload_n 0, 1) := by decide +kernel
theorem dL_law_753 : decode cL_law 753 = .ok (.iload 4, 2) := by decide +kernel
theorem dL_law_755 : decode cL_law 755 = .ok (.iconst 1, 1) := by decide +kernel
theorem dL_law_756 : decode cL_law 756 = .ok (.iadd, 1) := by decide +kernel
theorem dL_law_757 : decode cL_law 757 = .ok (.iaload, 1) := by decide +kernel
theorem dL_law_758 : decode cL_law 758 = .ok (.aload_n 0, 1) := by decide +kernel
theorem dL_law_759 : decode cL_law 759 = .ok (.iload 4, 2) := by decide +kernel
theorem dL_law_761 : decode cL_law 761 = .ok (.iconst 2, 1) := by decide +kernel
theorem dL_law_762 : decode cL_law 762 = .ok (.iadd, 1) := by decide +kernel
theorem dL_law_763 : decode cL_law 763 = .ok (.iaload, 1) := by decide +kernel
theorem dL_law_764 : decode cL_law 764 = .ok (.ifCond .eq 7, 3) := by decide +kernel
theorem dL_law_767 : decode cL_law 767 = .ok (.iconst 1, 1) := by decide +kernel
theorem dL_law_768 : decode cL_law 768 = .ok (.goto 4, 3) := by decide +kernel
theorem dL_law_771 : decode cL_law 771 = .ok (.iconst 0, 1) := by decide +kernel
theorem dL_law_772 : decode cL_law 772 = .ok (.invokevirtual 95, 3) := by decide +kernel
theorem dL_law_775 : decode cL_law 775 = .ok (.lcmp, 1) := by decide +kernel
theorem dL_law_776 : decode cL_law 776 = .ok (.ifCond .eq 538, 3) := by decide +kernel
theorem dL_law_779 : decode cL_law 779 = .ok (.iconst 0, 1) := by decide +kernel
theorem dL_law_780 : decode cL_law 780 = .ok (.ireturn, 1) := by decide +kernel
theorem dL_law_781 : decode cL_law 781 = .ok (.aload_n 1, 1) := by decide +kernel
theorem dL_law_782 : decode cL_law 782 = .ok (.aload_n 0, 1) := by decide +kernel
theorem dL_law_783 : decode cL_law 783 = .ok (.iload 4, 2) := by decide +kernel
theorem dL_law_785 : decode cL_law 785 = .ok (.iconst 1, 1) := by decide +kernel
theorem dL_law_786 : decode cL_law 786 = .ok (.iadd, 1) := by decide +kernel
theorem dL_law_787 : decode cL_law 787 = .ok (.iaload, 1) := by decide +kernel
theorem dL_law_788 : decode cL_law 788 = .ok (.aload_n 0, 1) := by decide +kernel
theorem dL_law_789 : decode cL_law 789 = .ok (.iload 4, 2) := by decide +kernel
theorem dL_law_791 : decode cL_law 791 = .ok (.iconst 2, 1) := by decide +kernel
theorem dL_law_792 : decode cL_law 792 = .ok (.iadd, 1) := by decide +kernel
theorem dL_law_793 : decode cL_law 793 = .ok (.iaload, 1) := by decide +kernel
theorem dL_law_794 : decode cL_law 794 = .ok (.ifCond .eq 7, 3) := by decide +kernel
theorem dL_law_797 : decode cL_law 797 = .ok (.iconst 1, 1) := by decide +kernel
theorem dL_law_798 : decode cL_law 798 = .ok (.goto 4, 3) := by decide +kernel
theorem dL_law_801 : decode cL_law 801 = .ok (.iconst 0, 1) := by decide +kernel
theorem dL_law_802 : decode cL_law 802 = .ok (.invokevirtual 96, 3) := by decide +kernel
theorem dL_law_805 : decode cL_law 805 = .ok (.aload_n 2, 1) := by decide +kernel
theorem dL_law_806 : decode cL_law 806 = .ok (.aload_n 0, 1) := by decide +kernel
theorem dL_law_807 : decode cL_law 807 = .ok (.iload 4, 2) := by decide +kernel
theorem dL_law_809 : decode cL_law 809 = .ok (.iconst 1, 1) := by decide +kernel
theorem dL_law_810 : decode cL_law 810 = .ok (.iadd, 1) := by decide +kernel
theorem dL_law_811 : decode cL_law 811 = .ok (.iaload, 1) := by decide +kernel
theorem dL_law_812 : decode cL_law 812 = .ok (.aload_n 0, 1) := by decide +kernel
theorem dL_law_813 : decode cL_law 813 = .ok (.iload 4, 2) := by decide +kernel
theorem dL_law_815 : decode cL_law 815 = .ok (.iconst 2, 1) := by decide +kernel
theorem dL_law_816 : decode cL_law 816 = .ok (.iadd, 1) := by decide +kernel
theorem dL_law_817 : decode cL_law 817 = .ok (.iaload, 1) := by decide +kernel
theorem dL_law_818 : decode cL_law 818 = .ok (.ifCond .eq 7, 3) := by decide +kernel
theorem dL_law_821 : decode cL_law 821 = .ok (.iconst 1, 1) := by decide +kernel
theorem dL_law_822 : decode cL_law 822 = .ok (.goto 4, 3) := by decide +kernel
theorem dL_law_825 : decode cL_law 825 = .ok (.iconst 0, 1) := by decide +kernel
theorem dL_law_826 : decode cL_law 826 = .ok (.invokevirtual 99, 3) := by decide +kernel
theorem dL_law_829 : decode cL_law 829 = .ok (.lcmp, 1) := by decide +kernel
theorem dL_law_830 : decode cL_law 830 = .ok (.ifCond .eq 484, 3) := by decide +kernel
theorem dL_law_833 : decode cL_law 833 = .ok (.iconst 0, 1) := by decide +kernel
theorem dL_law_834 : decode cL_law 834 = .ok (.ireturn, 1) := by decide +kernel
theorem dL_law_835 : decode cL_law 835 = .ok (.aload_n 1, 1) := by decide +kernel
theorem dL_law_836 : decode cL_law 836 = .ok (.aload_n 0, 1) := by decide +kernel
theorem dL_law_837 : decode cL_law 837 = .ok (.iload 4, 2) := by decide +kernel
theorem dL_law_839 : decode cL_law 839 = .ok (.iconst 1, 1) := by decide +kernel
theorem dL_law_840 : decode cL_law 840 = .ok (.iadd, 1) := by decide +kernel
theorem dL_law_841 : decode cL_law 841 = .ok (.iaload, 1) := by decide +kernel
theorem dL_law_842 : decode cL_law 842 = .ok (.aload_n 0, 1) := by decide +kernel
theorem dL_law_843 : decode cL_law 843 = .ok (.iload 4, 2) := by decide +kernel
theorem dL_law_845 : decode cL_law 845 = .ok (.iconst 2, 1) := by decide +kernel
theorem dL_law_846 : decode cL_law 846 = .ok (.iadd, 1) := by decide +kernel
theorem dL_law_847 : decode cL_law 847 = .ok (.iaload, 1) := by decide +kernel
theorem dL_law_848 : decode cL_law 848 = .ok (.ifCond .eq 7, 3) := by decide +kernel
theorem dL_law_851 : decode cL_law 851 = .ok (.iconst 1, 1) := by decide +kernel
theorem dL_law_852 : decode cL_law 852 = .ok (.goto 4, 3) := by decide +kernel
theorem dL_law_855 : decode cL_law 855 = .ok (.iconst 0, 1) := by decide +kernel
theorem dL_law_856 : decode cL_law 856 = .ok (.invokevirtual 100, 3) := by decide +kernel
theorem dL_law_859 : decode cL_law 859 = .ok (.aload_n 2, 1) := by decide +kernel
theorem dL_law_860 : decode cL_law 860 = .ok (.aload_n 0, 1) := by decide +kernel
theorem dL_law_861 : decode cL_law 861 = .ok (.iload 4, 2) := by decide +kernel
theorem dL_law_863 : decode cL_law 863 = .ok (.iconst 1, 1) := by decide +kernel
theorem dL_law_864 : decode cL_law 864 = .ok (.iadd, 1) := by decide +kernel
theorem dL_law_865 : decode cL_law 865 = .ok (.iaload, 1) := by decide +kernel
theorem dL_law_866 : decode cL_law 866 = .ok (.aload_n 0, 1) := by decide +kernel
theorem dL_law_867 : decode cL_law 867 = .ok (.iload 4, 2) := by decide +kernel
theorem dL_law_869 : decode cL_law 869 = .ok (.iconst 2, 1) := by decide +kernel
theorem dL_law_870 : decode cL_law 870 = .ok (.iadd, 1) := by decide +kernel
theorem dL_law_871 : decode cL_law 871 = .ok (.iaload, 1) := by decide +kernel
theorem dL_law_872 : decode cL_law 872 = .ok (.ifCond .eq 7, 3) := by decide +kernel
theorem dL_law_875 : decode cL_law 875 = .ok (.iconst 1, 1) := by decide +kernel
theorem dL_law_876 : decode cL_law 876 = .ok (.goto 4, 3) := by decide +kernel
theorem dL_law_879 : decode cL_law 879 = .ok (.iconst 0, 1) := by decide +kernel
theorem dL_law_880 : decode cL_law 880 = .ok (.invokevirtual 103, 3) := by decide +kernel
theorem dL_law_883 : decode cL_law 883 = .ok (.lcmp, 1) := by decide +kernel
theorem dL_law_884 : decode cL_law 884 = .ok (.ifCond .eq 430, 3) := by decide +kernel
theorem dL_law_887 : decode cL_law 887 = .ok (.iconst 0, 1) := by decide +kernel
theorem dL_law_888 : decode cL_law 888 = .ok (.ireturn, 1) := by decide +kernel
theorem dL_law_889 : decode cL_law 889 = .ok (.aload_n 1, 1) := by decide +kernel
theorem dL_law_890 : decode cL_law 890 = .ok (.aload_n 0, 1) := by decide +kernel
theorem dL_law_891 : decode cL_law 891 = .ok (.iload 4, 2) := by decide +kernel
theorem dL_law_893 : decode cL_law 893 = .ok (.iconst 1, 1) := by decide +kernel
theorem dL_law_894 : decode cL_law 894 = .ok (.iadd, 1) := by decide +kernel
theorem dL_law_895 : decode cL_law 895 = .ok (.iaload, 1) := by decide +kernel
theorem dL_law_896 : decode cL_law 896 = .ok (.aload_n 0, 1) := by decide +kernel
theorem dL_law_897 : decode cL_law 897 = .ok (.iload 4, 2) := by decide +kernel
theorem dL_law_899 : decode cL_law 899 = .ok (.iconst 2, 1) := by decide +kernel
theorem dL_law_900 : decode cL_law 900 = .ok (.iadd, 1) := by decide +kernel
theorem dL_law_901 : decode cL_law 901 = .ok (.iaload, 1) := by decide +kernel
theorem dL_law_902 : decode cL_law 902 = .ok (.ifCond .eq 7, 3) := by decide +kernel
theorem dL_law_905 : decode cL_law 905 = .ok (.iconst 1, 1) := by decide +kernel
theorem dL_law_906 : decode cL_law 906 = .ok (.goto 4, 3) := by decide +kernel
theorem dL_law_909 : decode cL_law 909 = .ok (.iconst 0, 1) := by decide +kernel
theorem dL_law_910 : decode cL_law 910 = .ok (.invokevirtual 104, 3) := by decide +kernel
theorem dL_law_913 : decode cL_law 913 = .ok (.aload_n 2, 1) := by decide +kernel
theorem dL_law_914 : decode cL_law 914 = .ok (.aload_n 0, 1) := by decide +kernel
theorem dL_law_915 : decode cL_law 915 = .ok (.iload 4, 2) := by decide +kernel
theorem dL_law_917 : decode cL_law 917 = .ok (.iconst 1, 1) := by decide +kernel
theorem dL_law_918 : decode cL_law 918 = .ok (.iadd, 1) := by decide +kernel
theorem dL_law_919 : decode cL_law 919 = .ok (.iaload, 1) := by decide +kernel
theorem dL_law_920 : decode cL_law 920 = .ok (.aload_n 0, 1) := by decide +kernel
theorem dL_law_921 : decode cL_law 921 = .ok (.iload 4, 2) := by decide +kernel
theorem dL_law_923 : decode cL_law 923 = .ok (.iconst 2, 1) := by decide +kernel
theorem dL_law_924 : decode cL_law 924 = .ok (.iadd, 1) := by decide +kernel
theorem dL_law_925 : decode cL_law 925 = .ok (.iaload, 1) := by decide +kernel
theorem dL_law_926 : decode cL_law 926 = .ok (.ifCond .eq 7, 3) := by decide +kernel
theorem dL_law_929 : decode cL_law 929 = .ok (.iconst 1, 1) := by decide +kernel
theorem dL_law_930 : decode cL_law 930 = .ok (.goto 4, 3) := by decide +kernel
theorem dL_law_933 : decode cL_law 933 = .ok (.iconst 0, 1) := by decide +kernel
theorem dL_law_934 : decode cL_law 934 = .ok (.invokevirtual 107, 3) := by decide +kernel
theorem dL_law_937 : decode cL_law 937 = .ok (.lcmp, 1) := by decide +kernel
theorem dL_law_938 : decode cL_law 938 = .ok (.ifCond .eq 376, 3) := by decide +kernel
theorem dL_law_941 : decode cL_law 941 = .ok (.iconst 0, 1) := by decide +kernel
theorem dL_law_942 : decode cL_law 942 = .ok (.ireturn, 1) := by decide +kernel
theorem dL_law_943 : decode cL_law 943 = .ok (.aload_n 1, 1) := by decide +kernel
theorem dL_law_944 : decode cL_law 944 = .ok (.aload_n 0, 1) := by decide +kernel
theorem dL_law_945 : decode cL_law 945 = .ok (.iload 4, 2) := by decide +kernel
theorem dL_law_947 : decode cL_law 947 = .ok (.iconst 1, 1) := by decide +kernel
theorem dL_law_948 : decode cL_law 948 = .ok (.iadd, 1) := by decide +kernel
theorem dL_law_949 : decode cL_law 949 = .ok (.iaload, 1) := by decide +kernel
theorem dL_law_950 : decode cL_law 950 = .ok (.aload_n 0, 1) := by decide +kernel
theorem dL_law_951 : decode cL_law 951 = .ok (.iload 4, 2) := by decide +kernel
theorem dL_law_953 : decode cL_law 953 = .ok (.iconst 2, 1) := by decide +kernel
theorem dL_law_954 : decode cL_law 954 = .ok (.iadd, 1) := by decide +kernel
theorem dL_law_955 : decode cL_law 955 = .ok (.iaload, 1) := by decide +kernel
theorem dL_law_956 : decode cL_law 956 = .ok (.ifCond .eq 7, 3) := by decide +kernel
theorem dL_law_959 : decode cL_law 959 = .ok (.iconst 1, 1) := by decide +kernel
theorem dL_law_960 : decode cL_law 960 = .ok (.goto 4, 3) := by decide +kernel
theorem dL_law_963 : decode cL_law 963 = .ok (.iconst 0, 1) := by decide +kernel
theorem dL_law_964 : decode cL_law 964 = .ok (.invokevirtual 108, 3) := by decide +kernel
theorem dL_law_967 : decode cL_law 967 = .ok (.aload_n 2, 1) := by decide +kernel
theorem dL_law_968 : decode cL_law 968 = .ok (.aload_n 0, 1) := by decide +kernel
theorem dL_law_969 : decode cL_law 969 = .ok (.iload 4, 2) := by decide +kernel
theorem dL_law_971 : decode cL_law 971 = .ok (.iconst 1, 1) := by decide +kernel
theorem dL_law_972 : decode cL_law 972 = .ok (.iadd, 1) := by decide +kernel
theorem dL_law_973 : decode cL_law 973 = .ok (.iaload, 1) := by decide +kernel
theorem dL_law_974 : decode cL_law 974 = .ok (.aload_n 0, 1) := by decide +kernel
theorem dL_law_975 : decode cL_law 975 = .ok (.iload 4, 2) := by decide +kernel
theorem dL_law_977 : decode cL_law 977 = .ok (.iconst 2, 1) := by decide +kernel
theorem dL_law_978 : decode cL_law 978 = .ok (.iadd, 1) := by decide +kernel
theorem dL_law_979 : decode cL_law 979 = .ok (.iaload, 1) := by decide +kernel
theorem dL_law_980 : decode cL_law 980 = .ok (.ifCond .eq 7, 3) := by decide +kernel
theorem dL_law_983 : decode cL_law 983 = .ok (.iconst 1, 1) := by decide +kernel
theorem dL_law_984 : decode cL_law 984 = .ok (.goto 4, 3) := by decide +kernel
theorem dL_law_987 : decode cL_law 987 = .ok (.iconst 0, 1) := by decide +kernel
theorem dL_law_988 : decode cL_law 988 = .ok (.invokevirtual 111, 3) := by decide +kernel
theorem dL_law_991 : decode cL_law 991 = .ok (.lcmp, 1) := by decide +kernel
theorem dL_law_992 : decode cL_law 992 = .ok (.ifCond .eq 322, 3) := by decide +kernel
theorem dL_law_995 : decode cL_law 995 = .ok (.iconst 0, 1) := by decide +kernel
theorem dL_law_996 : decode cL_law 996 = .ok (.ireturn, 1) := by decide +kernel
theorem dL_law_997 : decode cL_law 997 = .ok (.aload_n 1, 1) := by decide +kernel
theorem dL_law_998 : decode cL_law 998 = .ok (.aload_n 0, 1) := by decide +kernel
theorem dL_law_999 : decode cL_law 999 = .ok (.iload 4, 2) := by decide +kernel
theorem dL_law_1001 : decode cL_law 1001 = .ok (.iconst 1, 1) := by decide +kernel
theorem dL_law_1002 : decode cL_law 1002 = .ok (.iadd, 1) := by decide +kernel
theorem dL_law_1003 : decode cL_law 1003 = .ok (.iaload, 1) := by decide +kernel
theorem dL_law_1004 : decode cL_law 1004 = .ok (.invokevirtual 112, 3) := by decide +kernel
theorem dL_law_1007 : decode cL_law 1007 = .ok (.aload_n 2, 1) := by decide +kernel
theorem dL_law_1008 : decode cL_law 1008 = .ok (.aload_n 0, 1) := by decide +kernel
theorem dL_law_1009 : decode cL_law 1009 = .ok (.iload 4, 2) := by decide +kernel
theorem dL_law_1011 : decode cL_law 1011 = .ok (.iconst 1, 1) := by decide +kernel
theorem dL_law_1012 : decode cL_law 1012 = .ok (.iadd, 1) := by decide +kernel
theorem dL_law_1013 : decode cL_law 1013 = .ok (.iaload, 1) := by decide +kernel
theorem dL_law_1014 : decode cL_law 1014 = .ok (.invokevirtual 115, 3) := by decide +kernel
theorem dL_law_1017 : decode cL_law 1017 = .ok (.if_icmp .eq 297, 3) := by decide +kernel
theorem dL_law_1020 : decode cL_law 1020 = .ok (.iconst 0, 1) := by decide +kernel
theorem dL_law_1021 : decode cL_law 1021 = .ok (.ireturn, 1) := by decide +kernel
theorem dL_law_1022 : decode cL_law 1022 = .ok (.aload_n 1, 1) := by decide +kernel
theorem dL_law_1023 : decode cL_law 1023 = .ok (.aload_n 0, 1) := by decide +kernel
theorem dL_law_1024 : decode cL_law 1024 = .ok (.iload 4, 2) := by decide +kernel
theorem dL_law_1026 : decode cL_law 1026 = .ok (.iconst 1, 1) := by decide +kernel
theorem dL_law_1027 : decode cL_law 1027 = .ok (.iadd, 1) := by decide +kernel
theorem dL_law_1028 : decode cL_law 1028 = .ok (.iaload, 1) := by decide +kernel
theorem dL_law_1029 : decode cL_law 1029 = .ok (.aload_n 0, 1) := by decide +kernel
theorem dL_law_1030 : decode cL_law 1030 = .ok (.iload 4, 2) := by decide +kernel
theorem dL_law_1032 : decode cL_law 1032 = .ok (.iconst 2, 1) := by decide +kernel
theorem dL_law_1033 : decode cL_law 1033 = .ok (.iadd, 1) := by decide +kernel
theorem dL_law_1034 : decode cL_law 1034 = .ok (.iaload, 1) := by decide +kernel
theorem dL_law_1035 : decode cL_law 1035 = .ok (.ifCond .eq 7, 3) := by decide +kernel
theorem dL_law_1038 : decode cL_law 1038 = .ok (.iconst 1, 1) := by decide +kernel
theorem dL_law_1039 : decode cL_law 1039 = .ok (.goto 4, 3) := by decide +kernel
theorem dL_law_1042 : decode cL_law 1042 = .ok (.iconst 0, 1) := by decide +kernel
theorem dL_law_1043 : decode cL_law 1043 = .ok (.invokevirtual 116, 3) := by decide +kernel
theorem dL_law_1046 : decode cL_law 1046 = .ok (.aload_n 2, 1) := by decide +kernel
theorem dL_law_1047 : decode cL_law 1047 = .ok (.aload_n 0, 1) := by decide +kernel
theorem dL_law_1048 : decode cL_law 1048 = .ok (.iload 4, 2) := by decide +kernel
theorem dL_law_1050 : decode cL_law 1050 = .ok (.iconst 1, 1) := by decide +kernel
theorem dL_law_1051 : decode cL_law 1051 = .ok (.iadd, 1) := by decide +kernel
theorem dL_law_1052 : decode cL_law 1052 = .ok (.iaload, 1) := by decide +kernel
theorem dL_law_1053 : decode cL_law 1053 = .ok (.aload_n 0, 1) := by decide +kernel
theorem dL_law_1054 : decode cL_law 1054 = .ok (.iload 4, 2) := by decide +kernel
theorem dL_law_1056 : decode cL_law 1056 = .ok (.iconst 2, 1) := by decide +kernel
theorem dL_law_1057 : decode cL_law 1057 = .ok (.iadd, 1) := by decide +kernel
theorem dL_law_1058 : decode cL_law 1058 = .ok (.iaload, 1) := by decide +kernel
theorem dL_law_1059 : decode cL_law 1059 = .ok (.ifCond .eq 7, 3) := by decide +kernel
theorem dL_law_1062 : decode cL_law 1062 = .ok (.iconst 1, 1) := by decide +kernel
theorem dL_law_1063 : decode cL_law 1063 = .ok (.goto 4, 3) := by decide +kernel
theorem dL_law_1066 : decode cL_law 1066 = .ok (.iconst 0, 1) := by decide +kernel
theorem dL_law_1067 : decode cL_law 1067 = .ok (.invokevirtual 119, 3) := by decide +kernel
theorem dL_law_1070 : decode cL_law 1070 = .ok (.lcmp, 1) := by decide +kernel
theorem dL_law_1071 : decode cL_law 1071 = .ok (.ifCond .eq 243, 3) := by decide +kernel
theorem dL_law_1074 : decode cL_law 1074 = .ok (.iconst 0, 1) := by decide +kernel
theorem dL_law_1075 : decode cL_law 1075 = .ok (.ireturn, 1) := by decide +kernel
theorem dL_law_1076 : decode cL_law 1076 = .ok (.aload_n 1, 1) := by decide +kernel
theorem dL_law_1077 : decode cL_law 1077 = .ok (.aload_n 0, 1) := by decide +kernel
theorem dL_law_1078 : decode cL_law 1078 = .ok (.iload 4, 2) := by decide +kernel
theorem dL_law_1080 : decode cL_law 1080 = .ok (.iconst 1, 1) := by decide +kernel
theorem dL_law_1081 : decode cL_law 1081 = .ok (.iadd, 1) := by decide +kernel
theorem dL_law_1082 : decode cL_law 1082 = .ok (.iaload, 1) := by decide +kernel
theorem dL_law_1083 : decode cL_law 1083 = .ok (.aload_n 0, 1) := by decide +kernel
theorem dL_law_1084 : decode cL_law 1084 = .ok (.iload 4, 2) := by decide +kernel
theorem dL_law_1086 : decode cL_law 1086 = .ok (.iconst 2, 1) := by decide +kernel
theorem dL_law_1087 : decode cL_law 1087 = .ok (.iadd, 1) := by decide +kernel
theorem dL_law_1088 : decode cL_law 1088 = .ok (.iaload, 1) := by decide +kernel
theorem dL_law_1089 : decode cL_law 1089 = .ok (.invokevirtual 120, 3) := by decide +kernel
theorem dL_law_1092 : decode cL_law 1092 = .ok (.aload_n 2, 1) := by decide +kernel
theorem dL_law_1093 : decode cL_law 1093 = .ok (.aload_n 0, 1) := by decide +kernel
theorem dL_law_1094 : decode cL_law 1094 = .ok (.iload 4, 2) := by decide +kernel
theorem dL_law_1096 : decode cL_law 1096 = .ok (.iconst 1, 1) := by decide +kernel
theorem dL_law_1097 : decode cL_law 1097 = .ok (.iadd, 1) := by decide +kernel
theorem dL_law_1098 : decode cL_law 1098 = .ok (.iaload, 1) := by decide +kernel
theorem dL_law_1099 : decode cL_law 1099 = .ok (.aload_n 0, 1) := by decide +kernel
theorem dL_law_1100 : decode cL_law 1100 = .ok (.iload 4, 2) := by decide +kernel
theorem dL_law_1102 : decode cL_law 1102 = .ok (.iconst 2, 1) := by decide +kernel
theorem dL_law_1103 : decode cL_law 1103 = .ok (.iadd, 1) := by decide +kernel
theorem dL_law_1104 : decode cL_law 1104 = .ok (.iaload, 1) := by decide +kernel
theorem dL_law_1105 : decode cL_law 1105 = .ok (.invokevirtual 123, 3) := by decide +kernel
theorem dL_law_1108 : decode cL_law 1108 = .ok (.if_icmp .eq 206, 3) := by decide +kernel
theorem dL_law_1111 : decode cL_law 1111 = .ok (.iconst 0, 1) := by decide +kernel
theorem dL_law_1112 : decode cL_law 1112 = .ok (.ireturn, 1) := by decide +kernel
theorem dL_law_1113 : decode cL_law 1113 = .ok (.aload_n 1, 1) := by decide +kernel
theorem dL_law_1114 : decode cL_law 1114 = .ok (.aload_n 0, 1) := by decide +kernel
theorem dL_law_1115 : decode cL_law 1115 = .ok (.iload 4, 2) := by decide +kernel
theorem dL_law_1117 : decode cL_law 1117 = .ok (.iconst 1, 1) := by decide +kernel
theorem dL_law_1118 : decode cL_law 1118 = .ok (.iadd, 1) := by decide +kernel
theorem dL_law_1119 : decode cL_law 1119 = .ok (.iaload, 1) := by decide +kernel
theorem dL_law_1120 : decode cL_law 1120 = .ok (.invokevirtual 124, 3) := by decide +kernel
theorem dL_law_1123 : decode cL_law 1123 = .ok (.aload_n 2, 1) := by decide +kernel
theorem dL_law_1124 : decode cL_law 1124 = .ok (.aload_n 0, 1) := by decide +kernel
theorem dL_law_1125 : decode cL_law 1125 = .ok (.iload 4, 2) := by decide +kernel
theorem dL_law_1127 : decode cL_law 1127 = .ok (.iconst 1, 1) := by decide +kernel
theorem dL_law_1128 : decode cL_law 1128 = .ok (.iadd, 1) := by decide +kernel
theorem dL_law_1129 : decode cL_law 1129 = .ok (.iaload, 1) := by decide +kernel
theorem dL_law_1130 : decode cL_law 1130 = .ok (.invokevirtual 127, 3) := by decide +kernel
theorem dL_law_1133 : decode cL_law 1133 = .ok (.if_icmp .eq 181, 3) := by decide +kernel
theorem dL_law_1136 : decode cL_law 1136 = .ok (.iconst 0, 1) := by decide +kernel
theorem dL_law_1137 : decode cL_law 1137 = .ok (.ireturn, 1) := by decide +kernel
theorem dL_law_1138 : decode cL_law 1138 = .ok (.aload_n 1, 1) := by decide +kernel
theorem dL_law_1139 : decode cL_law 1139 = .ok (.invokevirtual 128, 3) := by decide +kernel
theorem dL_law_1142 : decode cL_law 1142 = .ok (.aload_n 2, 1) := by decide +kernel
theorem dL_law_1143 : decode cL_law 1143 = .ok (.invokevirtual 131, 3) := by decide +kernel
theorem dL_law_1146 : decode cL_law 1146 = .ok (.if_icmp .eq 168, 3) := by decide +kernel
theorem dL_law_1149 : decode cL_law 1149 = .ok (.iconst 0, 1) := by decide +kernel
theorem dL_law_1150 : decode cL_law 1150 = .ok (.ireturn, 1) := by decide +kernel
theorem dL_law_1151 : decode cL_law 1151 = .ok (.aload_n 1, 1) := by decide +kernel
theorem dL_law_1152 : decode cL_law 1152 = .ok (.invokevirtual 132, 3) := by decide +kernel
theorem dL_law_1155 : decode cL_law 1155 = .ok (.aload_n 2, 1) := by decide +kernel
theorem dL_law_1156 : decode cL_law 1156 = .ok (.invokevirtual 135, 3) := by decide +kernel
theorem dL_law_1159 : decode cL_law 1159 = .ok (.if_icmp .eq 155, 3) := by decide +kernel
theorem dL_law_1162 : decode cL_law 1162 = .ok (.iconst 0, 1) := by decide +kernel
theorem dL_law_1163 : decode cL_law 1163 = .ok (.ireturn, 1) := by decide +kernel
theorem dL_law_1164 : decode cL_law 1164 = .ok (.aload_n 1, 1) := by decide +kernel
theorem dL_law_1165 : decode cL_law 1165 = .ok (.aload_n 0, 1) := by decide +kernel
theorem dL_law_1166 : decode cL_law 1166 = .ok (.iload 4, 2) := by decide +kernel
theorem dL_law_1168 : decode cL_law 1168 = .ok (.iconst 1, 1) := by decide +kernel
theorem dL_law_1169 : decode cL_law 1169 = .ok (.iadd, 1) := by decide +kernel
theorem dL_law_1170 : decode cL_law 1170 = .ok (.iaload, 1) := by decide +kernel
theorem dL_law_1171 : decode cL_law 1171 = .ok (.aload_n 0, 1) := by decide +kernel
theorem dL_law_1172 : decode cL_law 1172 = .ok (.iload 4, 2) := by decide +kernel
theorem dL_law_1174 : decode cL_law 1174 = .ok (.iconst 2, 1) := by decide +kernel
theorem dL_law_1175 : decode cL_law 1175 = .ok (.iadd, 1) := by decide +kernel
theorem dL_law_1176 : decode cL_law 1176 = .ok (.iaload, 1) := by decide +kernel
theorem dL_law_1177 : decode cL_law 1177 = .ok (.ifCond .eq 7, 3) := by decide +kernel
theorem dL_law_1180 : decode cL_law 1180 = .ok (.iconst 1, 1) := by decide +kernel
theorem dL_law_1181 : decode cL_law 1181 = .ok (.goto 4, 3) := by decide +kernel
theorem dL_law_1184 : decode cL_law 1184 = .ok (.iconst 0, 1) := by decide +kernel
theorem dL_law_1185 : decode cL_law 1185 = .ok (.invokevirtual 136, 3) := by decide +kernel
theorem dL_law_1188 : decode cL_law 1188 = .ok (.aload_n 2, 1) := by decide +kernel
theorem dL_law_1189 : decode cL_law 1189 = .ok (.aload_n 0, 1) := by decide +kernel
theorem dL_law_1190 : decode cL_law 1190 = .ok (.iload 4, 2) := by decide +kernel
theorem dL_law_1192 : decode cL_law 1192 = .ok (.iconst 1, 1) := by decide +kernel
theorem dL_law_1193 : decode cL_law 1193 = .ok (.iadd, 1) := by decide +kernel
theorem dL_law_1194 : decode cL_law 1194 = .ok (.iaload, 1) := by decide +kernel
theorem dL_law_1195 : decode cL_law 1195 = .ok (.aload_n 0, 1) := by decide +kernel
theorem dL_law_1196 : decode cL_law 1196 = .ok (.iload 4, 2) := by decide +kernel
theorem dL_law_1198 : decode cL_law 1198 = .ok (.iconst 2, 1) := by decide +kernel
theorem dL_law_1199 : decode cL_law 1199 = .ok (.iadd, 1) := by decide +kernel
theorem dL_law_1200 : decode cL_law 1200 = .ok (.iaload, 1) := by decide +kernel
theorem dL_law_1201 : decode cL_law 1201 = .ok (.ifCond .eq 7, 3) := by decide +kernel
theorem dL_law_1204 : decode cL_law 1204 = .ok (.iconst 1, 1) := by decide +kernel
theorem dL_law_1205 : decode cL_law 1205 = .ok (.goto 4, 3) := by decide +kernel
theorem dL_law_1208 : decode cL_law 1208 = .ok (.iconst 0, 1) := by decide +kernel
theorem dL_law_1209 : decode cL_law 1209 = .ok (.invokevirtual 139, 3) := by decide +kernel
theorem dL_law_1212 : decode cL_law 1212 = .ok (.lcmp, 1) := by decide +kernel
theorem dL_law_1213 : decode cL_law 1213 = .ok (.ifCond .eq 101, 3) := by decide +kernel
theorem dL_law_1216 : decode cL_law 1216 = .ok (.iconst 0, 1) := by decide +kernel
theorem dL_law_1217 : decode cL_law 1217 = .ok (.ireturn, 1) := by decide +kernel
theorem dL_law_1218 : decode cL_law 1218 = .ok (.aload_n 1, 1) := by decide +kernel
theorem dL_law_1219 : decode cL_law 1219 = .ok (.aload_n 0, 1) := by decide +kernel
theorem dL_law_1220 : decode cL_law 1220 = .ok (.iload 4, 2) := by decide +kernel
theorem dL_law_1222 : decode cL_law 1222 = .ok (.iconst 1, 1) := by decide +kernel
theorem dL_law_1223 : decode cL_law 1223 = .ok (.iadd, 1) := by decide +kernel
theorem dL_law_1224 : decode cL_law 1224 = .ok (.iaload, 1) := by decide +kernel
theorem dL_law_1225 : decode cL_law 1225 = .ok (.ifCond .eq 7, 3) := by decide +kernel
theorem dL_law_1228 : decode cL_law 1228 = .ok (.iconst 1, 1) := by decide +kernel
theorem dL_law_1229 : decode cL_law 1229 = .ok (.goto 4, 3) := by decide +kernel
theorem dL_law_1232 : decode cL_law 1232 = .ok (.iconst 0, 1) := by decide +kernel
theorem dL_law_1233 : decode cL_law 1233 = .ok (.invokevirtual 140, 3) := by decide +kernel
theorem dL_law_1236 : decode cL_law 1236 = .ok (.aload_n 2, 1) := by decide +kernel
theorem dL_law_1237 : decode cL_law 1237 = .ok (.aload_n 0, 1) := by decide +kernel
theorem dL_law_1238 : decode cL_law 1238 = .ok (.iload 4, 2) := by decide +kernel
theorem dL_law_1240 : decode cL_law 1240 = .ok (.iconst 1, 1) := by decide +kernel
theorem dL_law_1241 : decode cL_law 1241 = .ok (.iadd, 1) := by decide +kernel
theorem dL_law_1242 : decode cL_law 1242 = .ok (.iaload, 1) := by decide +kernel
theorem dL_law_1243 : decode cL_law 1243 = .ok (.ifCond .eq 7, 3) := by decide +kernel
theorem dL_law_1246 : decode cL_law 1246 = .ok (.iconst 1, 1) := by decide +kernel
theorem dL_law_1247 : decode cL_law 1247 = .ok (.goto 4, 3) := by decide +kernel
theorem dL_law_1250 : decode cL_law 1250 = .ok (.iconst 0, 1) := by decide +kernel
theorem dL_law_1251 : decode cL_law 1251 = .ok (.invokevirtual 143, 3) := by decide +kernel
theorem dL_law_1254 : decode cL_law 1254 = .ok (.lcmp, 1) := by decide +kernel
theorem dL_law_1255 : decode cL_law 1255 = .ok (.ifCond .eq 59, 3) := by decide +kernel
theorem dL_law_1258 : decode cL_law 1258 = .ok (.iconst 0, 1) := by decide +kernel
theorem dL_law_1259 : decode cL_law 1259 = .ok (.ireturn, 1) := by decide +kernel
theorem dL_law_1260 : decode cL_law 1260 = .ok (.aload_n 1, 1) := by decide +kernel
theorem dL_law_1261 : decode cL_law 1261 = .ok (.aload_n 0, 1) := by decide +kernel
theorem dL_law_1262 : decode cL_law 1262 = .ok (.iload 4, 2) := by decide +kernel
theorem dL_law_1264 : decode cL_law 1264 = .ok (.iconst 1, 1) := by decide +kernel
theorem dL_law_1265 : decode cL_law 1265 = .ok (.iadd, 1) := by decide +kernel
theorem dL_law_1266 : decode cL_law 1266 = .ok (.iaload, 1) := by decide +kernel
theorem dL_law_1267 : decode cL_law 1267 = .ok (.aload_n 0, 1) := by decide +kernel
theorem dL_law_1268 : decode cL_law 1268 = .ok (.iload 4, 2) := by decide +kernel
theorem dL_law_1270 : decode cL_law 1270 = .ok (.iconst 2, 1) := by decide +kernel
theorem dL_law_1271 : decode cL_law 1271 = .ok (.iadd, 1) := by decide +kernel
theorem dL_law_1272 : decode cL_law 1272 = .ok (.iaload, 1) := by decide +kernel
theorem dL_law_1273 : decode cL_law 1273 = .ok (.ifCond .eq 7, 3) := by decide +kernel
theorem dL_law_1276 : decode cL_law 1276 = .ok (.iconst 1, 1) := by decide +kernel
theorem dL_law_1277 : decode cL_law 1277 = .ok (.goto 4, 3) := by decide +kernel
theorem dL_law_1280 : decode cL_law 1280 = .ok (.iconst 0, 1) := by decide +kernel
theorem dL_law_1281 : decode cL_law 1281 = .ok (.invokevirtual 144, 3) := by decide +kernel
theorem dL_law_1284 : decode cL_law 1284 = .ok (.aload_n 2, 1) := by decide +kernel
theorem dL_law_1285 : decode cL_law 1285 = .ok (.aload_n 0, 1) := by decide +kernel
theorem dL_law_1286 : decode cL_law 1286 = .ok (.iload 4, 2) := by decide +kernel
theorem dL_law_1288 : decode cL_law 1288 = .ok (.iconst 1, 1) := by decide +kernel
theorem dL_law_1289 : decode cL_law 1289 = .ok (.iadd, 1) := by decide +kernel
theorem dL_law_1290 : decode cL_law 1290 = .ok (.iaload, 1) := by decide +kernel
theorem dL_law_1291 : decode cL_law 1291 = .ok (.aload_n 0, 1) := by decide +kernel
theorem dL_law_1292 : decode cL_law 1292 = .ok (.iload 4, 2) := by decide +kernel
theorem dL_law_1294 : decode cL_law 1294 = .ok (.iconst 2, 1) := by decide +kernel
theorem dL_law_1295 : decode cL_law 1295 = .ok (.iadd, 1) := by decide +kernel
theorem dL_law_1296 : decode cL_law 1296 = .ok (.iaload, 1) := by decide +kernel
theorem dL_law_1297 : decode cL_law 1297 = .ok (.ifCond .eq 7, 3) := by decide +kernel
theorem dL_law_1300 : decode cL_law 1300 = .ok (.iconst 1, 1) := by decide +kernel
theorem dL_law_1301 : decode cL_law 1301 = .ok (.goto 4, 3) := by decide +kernel
theorem dL_law_1304 : decode cL_law 1304 = .ok (.iconst 0, 1) := by decide +kernel
theorem dL_law_1305 : decode cL_law 1305 = .ok (.invokevirtual 147, 3) := by decide +kernel
theorem dL_law_1308 : decode cL_law 1308 = .ok (.lcmp, 1) := by decide +kernel
theorem dL_law_1309 : decode cL_law 1309 = .ok (.ifCond .eq 5, 3) := by decide +kernel
theorem dL_law_1312 : decode cL_law 1312 = .ok (.iconst 0, 1) := by decide +kernel
theorem dL_law_1313 : decode cL_law 1313 = .ok (.ireturn, 1) := by decide +kernel
theorem dL_law_1314 : decode cL_law 1314 = .ok (.iinc 4 6, 3) := by decide +kernel
theorem dL_law_1317 : decode cL_law 1317 = .ok (.goto (-1294), 3) := by decide +kernel
theorem dL_law_1320 : decode cL_law 1320 = .ok (.iconst 1, 1) := by decide +kernel
theorem dL_law_1321 : decode cL_law 1321 = .ok (.ireturn, 1) := by decide +kernel
