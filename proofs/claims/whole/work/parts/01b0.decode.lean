theorem dX0_init_0 : decode cX0_init 0 = .ok (.aload_n 0, 1) := by decide +kernel
theorem dX0_init_1 : decode cX0_init 1 = .ok (.invokespecial 3, 3) := by decide +kernel
theorem dX0_init_4 : decode cX0_init 4 = .ok (.aload_n 0, 1) := by decide +kernel
theorem dX0_init_5 : decode cX0_init 5 = .ok (.iconst 0, 1) := by decide +kernel
theorem dX0_init_6 : decode cX0_init 6 = .ok (.putfield 9, 3) := by decide +kernel
theorem dX0_init_9 : decode cX0_init 9 = .ok (.aload_n 0, 1) := by decide +kernel
theorem dX0_init_10 : decode cX0_init 10 = .ok (.lconst 0, 1) := by decide +kernel
theorem dX0_init_11 : decode cX0_init 11 = .ok (.putfield 15, 3) := by decide +kernel
theorem dX0_init_14 : decode cX0_init 14 = .ok (.aload_n 0, 1) := by decide +kernel
theorem dX0_init_15 : decode cX0_init 15 = .ok (.iconst 4, 1) := by decide +kernel
theorem dX0_init_16 : decode cX0_init 16 = .ok (.newarray .int, 2) := by decide +kernel
theorem dX0_init_18 : decode cX0_init 18 = .ok (.putfield 19, 3) := by decide +kernel
theorem dX0_init_21 : decode cX0_init 21 = .ok (.aload_n 0, 1) := by decide +kernel
theorem dX0_init_22 : decode cX0_init 22 = .ok (.iconst 4, 1) := by decide +kernel
theorem dX0_init_23 : decode cX0_init 23 = .ok (.bipush 8, 2) := by decide +kernel
theorem dX0_init_25 : decode cX0_init 25 = .ok (.multianewarray 23 2, 4) := by decide +kernel
theorem dX0_init_29 : decode cX0_init 29 = .ok (.putfield 25, 3) := by decide +kernel
theorem dX0_init_32 : decode cX0_init 32 = .ok (.return_, 1) := by decide +kernel
theorem dX0_invert_0 : decode cX0_invert 0 = .ok (.aload_n 0, 1) := by decide +kernel
theorem dX0_invert_1 : decode cX0_invert 1 = .ok (.aload_n 1, 1) := by decide +kernel
theorem dX0_invert_2 : decode cX0_invert 2 = .ok (.iload_n 2, 1) := by decide +kernel
theorem dX0_invert_3 : decode cX0_invert 3 = .ok (.invokevirtual 28, 3) := by decide +kernel
theorem dX0_invert_6 : decode cX0_invert 6 = .ok (.aload_n 0, 1) := by decide +kernel
theorem dX0_invert_7 : decode cX0_invert 7 = .ok (.aload_n 1, 1) := by decide +kernel
theorem dX0_invert_8 : decode cX0_invert 8 = .ok (.invokevirtual 32, 3) := by decide +kernel
theorem dX0_invert_11 : decode cX0_invert 11 = .ok (.lconst 1, 1) := by decide +kernel
theorem dX0_invert_12 : decode cX0_invert 12 = .ok (.lstore_n 3, 1) := by decide +kernel
theorem dX0_invert_13 : decode cX0_invert 13 = .ok (.iconst 0, 1) := by decide +kernel
theorem dX0_invert_14 : decode cX0_invert 14 = .ok (.istore 5, 2) := by decide +kernel
theorem dX0_invert_16 : decode cX0_invert 16 = .ok (.iload 5, 2) := by decide +kernel
theorem dX0_invert_18 : decode cX0_invert 18 = .ok (.aload_n 0, 1) := by decide +kernel
theorem dX0_invert_19 : decode cX0_invert 19 = .ok (.getfield 9, 3) := by decide +kernel
theorem dX0_invert_22 : decode cX0_invert 22 = .ok (.if_icmp .ge 44, 3) := by decide +kernel
theorem dX0_invert_25 : decode cX0_invert 25 = .ok (.lload_n 3, 1) := by decide +kernel
theorem dX0_invert_26 : decode cX0_invert 26 = .ok (.lconst 0, 1) := by decide +kernel
theorem dX0_invert_27 : decode cX0_invert 27 = .ok (.lcmp, 1) := by decide +kernel
theorem dX0_invert_28 : decode cX0_invert 28 = .ok (.ifCond .eq 12, 3) := by decide +kernel
theorem dX0_invert_31 : decode cX0_invert 31 = .ok (.aload_n 0, 1) := by decide +kernel
theorem dX0_invert_32 : decode cX0_invert 32 = .ok (.iload 5, 2) := by decide +kernel
theorem dX0_invert_34 : decode cX0_invert 34 = .ok (.invokevirtual 36, 3) := by decide +kernel
theorem dX0_invert_37 : decode cX0_invert 37 = .ok (.ifCond .ne 5, 3) := by decide +kernel
theorem dX0_invert_40 : decode cX0_invert 40 = .ok (.iconst 0, 1) := by decide +kernel
theorem dX0_invert_41 : decode cX0_invert 41 = .ok (.ireturn, 1) := by decide +kernel
theorem dX0_invert_42 : decode cX0_invert 42 = .ok (.aload_n 0, 1) := by decide +kernel
theorem dX0_invert_43 : decode cX0_invert 43 = .ok (.iload 5, 2) := by decide +kernel
theorem dX0_invert_45 : decode cX0_invert 45 = .ok (.lload_n 3, 1) := by decide +kernel
theorem dX0_invert_46 : decode cX0_invert 46 = .ok (.invokevirtual 40, 3) := by decide +kernel
theorem dX0_invert_49 : decode cX0_invert 49 = .ok (.aload_n 0, 1) := by decide +kernel
theorem dX0_invert_50 : decode cX0_invert 50 = .ok (.getfield 25, 3) := by decide +kernel
theorem dX0_invert_53 : decode cX0_invert 53 = .ok (.iload 5, 2) := by decide +kernel
theorem dX0_invert_55 : decode cX0_invert 55 = .ok (.aaload, 1) := by decide +kernel
theorem dX0_invert_56 : decode cX0_invert 56 = .ok (.iload 5, 2) := by decide +kernel
theorem dX0_invert_58 : decode cX0_invert 58 = .ok (.laload, 1) := by decide +kernel
theorem dX0_invert_59 : decode cX0_invert 59 = .ok (.lstore_n 3, 1) := by decide +kernel
theorem dX0_invert_60 : decode cX0_invert 60 = .ok (.iinc 5 1, 3) := by decide +kernel
theorem dX0_invert_63 : decode cX0_invert 63 = .ok (.goto (-47), 3) := by decide +kernel
theorem dX0_invert_66 : decode cX0_invert 66 = .ok (.aload_n 0, 1) := by decide +kernel
theorem dX0_invert_67 : decode cX0_invert 67 = .ok (.lload_n 3, 1) := by decide +kernel
theorem dX0_invert_68 : decode cX0_invert 68 = .ok (.putfield 15, 3) := by decide +kernel
theorem dX0_invert_71 : decode cX0_invert 71 = .ok (.aload_n 0, 1) := by decide +kernel
theorem dX0_invert_72 : decode cX0_invert 72 = .ok (.getfield 15, 3) := by decide +kernel
theorem dX0_invert_75 : decode cX0_invert 75 = .ok (.lconst 0, 1) := by decide +kernel
theorem dX0_invert_76 : decode cX0_invert 76 = .ok (.lcmp, 1) := by decide +kernel
theorem dX0_invert_77 : decode cX0_invert 77 = .ok (.ifCond .ge 7, 3) := by decide +kernel
theorem dX0_invert_80 : decode cX0_invert 80 = .ok (.aload_n 0, 1) := by decide +kernel
theorem dX0_invert_81 : decode cX0_invert 81 = .ok (.invokevirtual 44, 3) := by decide +kernel
theorem dX0_invert_84 : decode cX0_invert 84 = .ok (.iconst 1, 1) := by decide +kernel
theorem dX0_invert_85 : decode cX0_invert 85 = .ok (.ireturn, 1) := by decide +kernel
theorem dX0_inverse_0 : decode cX0_inverse 0 = .ok (.aload_n 0, 1) := by decide +kernel
theorem dX0_inverse_1 : decode cX0_inverse 1 = .ok (.getfield 25, 3) := by decide +kernel
theorem dX0_inverse_4 : decode cX0_inverse 4 = .ok (.iload_n 1, 1) := by decide +kernel
theorem dX0_inverse_5 : decode cX0_inverse 5 = .ok (.aaload, 1) := by decide +kernel
theorem dX0_inverse_6 : decode cX0_inverse 6 = .ok (.aload_n 0, 1) := by decide +kernel
theorem dX0_inverse_7 : decode cX0_inverse 7 = .ok (.getfield 9, 3) := by decide +kernel
theorem dX0_inverse_10 : decode cX0_inverse 10 = .ok (.iload_n 2, 1) := by decide +kernel
theorem dX0_inverse_11 : decode cX0_inverse 11 = .ok (.iadd, 1) := by decide +kernel
theorem dX0_inverse_12 : decode cX0_inverse 12 = .ok (.iconst 1, 1) := by decide +kernel
theorem dX0_inverse_13 : decode cX0_inverse 13 = .ok (.isub, 1) := by decide +kernel
theorem dX0_inverse_14 : decode cX0_inverse 14 = .ok (.laload, 1) := by decide +kernel
theorem dX0_inverse_15 : decode cX0_inverse 15 = .ok (.lreturn, 1) := by decide +kernel
theorem dX0_choose_0 : decode cX0_choose 0 = .ok (.aload_n 0, 1) := by decide +kernel
theorem dX0_choose_1 : decode cX0_choose 1 = .ok (.iconst 0, 1) := by decide +kernel
theorem dX0_choose_2 : decode cX0_choose 2 = .ok (.putfield 9, 3) := by decide +kernel
theorem dX0_choose_5 : decode cX0_choose 5 = .ok (.iconst 0, 1) := by decide +kernel
theorem dX0_choose_6 : decode cX0_choose 6 = .ok (.istore_n 3, 1) := by decide +kernel
theorem dX0_choose_7 : decode cX0_choose 7 = .ok (.iload_n 3, 1) := by decide +kernel
theorem dX0_choose_8 : decode cX0_choose 8 = .ok (.aload_n 1, 1) := by decide +kernel
theorem dX0_choose_9 : decode cX0_choose 9 = .ok (.getfield 47, 3) := by decide +kernel
theorem dX0_choose_12 : decode cX0_choose 12 = .ok (.if_icmp .ge 46, 3) := by decide +kernel
theorem dX0_choose_15 : decode cX0_choose 15 = .ok (.iload_n 2, 1) := by decide +kernel
theorem dX0_choose_16 : decode cX0_choose 16 = .ok (.iload_n 3, 1) := by decide +kernel
theorem dX0_choose_17 : decode cX0_choose 17 = .ok (.ishr, 1) := by decide +kernel
theorem dX0_choose_18 : decode cX0_choose 18 = .ok (.iconst 1, 1) := by decide +kernel
theorem dX0_choose_19 : decode cX0_choose 19 = .ok (.iand, 1) := by decide +kernel
theorem dX0_choose_20 : decode cX0_choose 20 = .ok (.iconst 1, 1) := by decide +kernel
theorem dX0_choose_21 : decode cX0_choose 21 = .ok (.if_icmp .ne 31, 3) := by decide +kernel
theorem dX0_choose_24 : decode cX0_choose 24 = .ok (.aload_n 0, 1) := by decide +kernel
theorem dX0_choose_25 : decode cX0_choose 25 = .ok (.getfield 9, 3) := by decide +kernel
theorem dX0_choose_28 : decode cX0_choose 28 = .ok (.iconst 4, 1) := by decide +kernel
theorem dX0_choose_29 : decode cX0_choose 29 = .ok (.if_icmp .ge 23, 3) := by decide +kernel
theorem dX0_choose_32 : decode cX0_choose 32 = .ok (.aload_n 0, 1) := by decide +kernel
theorem dX0_choose_33 : decode cX0_choose 33 = .ok (.getfield 19, 3) := by decide +kernel
theorem dX0_choose_36 : decode cX0_choose 36 = .ok (.aload_n 0, 1) := by decide +kernel
theorem dX0_choose_37 : decode cX0_choose 37 = .ok (.getfield 9, 3) := by decide +kernel
theorem dX0_choose_40 : decode cX0_choose 40 = .ok (.iload_n 3, 1) := by decide +kernel
theorem dX0_choose_41 : decode cX0_choose 41 = .ok (.iastore, 1) := by decide +kernel
theorem dX0_choose_42 : decode cX0_choose 42 = .ok (.aload_n 0, 1) := by decide +kernel
theorem dX0_choose_43 : decode cX0_choose 43 = .ok (.dup, 1) := by decide +kernel
theorem dX0_choose_44 : decode cX0_choose 44 = .ok (.getfield 9, 3) := by decide +kernel
theorem dX0_choose_47 : decode cX0_choose 47 = .ok (.iconst 1, 1) := by decide +kernel
theorem dX0_choose_48 : decode cX0_choose 48 = .ok (.iadd, 1) := by decide +kernel
theorem dX0_choose_49 : decode cX0_choose 49 = .ok (.putfield 9, 3) := by decide +kernel
theorem dX0_choose_52 : decode cX0_choose 52 = .ok (.iinc 3 1, 3) := by decide +kernel
theorem dX0_choose_55 : decode cX0_choose 55 = .ok (.goto (-48), 3) := by decide +kernel
theorem dX0_choose_58 : decode cX0_choose 58 = .ok (.return_, 1) := by decide +kernel
theorem dX0_fill_0 : decode cX0_fill 0 = .ok (.iconst 0, 1) := by decide +kernel
theorem dX0_fill_1 : decode cX0_fill 1 = .ok (.istore_n 2, 1) := by decide +kernel
theorem dX0_fill_2 : decode cX0_fill 2 = .ok (.iload_n 2, 1) := by decide +kernel
theorem dX0_fill_3 : decode cX0_fill 3 = .ok (.aload_n 0, 1) := by decide +kernel
theorem dX0_fill_4 : decode cX0_fill 4 = .ok (.getfield 9, 3) := by decide +kernel
theorem dX0_fill_7 : decode cX0_fill 7 = .ok (.if_icmp .ge 71, 3) := by decide +kernel
theorem dX0_fill_10 : decode cX0_fill 10 = .ok (.iconst 0, 1) := by decide +kernel
theorem dX0_fill_11 : decode cX0_fill 11 = .ok (.istore_n 3, 1) := by decide +kernel
theorem dX0_fill_12 : decode cX0_fill 12 = .ok (.iload_n 3, 1) := by decide +kernel
theorem dX0_fill_13 : decode cX0_fill 13 = .ok (.aload_n 0, 1) := by decide +kernel
theorem dX0_fill_14 : decode cX0_fill 14 = .ok (.getfield 9, 3) := by decide +kernel
theorem dX0_fill_17 : decode cX0_fill 17 = .ok (.if_icmp .ge 55, 3) := by decide +kernel
theorem dX0_fill_20 : decode cX0_fill 20 = .ok (.aload_n 0, 1) := by decide +kernel
theorem dX0_fill_21 : decode cX0_fill 21 = .ok (.getfield 25, 3) := by decide +kernel
theorem dX0_fill_24 : decode cX0_fill 24 = .ok (.iload_n 2, 1) := by decide +kernel
theorem dX0_fill_25 : decode cX0_fill 25 = .ok (.aaload, 1) := by decide +kernel
theorem dX0_fill_26 : decode cX0_fill 26 = .ok (.iload_n 3, 1) := by decide +kernel
theorem dX0_fill_27 : decode cX0_fill 27 = .ok (.aload_n 1, 1) := by decide +kernel
theorem dX0_fill_28 : decode cX0_fill 28 = .ok (.getfield 52, 3) := by decide +kernel
theorem dX0_fill_31 : decode cX0_fill 31 = .ok (.aload_n 0, 1) := by decide +kernel
theorem dX0_fill_32 : decode cX0_fill 32 = .ok (.getfield 19, 3) := by decide +kernel
theorem dX0_fill_35 : decode cX0_fill 35 = .ok (.iload_n 3, 1) := by decide +kernel
theorem dX0_fill_36 : decode cX0_fill 36 = .ok (.iaload, 1) := by decide +kernel
theorem dX0_fill_37 : decode cX0_fill 37 = .ok (.aaload, 1) := by decide +kernel
theorem dX0_fill_38 : decode cX0_fill 38 = .ok (.iload_n 2, 1) := by decide +kernel
theorem dX0_fill_39 : decode cX0_fill 39 = .ok (.iconst 1, 1) := by decide +kernel
theorem dX0_fill_40 : decode cX0_fill 40 = .ok (.iadd, 1) := by decide +kernel
theorem dX0_fill_41 : decode cX0_fill 41 = .ok (.laload, 1) := by decide +kernel
theorem dX0_fill_42 : decode cX0_fill 42 = .ok (.lastore, 1) := by decide +kernel
theorem dX0_fill_43 : decode cX0_fill 43 = .ok (.aload_n 0, 1) := by decide +kernel
theorem dX0_fill_44 : decode cX0_fill 44 = .ok (.getfield 25, 3) := by decide +kernel
theorem dX0_fill_47 : decode cX0_fill 47 = .ok (.iload_n 2, 1) := by decide +kernel
theorem dX0_fill_48 : decode cX0_fill 48 = .ok (.aaload, 1) := by decide +kernel
theorem dX0_fill_49 : decode cX0_fill 49 = .ok (.aload_n 0, 1) := by decide +kernel
theorem dX0_fill_50 : decode cX0_fill 50 = .ok (.getfield 9, 3) := by decide +kernel
theorem dX0_fill_53 : decode cX0_fill 53 = .ok (.iload_n 3, 1) := by decide +kernel
theorem dX0_fill_54 : decode cX0_fill 54 = .ok (.iadd, 1) := by decide +kernel
theorem dX0_fill_55 : decode cX0_fill 55 = .ok (.iload_n 2, 1) := by decide +kernel
theorem dX0_fill_56 : decode cX0_fill 56 = .ok (.iload_n 3, 1) := by decide +kernel
theorem dX0_fill_57 : decode cX0_fill 57 = .ok (.if_icmp .ne 7, 3) := by decide +kernel
theorem dX0_fill_60 : decode cX0_fill 60 = .ok (.lconst 1, 1) := by decide +kernel
theorem dX0_fill_61 : decode cX0_fill 61 = .ok (.goto 4, 3) := by decide +kernel
theorem dX0_fill_64 : decode cX0_fill 64 = .ok (.lconst 0, 1) := by decide +kernel
theorem dX0_fill_65 : decode cX0_fill 65 = .ok (.lastore, 1) := by decide +kernel
theorem dX0_fill_66 : decode cX0_fill 66 = .ok (.iinc 3 1, 3) := by decide +kernel
theorem dX0_fill_69 : decode cX0_fill 69 = .ok (.goto (-57), 3) := by decide +kernel
theorem dX0_fill_72 : decode cX0_fill 72 = .ok (.iinc 2 1, 3) := by decide +kernel
theorem dX0_fill_75 : decode cX0_fill 75 = .ok (.goto (-73), 3) := by decide +kernel
theorem dX0_fill_78 : decode cX0_fill 78 = .ok (.return_, 1) := by decide +kernel
theorem dX0_bringPivot_0 : decode cX0_bringPivot 0 = .ok (.iload_n 1, 1) := by decide +kernel
theorem dX0_bringPivot_1 : decode cX0_bringPivot 1 = .ok (.istore_n 2, 1) := by decide +kernel
theorem dX0_bringPivot_2 : decode cX0_bringPivot 2 = .ok (.iload_n 2, 1) := by decide +kernel
theorem dX0_bringPivot_3 : decode cX0_bringPivot 3 = .ok (.aload_n 0, 1) := by decide +kernel
theorem dX0_bringPivot_4 : decode cX0_bringPivot 4 = .ok (.getfield 9, 3) := by decide +kernel
theorem dX0_bringPivot_7 : decode cX0_bringPivot 7 = .ok (.if_icmp .ge 30, 3) := by decide +kernel
theorem dX0_bringPivot_10 : decode cX0_bringPivot 10 = .ok (.aload_n 0, 1) := by decide +kernel
theorem dX0_bringPivot_11 : decode cX0_bringPivot 11 = .ok (.getfield 25, 3) := by decide +kernel
theorem dX0_bringPivot_14 : decode cX0_bringPivot 14 = .ok (.iload_n 2, 1) := by decide +kernel
theorem dX0_bringPivot_15 : decode cX0_bringPivot 15 = .ok (.aaload, 1) := by decide +kernel
theorem dX0_bringPivot_16 : decode cX0_bringPivot 16 = .ok (.iload_n 1, 1) := by decide +kernel
theorem dX0_bringPivot_17 : decode cX0_bringPivot 17 = .ok (.laload, 1) := by decide +kernel
theorem dX0_bringPivot_18 : decode cX0_bringPivot 18 = .ok (.lconst 0, 1) := by decide +kernel
theorem dX0_bringPivot_19 : decode cX0_bringPivot 19 = .ok (.lcmp, 1) := by decide +kernel
theorem dX0_bringPivot_20 : decode cX0_bringPivot 20 = .ok (.ifCond .eq 11, 3) := by decide +kernel
theorem dX0_bringPivot_23 : decode cX0_bringPivot 23 = .ok (.aload_n 0, 1) := by decide +kernel
theorem dX0_bringPivot_24 : decode cX0_bringPivot 24 = .ok (.iload_n 2, 1) := by decide +kernel
theorem dX0_bringPivot_25 : decode cX0_bringPivot 25 = .ok (.iload_n 1, 1) := by decide +kernel
theorem dX0_bringPivot_26 : decode cX0_bringPivot 26 = .ok (.invokevirtual 55, 3) := by decide +kernel
theorem dX0_bringPivot_29 : decode cX0_bringPivot 29 = .ok (.iconst 1, 1) := by decide +kernel
theorem dX0_bringPivot_30 : decode cX0_bringPivot 30 = .ok (.ireturn, 1) := by decide +kernel
theorem dX0_bringPivot_31 : decode cX0_bringPivot 31 = .ok (.iinc 2 1, 3) := by decide +kernel
theorem dX0_bringPivot_34 : decode cX0_bringPivot 34 = .ok (.goto (-32), 3) := by decide +kernel
theorem dX0_bringPivot_37 : decode cX0_bringPivot 37 = .ok (.iconst 0, 1) := by decide +kernel
theorem dX0_bringPivot_38 : decode cX0_bringPivot 38 = .ok (.ireturn, 1) := by decide +kernel
theorem dX0_swapRows_0 : decode cX0_swapRows 0 = .ok (.iconst 0, 1) := by decide +kernel
theorem dX0_swapRows_1 : decode cX0_swapRows 1 = .ok (.istore_n 3, 1) := by decide +kernel
theorem dX0_swapRows_2 : decode cX0_swapRows 2 = .ok (.iload_n 1, 1) := by decide +kernel
theorem dX0_swapRows_3 : decode cX0_swapRows 3 = .ok (.iload_n 2, 1) := by decide +kernel
theorem dX0_swapRows_4 : decode cX0_swapRows 4 = .ok (.if_icmp .eq 55, 3) := by decide +kernel
theorem dX0_swapRows_7 : decode cX0_swapRows 7 = .ok (.iload_n 3, 1) := by decide +kernel
theorem dX0_swapRows_8 : decode cX0_swapRows 8 = .ok (.iconst 2, 1) := by decide +kernel
theorem dX0_swapRows_9 : decode cX0_swapRows 9 = .ok (.aload_n 0, 1) := by decide +kernel
theorem dX0_swapRows_10 : decode cX0_swapRows 10 = .ok (.getfield 9, 3) := by decide +kernel
theorem dX0_swapRows_13 : decode cX0_swapRows 13 = .ok (.imul, 1) := by decide +kernel
theorem dX0_swapRows_14 : decode cX0_swapRows 14 = .ok (.if_icmp .ge 45, 3) := by decide +kernel
theorem dX0_swapRows_17 : decode cX0_swapRows 17 = .ok (.aload_n 0, 1) := by decide +kernel
theorem dX0_swapRows_18 : decode cX0_swapRows 18 = .ok (.getfield 25, 3) := by decide +kernel
theorem dX0_swapRows_21 : decode cX0_swapRows 21 = .ok (.iload_n 1, 1) := by decide +kernel
theorem dX0_swapRows_22 : decode cX0_swapRows 22 = .ok (.aaload, 1) := by decide +kernel
theorem dX0_swapRows_23 : decode cX0_swapRows 23 = .ok (.iload_n 3, 1) := by decide +kernel
theorem dX0_swapRows_24 : decode cX0_swapRows 24 = .ok (.laload, 1) := by decide +kernel
theorem dX0_swapRows_25 : decode cX0_swapRows 25 = .ok (.lstore 4, 2) := by decide +kernel
theorem dX0_swapRows_27 : decode cX0_swapRows 27 = .ok (.aload_n 0, 1) := by decide +kernel
theorem dX0_swapRows_28 : decode cX0_swapRows 28 = .ok (.getfield 25, 3) := by decide +kernel
theorem dX0_swapRows_31 : decode cX0_swapRows 31 = .ok (.iload_n 1, 1) := by decide +kernel
theorem dX0_swapRows_32 : decode cX0_swapRows 32 = .ok (.aaload, 1) := by decide +kernel
theorem dX0_swapRows_33 : decode cX0_swapRows 33 = .ok (.iload_n 3, 1) := by decide +kernel
theorem dX0_swapRows_34 : decode cX0_swapRows 34 = .ok (.aload_n 0, 1) := by decide +kernel
theorem dX0_swapRows_35 : decode cX0_swapRows 35 = .ok (.getfield 25, 3) := by decide +kernel
theorem dX0_swapRows_38 : decode cX0_swapRows 38 = .ok (.iload_n 2, 1) := by decide +kernel
theorem dX0_swapRows_39 : decode cX0_swapRows 39 = .ok (.aaload, 1) := by decide +kernel
theorem dX0_swapRows_40 : decode cX0_swapRows 40 = .ok (.iload_n 3, 1) := by decide +kernel
theorem dX0_swapRows_41 : decode cX0_swapRows 41 = .ok (.laload, 1) := by decide +kernel
theorem dX0_swapRows_42 : decode cX0_swapRows 42 = .ok (.lastore, 1) := by decide +kernel
theorem dX0_swapRows_43 : decode cX0_swapRows 43 = .ok (.aload_n 0, 1) := by decide +kernel
theorem dX0_swapRows_44 : decode cX0_swapRows 44 = .ok (.getfield 25, 3) := by decide +kernel
theorem dX0_swapRows_47 : decode cX0_swapRows 47 = .ok (.iload_n 2, 1) := by decide +kernel
theorem dX0_swapRows_48 : decode cX0_swapRows 48 = .ok (.aaload, 1) := by decide +kernel
theorem dX0_swapRows_49 : decode cX0_swapRows 49 = .ok (.iload_n 3, 1) := by decide +kernel
theorem dX0_swapRows_50 : decode cX0_swapRows 50 = .ok (.lload 4, 2) := by decide +kernel
theorem dX0_swapRows_52 : decode cX0_swapRows 52 = .ok (.lastore, 1) := by decide +kernel
theorem dX0_swapRows_53 : decode cX0_swapRows 53 = .ok (.iinc 3 1, 3) := by decide +kernel
theorem dX0_swapRows_56 : decode cX0_swapRows 56 = .ok (.goto (-54), 3) := by decide +kernel
theorem dX0_swapRows_59 : decode cX0_swapRows 59 = .ok (.return_, 1) := by decide +kernel
theorem dX0_clearColumn_0 : decode cX0_clearColumn 0 = .ok (.lload_n 2, 1) := by decide +kernel
theorem dX0_clearColumn_1 : decode cX0_clearColumn 1 = .ok (.lconst 0, 1) := by decide +kernel
theorem dX0_clearColumn_2 : decode cX0_clearColumn 2 = .ok (.lcmp, 1) := by decide +kernel
theorem dX0_clearColumn_3 : decode cX0_clearColumn 3 = .ok (.ifCond .ne 4, 3) := by decide +kernel
theorem dX0_clearColumn_6 : decode cX0_clearColumn 6 = .ok (.return_, 1) := by decide +kernel
theorem dX0_clearColumn_7 : decode cX0_clearColumn 7 = .ok (.aload_n 0, 1) := by decide +kernel
theorem dX0_clearColumn_8 : decode cX0_clearColumn 8 = .ok (.getfield 25, 3) := by decide +kernel
theorem dX0_clearColumn_11 : decode cX0_clearColumn 11 = .ok (.iload_n 1, 1) := by decide +kernel
theorem dX0_clearColumn_12 : decode cX0_clearColumn 12 = .ok (.aaload, 1) := by decide +kernel
theorem dX0_clearColumn_13 : decode cX0_clearColumn 13 = .ok (.iload_n 1, 1) := by decide +kernel
theorem dX0_clearColumn_14 : decode cX0_clearColumn 14 = .ok (.laload, 1) := by decide +kernel
theorem dX0_clearColumn_15 : decode cX0_clearColumn 15 = .ok (.lstore 4, 2) := by decide +kernel
theorem dX0_clearColumn_17 : decode cX0_clearColumn 17 = .ok (.iconst 0, 1) := by decide +kernel
theorem dX0_clearColumn_18 : decode cX0_clearColumn 18 = .ok (.istore 6, 2) := by decide +kernel
theorem dX0_clearColumn_20 : decode cX0_clearColumn 20 = .ok (.iload 6, 2) := by decide +kernel
theorem dX0_clearColumn_22 : decode cX0_clearColumn 22 = .ok (.aload_n 0, 1) := by decide +kernel
theorem dX0_clearColumn_23 : decode cX0_clearColumn 23 = .ok (.getfield 9, 3) := by decide +kernel
theorem dX0_clearColumn_26 : decode cX0_clearColumn 26 = .ok (.if_icmp .ge 86, 3) := by decide +kernel
theorem dX0_clearColumn_29 : decode cX0_clearColumn 29 = .ok (.aload_n 0, 1) := by decide +kernel
theorem dX0_clearColumn_30 : decode cX0_clearColumn 30 = .ok (.getfield 25, 3) := by decide +kernel
theorem dX0_clearColumn_33 : decode cX0_clearColumn 33 = .ok (.iload 6, 2) := by decide +kernel
theorem dX0_clearColumn_35 : decode cX0_clearColumn 35 = .ok (.aaload, 1) := by decide +kernel
theorem dX0_clearColumn_36 : decode cX0_clearColumn 36 = .ok (.iload_n 1, 1) := by decide +kernel
theorem dX0_clearColumn_37 : decode cX0_clearColumn 37 = .ok (.laload, 1) := by decide +kernel
theorem dX0_clearColumn_38 : decode cX0_clearColumn 38 = .ok (.lstore 7, 2) := by decide +kernel
theorem dX0_clearColumn_40 : decode cX0_clearColumn 40 = .ok (.iload_n 1, 1) := by decide +kernel
theorem dX0_clearColumn_41 : decode cX0_clearColumn 41 = .ok (.iconst 1, 1) := by decide +kernel
theorem dX0_clearColumn_42 : decode cX0_clearColumn 42 = .ok (.iadd, 1) := by decide +kernel
theorem dX0_clearColumn_43 : decode cX0_clearColumn 43 = .ok (.istore 9, 2) := by decide +kernel
theorem dX0_clearColumn_45 : decode cX0_clearColumn 45 = .ok (.iload 6, 2) := by decide +kernel
theorem dX0_clearColumn_47 : decode cX0_clearColumn 47 = .ok (.iload_n 1, 1) := by decide +kernel
theorem dX0_clearColumn_48 : decode cX0_clearColumn 48 = .ok (.if_icmp .eq 58, 3) := by decide +kernel
theorem dX0_clearColumn_51 : decode cX0_clearColumn 51 = .ok (.iload 9, 2) := by decide +kernel
theorem dX0_clearColumn_53 : decode cX0_clearColumn 53 = .ok (.iconst 2, 1) := by decide +kernel
theorem dX0_clearColumn_54 : decode cX0_clearColumn 54 = .ok (.aload_n 0, 1) := by decide +kernel
theorem dX0_clearColumn_55 : decode cX0_clearColumn 55 = .ok (.getfield 9, 3) := by decide +kernel
theorem dX0_clearColumn_58 : decode cX0_clearColumn 58 = .ok (.imul, 1) := by decide +kernel
theorem dX0_clearColumn_59 : decode cX0_clearColumn 59 = .ok (.if_icmp .ge 47, 3) := by decide +kernel
theorem dX0_clearColumn_62 : decode cX0_clearColumn 62 = .ok (.aload_n 0, 1) := by decide +kernel
theorem dX0_clearColumn_63 : decode cX0_clearColumn 63 = .ok (.getfield 25, 3) := by decide +kernel
theorem dX0_clearColumn_66 : decode cX0_clearColumn 66 = .ok (.iload 6, 2) := by decide +kernel
theorem dX0_clearColumn_68 : decode cX0_clearColumn 68 = .ok (.aaload, 1) := by decide +kernel
theorem dX0_clearColumn_69 : decode cX0_clearColumn 69 = .ok (.iload 9, 2) := by decide +kernel
theorem dX0_clearColumn_71 : decode cX0_clearColumn 71 = .ok (.lload 4, 2) := by decide +kernel
theorem dX0_clearColumn_73 : decode cX0_clearColumn 73 = .ok (.aload_n 0, 1) := by decide +kernel
theorem dX0_clearColumn_74 : decode cX0_clearColumn 74 = .ok (.getfield 25, 3) := by decide +kernel
theorem dX0_clearColumn_77 : decode cX0_clearColumn 77 = .ok (.iload 6, 2) := by decide +kernel
theorem dX0_clearColumn_79 : decode cX0_clearColumn 79 = .ok (.aaload, 1) := by decide +kernel
theorem dX0_clearColumn_80 : decode cX0_clearColumn 80 = .ok (.iload 9, 2) := by decide +kernel
theorem dX0_clearColumn_82 : decode cX0_clearColumn 82 = .ok (.laload, 1) := by decide +kernel
theorem dX0_clearColumn_83 : decode cX0_clearColumn 83 = .ok (.lmul, 1) := by decide +kernel
theorem dX0_clearColumn_84 : decode cX0_clearColumn 84 = .ok (.lload 7, 2) := by decide +kernel
theorem dX0_clearColumn_86 : decode cX0_clearColumn 86 = .ok (.aload_n 0, 1) := by decide +kernel
theorem dX0_clearColumn_87 : decode cX0_clearColumn 87 = .ok (.getfield 25, 3) := by decide +kernel
theorem dX0_clearColumn_90 : decode cX0_clearColumn 90 = .ok (.iload_n 1, 1) := by decide +kernel
theorem dX0_clearColumn_91 : decode cX0_clearColumn 91 = .ok (.aaload, 1) := by decide +kernel
theorem dX0_clearColumn_92 : decode cX0_clearColumn 92 = .ok (.iload 9, 2) := by decide +kernel
theorem dX0_clearColumn_94 : decode cX0_clearColumn 94 = .ok (.laload, 1) := by decide +kernel
theorem dX0_clearColumn_95 : decode cX0_clearColumn 95 = .ok (.lmul, 1) := by decide +kernel
theorem dX0_clearColumn_96 : decode cX0_clearColumn 96 = .ok (.lsub, 1) := by decide +kernel
theorem dX0_clearColumn_97 : decode cX0_clearColumn 97 = .ok (.lload_n 2, 1) := by decide +kernel
theorem dX0_clearColumn_98 : decode cX0_clearColumn 98 = .ok (.ldiv, 1) := by decide +kernel
theorem dX0_clearColumn_99 : decode cX0_clearColumn 99 = .ok (.lastore, 1) := by decide +kernel
theorem dX0_clearColumn_100 : decode cX0_clearColumn 100 = .ok (.iinc 9 1, 3) := by decide +kernel
theorem dX0_clearColumn_103 : decode cX0_clearColumn 103 = .ok (.goto (-58), 3) := by decide +kernel
theorem dX0_clearColumn_106 : decode cX0_clearColumn 106 = .ok (.iinc 6 1, 3) := by decide +kernel
theorem dX0_clearColumn_109 : decode cX0_clearColumn 109 = .ok (.goto (-89), 3) := by decide +kernel
theorem dX0_clearColumn_112 : decode cX0_clearColumn 112 = .ok (.return_, 1) := by decide +kernel
theorem dX0_turnSigns_0 : decode cX0_turnSigns 0 = .ok (.aload_n 0, 1) := by decide +kernel
theorem dX0_turnSigns_1 : decode cX0_turnSigns 1 = .ok (.aload_n 0, 1) := by decide +kernel
theorem dX0_turnSigns_2 : decode cX0_turnSigns 2 = .ok (.getfield 15, 3) := by decide +kernel
theorem dX0_turnSigns_5 : decode cX0_turnSigns 5 = .ok (.lneg, 1) := by decide +kernel
theorem dX0_turnSigns_6 : decode cX0_turnSigns 6 = .ok (.putfield 15, 3) := by decide +kernel
theorem dX0_turnSigns_9 : decode cX0_turnSigns 9 = .ok (.iconst 0, 1) := by decide +kernel
theorem dX0_turnSigns_10 : decode cX0_turnSigns 10 = .ok (.istore_n 1, 1) := by decide +kernel
theorem dX0_turnSigns_11 : decode cX0_turnSigns 11 = .ok (.iload_n 1, 1) := by decide +kernel
theorem dX0_turnSigns_12 : decode cX0_turnSigns 12 = .ok (.aload_n 0, 1) := by decide +kernel
theorem dX0_turnSigns_13 : decode cX0_turnSigns 13 = .ok (.getfield 9, 3) := by decide +kernel
theorem dX0_turnSigns_16 : decode cX0_turnSigns 16 = .ok (.if_icmp .ge 47, 3) := by decide +kernel
theorem dX0_turnSigns_19 : decode cX0_turnSigns 19 = .ok (.aload_n 0, 1) := by decide +kernel
theorem dX0_turnSigns_20 : decode cX0_turnSigns 20 = .ok (.getfield 9, 3) := by decide +kernel
theorem dX0_turnSigns_23 : decode cX0_turnSigns 23 = .ok (.istore_n 2, 1) := by decide +kernel
theorem dX0_turnSigns_24 : decode cX0_turnSigns 24 = .ok (.iload_n 2, 1) := by decide +kernel
theorem dX0_turnSigns_25 : decode cX0_turnSigns 25 = .ok (.iconst 2, 1) := by decide +kernel
theorem dX0_turnSigns_26 : decode cX0_turnSigns 26 = .ok (.aload_n 0, 1) := by decide +kernel
theorem dX0_turnSigns_27 : decode cX0_turnSigns 27 = .ok (.getfield 9, 3) := by decide +kernel
theorem dX0_turnSigns_30 : decode cX0_turnSigns 30 = .ok (.imul, 1) := by decide +kernel
theorem dX0_turnSigns_31 : decode cX0_turnSigns 31 = .ok (.if_icmp .ge 26, 3) := by decide +kernel
theorem dX0_turnSigns_34 : decode cX0_turnSigns 34 = .ok (.aload_n 0, 1) := by decide +kernel
theorem dX0_turnSigns_35 : decode cX0_turnSigns 35 = .ok (.getfield 25, 3) := by decide +kernel
theorem dX0_turnSigns_38 : decode cX0_turnSigns 38 = .ok (.iload_n 1, 1) := by decide +kernel
theorem dX0_turnSigns_39 : decode cX0_turnSigns 39 = .ok (.aaload, 1) := by decide +kernel
theorem dX0_turnSigns_40 : decode cX0_turnSigns 40 = .ok (.iload_n 2, 1) := by decide +kernel
theorem dX0_turnSigns_41 : decode cX0_turnSigns 41 = .ok (.aload_n 0, 1) := by decide +kernel
theorem dX0_turnSigns_42 : decode cX0_turnSigns 42 = .ok (.getfield 25, 3) := by decide +kernel
theorem dX0_turnSigns_45 : decode cX0_turnSigns 45 = .ok (.iload_n 1, 1) := by decide +kernel
theorem dX0_turnSigns_46 : decode cX0_turnSigns 46 = .ok (.aaload, 1) := by decide +kernel
theorem dX0_turnSigns_47 : decode cX0_turnSigns 47 = .ok (.iload_n 2, 1) := by decide +kernel
theorem dX0_turnSigns_48 : decode cX0_turnSigns 48 = .ok (.laload, 1) := by decide +kernel
theorem dX0_turnSigns_49 : decode cX0_turnSigns 49 = .ok (.lneg, 1) := by decide +kernel
theorem dX0_turnSigns_50 : decode cX0_turnSigns 50 = .ok (.lastore, 1) := by decide +kernel
theorem dX0_turnSigns_51 : decode cX0_turnSigns 51 = .ok (.iinc 2 1, 3) := by decide +kernel
theorem dX0_turnSigns_54 : decode cX0_turnSigns 54 = .ok (.goto (-30), 3) := by decide +kernel
theorem dX0_turnSigns_57 : decode cX0_turnSigns 57 = .ok (.iinc 1 1, 3) := by decide +kernel
theorem dX0_turnSigns_60 : decode cX0_turnSigns 60 = .ok (.goto (-49), 3) := by decide +kernel
theorem dX0_turnSigns_63 : decode cX0_turnSigns 63 = .ok (.return_, 1) := by decide +kernel
theorem dX1_init_0 : decode cX1_init 0 = .ok (.aload_n 0, 1) := by decide +kernel
theorem dX1_init_1 : decode cX1_init 1 = .ok (.invokespecial 3, 3) := by decide +kernel
theorem dX1_init_4 : decode cX1_init 4 = .ok (.aload_n 0, 1) := by decide +kernel
theorem dX1_init_5 : decode cX1_init 5 = .ok (.new 9, 3) := by decide +kernel
theorem dX1_init_8 : decode cX1_init 8 = .ok (.dup, 1) := by decide +kernel
theorem dX1_init_9 : decode cX1_init 9 = .ok (.invokespecial 11, 3) := by decide +kernel
theorem dX1_init_12 : decode cX1_init 12 = .ok (.putfield 12, 3) := by decide +kernel
theorem dX1_init_15 : decode cX1_init 15 = .ok (.aload_n 0, 1) := by decide +kernel
theorem dX1_init_16 : decode cX1_init 16 = .ok (.new 18, 3) := by decide +kernel
theorem dX1_init_19 : decode cX1_init 19 = .ok (.dup, 1) := by decide +kernel
theorem dX1_init_20 : decode cX1_init 20 = .ok (.invokespecial 20, 3) := by decide +kernel
theorem dX1_init_23 : decode cX1_init 23 = .ok (.putfield 21, 3) := by decide +kernel
theorem dX1_init_26 : decode cX1_init 26 = .ok (.aload_n 0, 1) := by decide +kernel
theorem dX1_init_27 : decode cX1_init 27 = .ok (.iconst 5, 1) := by decide +kernel
theorem dX1_init_28 : decode cX1_init 28 = .ok (.newarray .long, 2) := by decide +kernel
theorem dX1_init_30 : decode cX1_init 30 = .ok (.putfield 25, 3) := by decide +kernel
theorem dX1_init_33 : decode cX1_init 33 = .ok (.aload_n 0, 1) := by decide +kernel
theorem dX1_init_34 : decode cX1_init 34 = .ok (.iconst 5, 1) := by decide +kernel
theorem dX1_init_35 : decode cX1_init 35 = .ok (.newarray .long, 2) := by decide +kernel
theorem dX1_init_37 : decode cX1_init 37 = .ok (.putfield 29, 3) := by decide +kernel
theorem dX1_init_40 : decode cX1_init 40 = .ok (.aload_n 0, 1) := by decide +kernel
theorem dX1_init_41 : decode cX1_init 41 = .ok (.new 9, 3) := by decide +kernel
theorem dX1_init_44 : decode cX1_init 44 = .ok (.dup, 1) := by decide +kernel
theorem dX1_init_45 : decode cX1_init 45 = .ok (.invokespecial 11, 3) := by decide +kernel
theorem dX1_init_48 : decode cX1_init 48 = .ok (.putfield 32, 3) := by decide +kernel
theorem dX1_init_51 : decode cX1_init 51 = .ok (.aload_n 0, 1) := by decide +kernel
theorem dX1_init_52 : decode cX1_init 52 = .ok (.new 18, 3) := by decide +kernel
theorem dX1_init_55 : decode cX1_init 55 = .ok (.dup, 1) := by decide +kernel
theorem dX1_init_56 : decode cX1_init 56 = .ok (.invokespecial 20, 3) := by decide +kernel
theorem dX1_init_59 : decode cX1_init 59 = .ok (.putfield 35, 3) := by decide +kernel
theorem dX1_init_62 : decode cX1_init 62 = .ok (.aload_n 0, 1) := by decide +kernel
theorem dX1_init_63 : decode cX1_init 63 = .ok (.new 38, 3) := by decide +kernel
theorem dX1_init_66 : decode cX1_init 66 = .ok (.dup, 1) := by decide +kernel
theorem dX1_init_67 : decode cX1_init 67 = .ok (.invokespecial 40, 3) := by decide +kernel
theorem dX1_init_70 : decode cX1_init 70 = .ok (.putfield 41, 3) := by decide +kernel
theorem dX1_init_73 : decode cX1_init 73 = .ok (.aload_n 0, 1) := by decide +kernel
theorem dX1_init_74 : decode cX1_init 74 = .ok (.new 45, 3) := by decide +kernel
theorem dX1_init_77 : decode cX1_init 77 = .ok (.dup, 1) := by decide +kernel
theorem dX1_init_78 : decode cX1_init 78 = .ok (.invokespecial 47, 3) := by decide +kernel
theorem dX1_init_81 : decode cX1_init 81 = .ok (.putfield 48, 3) := by decide +kernel
theorem dX1_init_84 : decode cX1_init 84 = .ok (.return_, 1) := by decide +kernel
theorem dX1_findFor_0 : decode cX1_findFor 0 = .ok (.aload_n 0, 1) := by decide +kernel
theorem dX1_findFor_1 : decode cX1_findFor 1 = .ok (.getfield 41, 3) := by decide +kernel
theorem dX1_findFor_4 : decode cX1_findFor 4 = .ok (.aload_n 1, 1) := by decide +kernel
theorem dX1_findFor_5 : decode cX1_findFor 5 = .ok (.invokevirtual 52, 3) := by decide +kernel
theorem dX1_findFor_8 : decode cX1_findFor 8 = .ok (.aload_n 0, 1) := by decide +kernel
theorem dX1_findFor_9 : decode cX1_findFor 9 = .ok (.getfield 12, 3) := by decide +kernel
theorem dX1_findFor_12 : decode cX1_findFor 12 = .ok (.lconst 0, 1) := by decide +kernel
theorem dX1_findFor_13 : decode cX1_findFor 13 = .ok (.putfield 56, 3) := by decide +kernel
theorem dX1_findFor_16 : decode cX1_findFor 16 = .ok (.aload_n 0, 1) := by decide +kernel
theorem dX1_findFor_17 : decode cX1_findFor 17 = .ok (.getfield 21, 3) := by decide +kernel
theorem dX1_findFor_20 : decode cX1_findFor 20 = .ok (.lconst 0, 1) := by decide +kernel
theorem dX1_findFor_21 : decode cX1_findFor 21 = .ok (.putfield 60, 3) := by decide +kernel
theorem dX1_findFor_24 : decode cX1_findFor 24 = .ok (.iconst 0, 1) := by decide +kernel
theorem dX1_findFor_25 : decode cX1_findFor 25 = .ok (.istore_n 2, 1) := by decide +kernel
theorem dX1_findFor_26 : decode cX1_findFor 26 = .ok (.iload_n 2, 1) := by decide +kernel
theorem dX1_findFor_27 : decode cX1_findFor 27 = .ok (.aload_n 0, 1) := by decide +kernel
theorem dX1_findFor_28 : decode cX1_findFor 28 = .ok (.getfield 41, 3) := by decide +kernel
theorem dX1_findFor_31 : decode cX1_findFor 31 = .ok (.getfield 61, 3) := by decide +kernel
theorem dX1_findFor_34 : decode cX1_findFor 34 = .ok (.if_icmp .ge 16, 3) := by decide +kernel
theorem dX1_findFor_37 : decode cX1_findFor 37 = .ok (.aload_n 0, 1) := by decide +kernel
theorem dX1_findFor_38 : decode cX1_findFor 38 = .ok (.getfield 29, 3) := by decide +kernel
theorem dX1_findFor_41 : decode cX1_findFor 41 = .ok (.iload_n 2, 1) := by decide +kernel
theorem dX1_findFor_42 : decode cX1_findFor 42 = .ok (.lconst 0, 1) := by decide +kernel
theorem dX1_findFor_43 : decode cX1_findFor 43 = .ok (.lastore, 1) := by decide +kernel
theorem dX1_findFor_44 : decode cX1_findFor 44 = .ok (.iinc 2 1, 3) := by decide +kernel
theorem dX1_findFor_47 : decode cX1_findFor 47 = .ok (.goto (-21), 3) := by decide +kernel
theorem dX1_findFor_50 : decode cX1_findFor 50 = .ok (.iconst 0, 1) := by decide +kernel
theorem dX1_findFor_51 : decode cX1_findFor 51 = .ok (.istore_n 2, 1) := by decide +kernel
theorem dX1_findFor_52 : decode cX1_findFor 52 = .ok (.iload_n 2, 1) := by decide +kernel
theorem dX1_findFor_53 : decode cX1_findFor 53 = .ok (.iconst 1, 1) := by decide +kernel
theorem dX1_findFor_54 : decode cX1_findFor 54 = .ok (.aload_n 0, 1) := by decide +kernel
theorem dX1_findFor_55 : decode cX1_findFor 55 = .ok (.getfield 41, 3) := by decide +kernel
theorem dX1_findFor_58 : decode cX1_findFor 58 = .ok (.getfield 65, 3) := by decide +kernel
theorem dX1_findFor_61 : decode cX1_findFor 61 = .ok (.ishl, 1) := by decide +kernel
theorem dX1_findFor_62 : decode cX1_findFor 62 = .ok (.if_icmp .ge 46, 3) := by decide +kernel
theorem dX1_findFor_65 : decode cX1_findFor 65 = .ok (.iload_n 2, 1) := by decide +kernel
theorem dX1_findFor_66 : decode cX1_findFor 66 = .ok (.invokestatic 68, 3) := by decide +kernel
theorem dX1_findFor_69 : decode cX1_findFor 69 = .ok (.aload_n 0, 1) := by decide +kernel
theorem dX1_findFor_70 : decode cX1_findFor 70 = .ok (.getfield 41, 3) := by decide +kernel
theorem dX1_findFor_73 : decode cX1_findFor 73 = .ok (.getfield 74, 3) := by decide +kernel
theorem dX1_findFor_76 : decode cX1_findFor 76 = .ok (.if_icmp .ne 26, 3) := by decide +kernel
theorem dX1_findFor_79 : decode cX1_findFor 79 = .ok (.aload_n 0, 1) := by decide +kernel
theorem dX1_findFor_80 : decode cX1_findFor 80 = .ok (.getfield 48, 3) := by decide +kernel
theorem dX1_findFor_83 : decode cX1_findFor 83 = .ok (.aload_n 0, 1) := by decide +kernel
theorem dX1_findFor_84 : decode cX1_findFor 84 = .ok (.getfield 41, 3) := by decide +kernel
theorem dX1_findFor_87 : decode cX1_findFor 87 = .ok (.iload_n 2, 1) := by decide +kernel
theorem dX1_findFor_88 : decode cX1_findFor 88 = .ok (.invokevirtual 77, 3) := by decide +kernel
theorem dX1_findFor_91 : decode cX1_findFor 91 = .ok (.ifCond .eq 11, 3) := by decide +kernel
theorem dX1_findFor_94 : decode cX1_findFor 94 = .ok (.aload_n 0, 1) := by decide +kernel
theorem dX1_findFor_95 : decode cX1_findFor 95 = .ok (.invokevirtual 81, 3) := by decide +kernel
theorem dX1_findFor_98 : decode cX1_findFor 98 = .ok (.aload_n 0, 1) := by decide +kernel
theorem dX1_findFor_99 : decode cX1_findFor 99 = .ok (.invokevirtual 84, 3) := by decide +kernel
theorem dX1_findFor_102 : decode cX1_findFor 102 = .ok (.iinc 2 1, 3) := by decide +kernel
theorem dX1_findFor_105 : decode cX1_findFor 105 = .ok (.goto (-53), 3) := by decide +kernel
theorem dX1_findFor_108 : decode cX1_findFor 108 = .ok (.return_, 1) := by decide +kernel
theorem dX1_excessOf_0 : decode cX1_excessOf 0 = .ok (.aload_n 0, 1) := by decide +kernel
theorem dX1_excessOf_1 : decode cX1_excessOf 1 = .ok (.getfield 21, 3) := by decide +kernel
theorem dX1_excessOf_4 : decode cX1_excessOf 4 = .ok (.aload_n 0, 1) := by decide +kernel
theorem dX1_excessOf_5 : decode cX1_excessOf 5 = .ok (.getfield 41, 3) := by decide +kernel
theorem dX1_excessOf_8 : decode cX1_excessOf 8 = .ok (.iload_n 1, 1) := by decide +kernel
theorem dX1_excessOf_9 : decode cX1_excessOf 9 = .ok (.invokevirtual 87, 3) := by decide +kernel
theorem dX1_excessOf_12 : decode cX1_excessOf 12 = .ok (.lreturn, 1) := by decide +kernel
theorem dX1_tryCover_0 : decode cX1_tryCover 0 = .ok (.aload_n 0, 1) := by decide +kernel
theorem dX1_tryCover_1 : decode cX1_tryCover 1 = .ok (.getfield 32, 3) := by decide +kernel
theorem dX1_tryCover_4 : decode cX1_tryCover 4 = .ok (.aload_n 0, 1) := by decide +kernel
theorem dX1_tryCover_5 : decode cX1_tryCover 5 = .ok (.getfield 41, 3) := by decide +kernel
theorem dX1_tryCover_8 : decode cX1_tryCover 8 = .ok (.aload_n 0, 1) := by decide +kernel
theorem dX1_tryCover_9 : decode cX1_tryCover 9 = .ok (.getfield 48, 3) := by decide +kernel
theorem dX1_tryCover_12 : decode cX1_tryCover 12 = .ok (.invokevirtual 91, 3) := by decide +kernel
theorem dX1_tryCover_15 : decode cX1_tryCover 15 = .ok (.ifCond .ne 4, 3) := by decide +kernel
theorem dX1_tryCover_18 : decode cX1_tryCover 18 = .ok (.return_, 1) := by decide +kernel
theorem dX1_tryCover_19 : decode cX1_tryCover 19 = .ok (.aload_n 0, 1) := by decide +kernel
theorem dX1_tryCover_20 : decode cX1_tryCover 20 = .ok (.invokevirtual 95, 3) := by decide +kernel
theorem dX1_tryCover_23 : decode cX1_tryCover 23 = .ok (.aload_n 0, 1) := by decide +kernel
theorem dX1_tryCover_24 : decode cX1_tryCover 24 = .ok (.getfield 32, 3) := by decide +kernel
theorem dX1_tryCover_27 : decode cX1_tryCover 27 = .ok (.aload_n 0, 1) := by decide +kernel
theorem dX1_tryCover_28 : decode cX1_tryCover 28 = .ok (.getfield 12, 3) := by decide +kernel
theorem dX1_tryCover_31 : decode cX1_tryCover 31 = .ok (.aload_n 0, 1) := by decide +kernel
theorem dX1_tryCover_32 : decode cX1_tryCover 32 = .ok (.getfield 41, 3) := by decide +kernel
theorem dX1_tryCover_35 : decode cX1_tryCover 35 = .ok (.getfield 61, 3) := by decide +kernel
theorem dX1_tryCover_38 : decode cX1_tryCover 38 = .ok (.invokevirtual 98, 3) := by decide +kernel
theorem dX1_tryCover_41 : decode cX1_tryCover 41 = .ok (.ifCond .eq 21, 3) := by decide +kernel
theorem dX1_tryCover_44 : decode cX1_tryCover 44 = .ok (.aload_n 0, 1) := by decide +kernel
theorem dX1_tryCover_45 : decode cX1_tryCover 45 = .ok (.getfield 12, 3) := by decide +kernel
theorem dX1_tryCover_48 : decode cX1_tryCover 48 = .ok (.astore_n 1, 1) := by decide +kernel
theorem dX1_tryCover_49 : decode cX1_tryCover 49 = .ok (.aload_n 0, 1) := by decide +kernel
theorem dX1_tryCover_50 : decode cX1_tryCover 50 = .ok (.aload_n 0, 1) := by decide +kernel
theorem dX1_tryCover_51 : decode cX1_tryCover 51 = .ok (.getfield 32, 3) := by decide +kernel
theorem dX1_tryCover_54 : decode cX1_tryCover 54 = .ok (.putfield 12, 3) := by decide +kernel
theorem dX1_tryCover_57 : decode cX1_tryCover 57 = .ok (.aload_n 0, 1) := by decide +kernel
theorem dX1_tryCover_58 : decode cX1_tryCover 58 = .ok (.aload_n 1, 1) := by decide +kernel
theorem dX1_tryCover_59 : decode cX1_tryCover 59 = .ok (.putfield 32, 3) := by decide +kernel
theorem dX1_tryCover_62 : decode cX1_tryCover 62 = .ok (.return_, 1) := by decide +kernel
theorem dX1_tryWithout_0 : decode cX1_tryWithout 0 = .ok (.iconst 0, 1) := by decide +kernel
theorem dX1_tryWithout_1 : decode cX1_tryWithout 1 = .ok (.istore_n 1, 1) := by decide +kernel
theorem dX1_tryWithout_2 : decode cX1_tryWithout 2 = .ok (.iload_n 1, 1) := by decide +kernel
theorem dX1_tryWithout_3 : decode cX1_tryWithout 3 = .ok (.aload_n 0, 1) := by decide +kernel
theorem dX1_tryWithout_4 : decode cX1_tryWithout 4 = .ok (.getfield 41, 3) := by decide +kernel
theorem dX1_tryWithout_7 : decode cX1_tryWithout 7 = .ok (.getfield 61, 3) := by decide +kernel
theorem dX1_tryWithout_10 : decode cX1_tryWithout 10 = .ok (.if_icmp .ge 92, 3) := by decide +kernel
theorem dX1_tryWithout_13 : decode cX1_tryWithout 13 = .ok (.aload_n 0, 1) := by decide +kernel
theorem dX1_tryWithout_14 : decode cX1_tryWithout 14 = .ok (.getfield 32, 3) := by decide +kernel
theorem dX1_tryWithout_17 : decode cX1_tryWithout 17 = .ok (.getfield 102, 3) := by decide +kernel
theorem dX1_tryWithout_20 : decode cX1_tryWithout 20 = .ok (.iload_n 1, 1) := by decide +kernel
theorem dX1_tryWithout_21 : decode cX1_tryWithout 21 = .ok (.laload, 1) := by decide +kernel
theorem dX1_tryWithout_22 : decode cX1_tryWithout 22 = .ok (.lconst 0, 1) := by decide +kernel
theorem dX1_tryWithout_23 : decode cX1_tryWithout 23 = .ok (.lcmp, 1) := by decide +kernel
theorem dX1_tryWithout_24 : decode cX1_tryWithout 24 = .ok (.ifCond .ne 72, 3) := by decide +kernel
theorem dX1_tryWithout_27 : decode cX1_tryWithout 27 = .ok (.aload_n 0, 1) := by decide +kernel
theorem dX1_tryWithout_28 : decode cX1_tryWithout 28 = .ok (.getfield 29, 3) := by decide +kernel
theorem dX1_tryWithout_31 : decode cX1_tryWithout 31 = .ok (.iload_n 1, 1) := by decide +kernel
theorem dX1_tryWithout_32 : decode cX1_tryWithout 32 = .ok (.laload, 1) := by decide +kernel
theorem dX1_tryWithout_33 : decode cX1_tryWithout 33 = .ok (.lconst 0, 1) := by decide +kernel
theorem dX1_tryWithout_34 : decode cX1_tryWithout 34 = .ok (.lcmp, 1) := by decide +kernel
theorem dX1_tryWithout_35 : decode cX1_tryWithout 35 = .ok (.ifCond .eq 35, 3) := by decide +kernel
theorem dX1_tryWithout_38 : decode cX1_tryWithout 38 = .ok (.aload_n 0, 1) := by decide +kernel
theorem dX1_tryWithout_39 : decode cX1_tryWithout 39 = .ok (.getfield 32, 3) := by decide +kernel
theorem dX1_tryWithout_42 : decode cX1_tryWithout 42 = .ok (.getfield 105, 3) := by decide +kernel
theorem dX1_tryWithout_45 : decode cX1_tryWithout 45 = .ok (.aload_n 0, 1) := by decide +kernel
theorem dX1_tryWithout_46 : decode cX1_tryWithout 46 = .ok (.getfield 29, 3) := by decide +kernel
theorem dX1_tryWithout_49 : decode cX1_tryWithout 49 = .ok (.iload_n 1, 1) := by decide +kernel
theorem dX1_tryWithout_50 : decode cX1_tryWithout 50 = .ok (.laload, 1) := by decide +kernel
theorem dX1_tryWithout_51 : decode cX1_tryWithout 51 = .ok (.lmul, 1) := by decide +kernel
theorem dX1_tryWithout_52 : decode cX1_tryWithout 52 = .ok (.aload_n 0, 1) := by decide +kernel
theorem dX1_tryWithout_53 : decode cX1_tryWithout 53 = .ok (.getfield 25, 3) := by decide +kernel
theorem dX1_tryWithout_56 : decode cX1_tryWithout 56 = .ok (.iload_n 1, 1) := by decide +kernel
theorem dX1_tryWithout_57 : decode cX1_tryWithout 57 = .ok (.laload, 1) := by decide +kernel
theorem dX1_tryWithout_58 : decode cX1_tryWithout 58 = .ok (.aload_n 0, 1) := by decide +kernel
theorem dX1_tryWithout_59 : decode cX1_tryWithout 59 = .ok (.getfield 32, 3) := by decide +kernel
theorem dX1_tryWithout_62 : decode cX1_tryWithout 62 = .ok (.getfield 56, 3) := by decide +kernel
theorem dX1_tryWithout_65 : decode cX1_tryWithout 65 = .ok (.lmul, 1) := by decide +kernel
theorem dX1_tryWithout_66 : decode cX1_tryWithout 66 = .ok (.lcmp, 1) := by decide +kernel
theorem dX1_tryWithout_67 : decode cX1_tryWithout 67 = .ok (.ifCond .ge 29, 3) := by decide +kernel
theorem dX1_tryWithout_70 : decode cX1_tryWithout 70 = .ok (.aload_n 0, 1) := by decide +kernel
theorem dX1_tryWithout_71 : decode cX1_tryWithout 71 = .ok (.getfield 25, 3) := by decide +kernel
theorem dX1_tryWithout_74 : decode cX1_tryWithout 74 = .ok (.iload_n 1, 1) := by decide +kernel
theorem dX1_tryWithout_75 : decode cX1_tryWithout 75 = .ok (.aload_n 0, 1) := by decide +kernel
theorem dX1_tryWithout_76 : decode cX1_tryWithout 76 = .ok (.getfield 32, 3) := by decide +kernel
theorem dX1_tryWithout_79 : decode cX1_tryWithout 79 = .ok (.getfield 105, 3) := by decide +kernel
theorem dX1_tryWithout_82 : decode cX1_tryWithout 82 = .ok (.lastore, 1) := by decide +kernel
theorem dX1_tryWithout_83 : decode cX1_tryWithout 83 = .ok (.aload_n 0, 1) := by decide +kernel
theorem dX1_tryWithout_84 : decode cX1_tryWithout 84 = .ok (.getfield 29, 3) := by decide +kernel
theorem dX1_tryWithout_87 : decode cX1_tryWithout 87 = .ok (.iload_n 1, 1) := by decide +kernel
theorem dX1_tryWithout_88 : decode cX1_tryWithout 88 = .ok (.aload_n 0, 1) := by decide +kernel
theorem dX1_tryWithout_89 : decode cX1_tryWithout 89 = .ok (.getfield 32, 3) := by decide +kernel
theorem dX1_tryWithout_92 : decode cX1_tryWithout 92 = .ok (.getfield 56, 3) := by decide +kernel
theorem dX1_tryWithout_95 : decode cX1_tryWithout 95 = .ok (.lastore, 1) := by decide +kernel
theorem dX1_tryWithout_96 : decode cX1_tryWithout 96 = .ok (.iinc 1 1, 3) := by decide +kernel
theorem dX1_tryWithout_99 : decode cX1_tryWithout 99 = .ok (.goto (-97), 3) := by decide +kernel
theorem dX1_tryWithout_102 : decode cX1_tryWithout 102 = .ok (.return_, 1) := by decide +kernel
theorem dX1_tryProof_0 : decode cX1_tryProof 0 = .ok (.aload_n 0, 1) := by decide +kernel
theorem dX1_tryProof_1 : decode cX1_tryProof 1 = .ok (.getfield 35, 3) := by decide +kernel
theorem dX1_tryProof_4 : decode cX1_tryProof 4 = .ok (.aload_n 0, 1) := by decide +kernel
theorem dX1_tryProof_5 : decode cX1_tryProof 5 = .ok (.getfield 41, 3) := by decide +kernel
theorem dX1_tryProof_8 : decode cX1_tryProof 8 = .ok (.aload_n 0, 1) := by decide +kernel
theorem dX1_tryProof_9 : decode cX1_tryProof 9 = .ok (.getfield 48, 3) := by decide +kernel
theorem dX1_tryProof_12 : decode cX1_tryProof 12 = .ok (.invokevirtual 108, 3) := by decide +kernel
theorem dX1_tryProof_15 : decode cX1_tryProof 15 = .ok (.ifCond .eq 42, 3) := by decide +kernel
theorem dX1_tryProof_18 : decode cX1_tryProof 18 = .ok (.aload_n 0, 1) := by decide +kernel
theorem dX1_tryProof_19 : decode cX1_tryProof 19 = .ok (.getfield 35, 3) := by decide +kernel
theorem dX1_tryProof_22 : decode cX1_tryProof 22 = .ok (.aload_n 0, 1) := by decide +kernel
theorem dX1_tryProof_23 : decode cX1_tryProof 23 = .ok (.getfield 21, 3) := by decide +kernel
theorem dX1_tryProof_26 : decode cX1_tryProof 26 = .ok (.aload_n 0, 1) := by decide +kernel
theorem dX1_tryProof_27 : decode cX1_tryProof 27 = .ok (.getfield 41, 3) := by decide +kernel
theorem dX1_tryProof_30 : decode cX1_tryProof 30 = .ok (.getfield 74, 3) := by decide +kernel
theorem dX1_tryProof_33 : decode cX1_tryProof 33 = .ok (.invokevirtual 109, 3) := by decide +kernel
theorem dX1_tryProof_36 : decode cX1_tryProof 36 = .ok (.ifCond .eq 21, 3) := by decide +kernel
theorem dX1_tryProof_39 : decode cX1_tryProof 39 = .ok (.aload_n 0, 1) := by decide +kernel
theorem dX1_tryProof_40 : decode cX1_tryProof 40 = .ok (.getfield 21, 3) := by decide +kernel
theorem dX1_tryProof_43 : decode cX1_tryProof 43 = .ok (.astore_n 1, 1) := by decide +kernel
theorem dX1_tryProof_44 : decode cX1_tryProof 44 = .ok (.aload_n 0, 1) := by decide +kernel
theorem dX1_tryProof_45 : decode cX1_tryProof 45 = .ok (.aload_n 0, 1) := by decide +kernel
theorem dX1_tryProof_46 : decode cX1_tryProof 46 = .ok (.getfield 35, 3) := by decide +kernel
theorem dX1_tryProof_49 : decode cX1_tryProof 49 = .ok (.putfield 21, 3) := by decide +kernel
theorem dX1_tryProof_52 : decode cX1_tryProof 52 = .ok (.aload_n 0, 1) := by decide +kernel
theorem dX1_tryProof_53 : decode cX1_tryProof 53 = .ok (.aload_n 1, 1) := by decide +kernel
theorem dX1_tryProof_54 : decode cX1_tryProof 54 = .ok (.putfield 35, 3) := by decide +kernel
theorem dX1_tryProof_57 : decode cX1_tryProof 57 = .ok (.return_, 1) := by decide +kernel
theorem dX2_init_0 : decode cX2_init 0 = .ok (.aload_n 0, 1) := by decide +kernel
theorem dX2_init_1 : decode cX2_init 1 = .ok (.invokespecial 3, 3) := by decide +kernel
theorem dX2_init_4 : decode cX2_init 4 = .ok (.aload_n 0, 1) := by decide +kernel
theorem dX2_init_5 : decode cX2_init 5 = .ok (.lconst 0, 1) := by decide +kernel
theorem dX2_init_6 : decode cX2_init 6 = .ok (.putfield 9, 3) := by decide +kernel
theorem dX2_init_9 : decode cX2_init 9 = .ok (.aload_n 0, 1) := by decide +kernel
theorem dX2_init_10 : decode cX2_init 10 = .ok (.lconst 0, 1) := by decide +kernel
theorem dX2_init_11 : decode cX2_init 11 = .ok (.putfield 15, 3) := by decide +kernel
theorem dX2_init_14 : decode cX2_init 14 = .ok (.aload_n 0, 1) := by decide +kernel
theorem dX2_init_15 : decode cX2_init 15 = .ok (.bipush 10, 2) := by decide +kernel
theorem dX2_init_17 : decode cX2_init 17 = .ok (.newarray .long, 2) := by decide +kernel
theorem dX2_init_19 : decode cX2_init 19 = .ok (.putfield 18, 3) := by decide +kernel
theorem dX2_init_22 : decode cX2_init 22 = .ok (.return_, 1) := by decide +kernel
theorem dX2_readOff_0 : decode cX2_readOff 0 = .ok (.aload_n 0, 1) := by decide +kernel
theorem dX2_readOff_1 : decode cX2_readOff 1 = .ok (.aload_n 2, 1) := by decide +kernel
theorem dX2_readOff_2 : decode cX2_readOff 2 = .ok (.getfield 22, 3) := by decide +kernel
theorem dX2_readOff_5 : decode cX2_readOff 5 = .ok (.putfield 9, 3) := by decide +kernel
theorem dX2_readOff_8 : decode cX2_readOff 8 = .ok (.aload_n 0, 1) := by decide +kernel
theorem dX2_readOff_9 : decode cX2_readOff 9 = .ok (.lconst 0, 1) := by decide +kernel
theorem dX2_readOff_10 : decode cX2_readOff 10 = .ok (.putfield 15, 3) := by decide +kernel
theorem dX2_readOff_13 : decode cX2_readOff 13 = .ok (.iconst 0, 1) := by decide +kernel
theorem dX2_readOff_14 : decode cX2_readOff 14 = .ok (.istore_n 3, 1) := by decide +kernel
theorem dX2_readOff_15 : decode cX2_readOff 15 = .ok (.iload_n 3, 1) := by decide +kernel
theorem dX2_readOff_16 : decode cX2_readOff 16 = .ok (.aload_n 1, 1) := by decide +kernel
theorem dX2_readOff_17 : decode cX2_readOff 17 = .ok (.getfield 27, 3) := by decide +kernel
theorem dX2_readOff_20 : decode cX2_readOff 20 = .ok (.if_icmp .ge 16, 3) := by decide +kernel
theorem dX2_readOff_23 : decode cX2_readOff 23 = .ok (.aload_n 0, 1) := by decide +kernel
theorem dX2_readOff_24 : decode cX2_readOff 24 = .ok (.getfield 18, 3) := by decide +kernel
theorem dX2_readOff_27 : decode cX2_readOff 27 = .ok (.iload_n 3, 1) := by decide +kernel
theorem dX2_readOff_28 : decode cX2_readOff 28 = .ok (.lconst 0, 1) := by decide +kernel
theorem dX2_readOff_29 : decode cX2_readOff 29 = .ok (.lastore, 1) := by decide +kernel
theorem dX2_readOff_30 : decode cX2_readOff 30 = .ok (.iinc 3 1, 3) := by decide +kernel
theorem dX2_readOff_33 : decode cX2_readOff 33 = .ok (.goto (-18), 3) := by decide +kernel
theorem dX2_readOff_36 : decode cX2_readOff 36 = .ok (.iconst 0, 1) := by decide +kernel
theorem dX2_readOff_37 : decode cX2_readOff 37 = .ok (.istore_n 3, 1) := by decide +kernel
theorem dX2_readOff_38 : decode cX2_readOff 38 = .ok (.iload_n 3, 1) := by decide +kernel
theorem dX2_readOff_39 : decode cX2_readOff 39 = .ok (.aload_n 2, 1) := by decide +kernel
theorem dX2_readOff_40 : decode cX2_readOff 40 = .ok (.getfield 33, 3) := by decide +kernel
theorem dX2_readOff_43 : decode cX2_readOff 43 = .ok (.if_icmp .ge 95, 3) := by decide +kernel
theorem dX2_readOff_46 : decode cX2_readOff 46 = .ok (.lconst 0, 1) := by decide +kernel
theorem dX2_readOff_47 : decode cX2_readOff 47 = .ok (.lstore 4, 2) := by decide +kernel
theorem dX2_readOff_49 : decode cX2_readOff 49 = .ok (.iconst 1, 1) := by decide +kernel
theorem dX2_readOff_50 : decode cX2_readOff 50 = .ok (.istore 6, 2) := by decide +kernel
theorem dX2_readOff_52 : decode cX2_readOff 52 = .ok (.iload 6, 2) := by decide +kernel
theorem dX2_readOff_54 : decode cX2_readOff 54 = .ok (.aload_n 1, 1) := by decide +kernel
theorem dX2_readOff_55 : decode cX2_readOff 55 = .ok (.getfield 36, 3) := by decide +kernel
theorem dX2_readOff_58 : decode cX2_readOff 58 = .ok (.if_icmp .gt 29, 3) := by decide +kernel
theorem dX2_readOff_61 : decode cX2_readOff 61 = .ok (.lload 4, 2) := by decide +kernel
theorem dX2_readOff_63 : decode cX2_readOff 63 = .ok (.aload_n 2, 1) := by decide +kernel
theorem dX2_readOff_64 : decode cX2_readOff 64 = .ok (.iload_n 3, 1) := by decide +kernel
theorem dX2_readOff_65 : decode cX2_readOff 65 = .ok (.iload 6, 2) := by decide +kernel
theorem dX2_readOff_67 : decode cX2_readOff 67 = .ok (.invokevirtual 39, 3) := by decide +kernel
theorem dX2_readOff_70 : decode cX2_readOff 70 = .ok (.aload_n 1, 1) := by decide +kernel
theorem dX2_readOff_71 : decode cX2_readOff 71 = .ok (.getfield 43, 3) := by decide +kernel
theorem dX2_readOff_74 : decode cX2_readOff 74 = .ok (.iload 6, 2) := by decide +kernel
theorem dX2_readOff_76 : decode cX2_readOff 76 = .ok (.laload, 1) := by decide +kernel
theorem dX2_readOff_77 : decode cX2_readOff 77 = .ok (.lmul, 1) := by decide +kernel
theorem dX2_readOff_78 : decode cX2_readOff 78 = .ok (.ladd, 1) := by decide +kernel
theorem dX2_readOff_79 : decode cX2_readOff 79 = .ok (.lstore 4, 2) := by decide +kernel
theorem dX2_readOff_81 : decode cX2_readOff 81 = .ok (.iinc 6 1, 3) := by decide +kernel
theorem dX2_readOff_84 : decode cX2_readOff 84 = .ok (.goto (-32), 3) := by decide +kernel
theorem dX2_readOff_87 : decode cX2_readOff 87 = .ok (.lload 4, 2) := by decide +kernel
theorem dX2_readOff_89 : decode cX2_readOff 89 = .ok (.lconst 0, 1) := by decide +kernel
theorem dX2_readOff_90 : decode cX2_readOff 90 = .ok (.lcmp, 1) := by decide +kernel
theorem dX2_readOff_91 : decode cX2_readOff 91 = .ok (.ifCond .ge 5, 3) := by decide +kernel
theorem dX2_readOff_94 : decode cX2_readOff 94 = .ok (.iconst 0, 1) := by decide +kernel
theorem dX2_readOff_95 : decode cX2_readOff 95 = .ok (.ireturn, 1) := by decide +kernel
theorem dX2_readOff_96 : decode cX2_readOff 96 = .ok (.aload_n 0, 1) := by decide +kernel
theorem dX2_readOff_97 : decode cX2_readOff 97 = .ok (.getfield 18, 3) := by decide +kernel
theorem dX2_readOff_100 : decode cX2_readOff 100 = .ok (.aload_n 2, 1) := by decide +kernel
theorem dX2_readOff_101 : decode cX2_readOff 101 = .ok (.getfield 46, 3) := by decide +kernel
theorem dX2_readOff_104 : decode cX2_readOff 104 = .ok (.iload_n 3, 1) := by decide +kernel
theorem dX2_readOff_105 : decode cX2_readOff 105 = .ok (.iaload, 1) := by decide +kernel
theorem dX2_readOff_106 : decode cX2_readOff 106 = .ok (.lload 4, 2) := by decide +kernel
theorem dX2_readOff_108 : decode cX2_readOff 108 = .ok (.lastore, 1) := by decide +kernel
theorem dX2_readOff_109 : decode cX2_readOff 109 = .ok (.aload_n 0, 1) := by decide +kernel
theorem dX2_readOff_110 : decode cX2_readOff 110 = .ok (.dup, 1) := by decide +kernel
theorem dX2_readOff_111 : decode cX2_readOff 111 = .ok (.getfield 15, 3) := by decide +kernel
theorem dX2_readOff_114 : decode cX2_readOff 114 = .ok (.lload 4, 2) := by decide +kernel
theorem dX2_readOff_116 : decode cX2_readOff 116 = .ok (.aload_n 1, 1) := by decide +kernel
theorem dX2_readOff_117 : decode cX2_readOff 117 = .ok (.getfield 50, 3) := by decide +kernel
theorem dX2_readOff_120 : decode cX2_readOff 120 = .ok (.aload_n 2, 1) := by decide +kernel
theorem dX2_readOff_121 : decode cX2_readOff 121 = .ok (.getfield 46, 3) := by decide +kernel
theorem dX2_readOff_124 : decode cX2_readOff 124 = .ok (.iload_n 3, 1) := by decide +kernel
theorem dX2_readOff_125 : decode cX2_readOff 125 = .ok (.iaload, 1) := by decide +kernel
theorem dX2_readOff_126 : decode cX2_readOff 126 = .ok (.laload, 1) := by decide +kernel
theorem dX2_readOff_127 : decode cX2_readOff 127 = .ok (.lmul, 1) := by decide +kernel
theorem dX2_readOff_128 : decode cX2_readOff 128 = .ok (.ladd, 1) := by decide +kernel
theorem dX2_readOff_129 : decode cX2_readOff 129 = .ok (.putfield 15, 3) := by decide +kernel
theorem dX2_readOff_132 : decode cX2_readOff 132 = .ok (.iinc 3 1, 3) := by decide +kernel
theorem dX2_readOff_135 : decode cX2_readOff 135 = .ok (.goto (-97), 3) := by decide +kernel
theorem dX2_readOff_138 : decode cX2_readOff 138 = .ok (.iconst 1, 1) := by decide +kernel
theorem dX2_readOff_139 : decode cX2_readOff 139 = .ok (.ireturn, 1) := by decide +kernel
theorem dX2_isBetterThan_0 : decode cX2_isBetterThan 0 = .ok (.aload_n 1, 1) := by decide +kernel
theorem dX2_isBetterThan_1 : decode cX2_isBetterThan 1 = .ok (.getfield 9, 3) := by decide +kernel
theorem dX2_isBetterThan_4 : decode cX2_isBetterThan 4 = .ok (.lconst 0, 1) := by decide +kernel
theorem dX2_isBetterThan_5 : decode cX2_isBetterThan 5 = .ok (.lcmp, 1) := by decide +kernel
theorem dX2_isBetterThan_6 : decode cX2_isBetterThan 6 = .ok (.ifCond .ne 5, 3) := by decide +kernel
theorem dX2_isBetterThan_9 : decode cX2_isBetterThan 9 = .ok (.iconst 1, 1) := by decide +kernel
theorem dX2_isBetterThan_10 : decode cX2_isBetterThan 10 = .ok (.ireturn, 1) := by decide +kernel
theorem dX2_isBetterThan_11 : decode cX2_isBetterThan 11 = .ok (.aload_n 0, 1) := by decide +kernel
theorem dX2_isBetterThan_12 : decode cX2_isBetterThan 12 = .ok (.getfield 15, 3) := by decide +kernel
theorem dX2_isBetterThan_15 : decode cX2_isBetterThan 15 = .ok (.aload_n 1, 1) := by decide +kernel
theorem dX2_isBetterThan_16 : decode cX2_isBetterThan 16 = .ok (.getfield 9, 3) := by decide +kernel
theorem dX2_isBetterThan_19 : decode cX2_isBetterThan 19 = .ok (.lmul, 1) := by decide +kernel
theorem dX2_isBetterThan_20 : decode cX2_isBetterThan 20 = .ok (.aload_n 1, 1) := by decide +kernel
theorem dX2_isBetterThan_21 : decode cX2_isBetterThan 21 = .ok (.getfield 15, 3) := by decide +kernel
theorem dX2_isBetterThan_24 : decode cX2_isBetterThan 24 = .ok (.aload_n 0, 1) := by decide +kernel
theorem dX2_isBetterThan_25 : decode cX2_isBetterThan 25 = .ok (.getfield 9, 3) := by decide +kernel
theorem dX2_isBetterThan_28 : decode cX2_isBetterThan 28 = .ok (.lmul, 1) := by decide +kernel
theorem dX2_isBetterThan_29 : decode cX2_isBetterThan 29 = .ok (.invokestatic 53, 3) := by decide +kernel
theorem dX2_isBetterThan_32 : decode cX2_isBetterThan 32 = .ok (.istore_n 3, 1) := by decide +kernel
theorem dX2_isBetterThan_33 : decode cX2_isBetterThan 33 = .ok (.iconst 0, 1) := by decide +kernel
theorem dX2_isBetterThan_34 : decode cX2_isBetterThan 34 = .ok (.istore 4, 2) := by decide +kernel
theorem dX2_isBetterThan_36 : decode cX2_isBetterThan 36 = .ok (.iload 4, 2) := by decide +kernel
theorem dX2_isBetterThan_38 : decode cX2_isBetterThan 38 = .ok (.iload_n 2, 1) := by decide +kernel
theorem dX2_isBetterThan_39 : decode cX2_isBetterThan 39 = .ok (.if_icmp .ge 41, 3) := by decide +kernel
theorem dX2_isBetterThan_42 : decode cX2_isBetterThan 42 = .ok (.iload_n 3, 1) := by decide +kernel
theorem dX2_isBetterThan_43 : decode cX2_isBetterThan 43 = .ok (.ifCond .ne 37, 3) := by decide +kernel
theorem dX2_isBetterThan_46 : decode cX2_isBetterThan 46 = .ok (.aload_n 0, 1) := by decide +kernel
theorem dX2_isBetterThan_47 : decode cX2_isBetterThan 47 = .ok (.getfield 18, 3) := by decide +kernel
theorem dX2_isBetterThan_50 : decode cX2_isBetterThan 50 = .ok (.iload 4, 2) := by decide +kernel
theorem dX2_isBetterThan_52 : decode cX2_isBetterThan 52 = .ok (.laload, 1) := by decide +kernel
theorem dX2_isBetterThan_53 : decode cX2_isBetterThan 53 = .ok (.aload_n 1, 1) := by decide +kernel
theorem dX2_isBetterThan_54 : decode cX2_isBetterThan 54 = .ok (.getfield 9, 3) := by decide +kernel
theorem dX2_isBetterThan_57 : decode cX2_isBetterThan 57 = .ok (.lmul, 1) := by decide +kernel
theorem dX2_isBetterThan_58 : decode cX2_isBetterThan 58 = .ok (.aload_n 1, 1) := by decide +kernel
theorem dX2_isBetterThan_59 : decode cX2_isBetterThan 59 = .ok (.getfield 18, 3) := by decide +kernel
theorem dX2_isBetterThan_62 : decode cX2_isBetterThan 62 = .ok (.iload 4, 2) := by decide +kernel
theorem dX2_isBetterThan_64 : decode cX2_isBetterThan 64 = .ok (.laload, 1) := by decide +kernel
theorem dX2_isBetterThan_65 : decode cX2_isBetterThan 65 = .ok (.aload_n 0, 1) := by decide +kernel
theorem dX2_isBetterThan_66 : decode cX2_isBetterThan 66 = .ok (.getfield 9, 3) := by decide +kernel
theorem dX2_isBetterThan_69 : decode cX2_isBetterThan 69 = .ok (.lmul, 1) := by decide +kernel
theorem dX2_isBetterThan_70 : decode cX2_isBetterThan 70 = .ok (.invokestatic 53, 3) := by decide +kernel
theorem dX2_isBetterThan_73 : decode cX2_isBetterThan 73 = .ok (.istore_n 3, 1) := by decide +kernel
theorem dX2_isBetterThan_74 : decode cX2_isBetterThan 74 = .ok (.iinc 4 1, 3) := by decide +kernel
theorem dX2_isBetterThan_77 : decode cX2_isBetterThan 77 = .ok (.goto (-41), 3) := by decide +kernel
theorem dX2_isBetterThan_80 : decode cX2_isBetterThan 80 = .ok (.iload_n 3, 1) := by decide +kernel
theorem dX2_isBetterThan_81 : decode cX2_isBetterThan 81 = .ok (.ifCond .ge 7, 3) := by decide +kernel
theorem dX2_isBetterThan_84 : decode cX2_isBetterThan 84 = .ok (.iconst 1, 1) := by decide +kernel
theorem dX2_isBetterThan_85 : decode cX2_isBetterThan 85 = .ok (.goto 4, 3) := by decide +kernel
theorem dX2_isBetterThan_88 : decode cX2_isBetterThan 88 = .ok (.iconst 0, 1) := by decide +kernel
theorem dX2_isBetterThan_89 : decode cX2_isBetterThan 89 = .ok (.ireturn, 1) := by decide +kernel
theorem dX3_init_0 : decode cX3_init 0 = .ok (.aload_n 0, 1) := by decide +kernel
theorem dX3_init_1 : decode cX3_init 1 = .ok (.invokespecial 3, 3) := by decide +kernel
theorem dX3_init_4 : decode cX3_init 4 = .ok (.aload_n 0, 1) := by decide +kernel
theorem dX3_init_5 : decode cX3_init 5 = .ok (.iconst 0, 1) := by decide +kernel
theorem dX3_init_6 : decode cX3_init 6 = .ok (.putfield 9, 3) := by decide +kernel
theorem dX3_init_9 : decode cX3_init 9 = .ok (.aload_n 0, 1) := by decide +kernel
theorem dX3_init_10 : decode cX3_init 10 = .ok (.iconst 0, 1) := by decide +kernel
theorem dX3_init_11 : decode cX3_init 11 = .ok (.putfield 15, 3) := by decide +kernel
theorem dX3_init_14 : decode cX3_init 14 = .ok (.aload_n 0, 1) := by decide +kernel
theorem dX3_init_15 : decode cX3_init 15 = .ok (.iconst 0, 1) := by decide +kernel
theorem dX3_init_16 : decode cX3_init 16 = .ok (.putfield 18, 3) := by decide +kernel
theorem dX3_init_19 : decode cX3_init 19 = .ok (.aload_n 0, 1) := by decide +kernel
theorem dX3_init_20 : decode cX3_init 20 = .ok (.bipush 10, 2) := by decide +kernel
theorem dX3_init_22 : decode cX3_init 22 = .ok (.iconst 5, 1) := by decide +kernel
theorem dX3_init_23 : decode cX3_init 23 = .ok (.multianewarray 21 2, 4) := by decide +kernel
theorem dX3_init_27 : decode cX3_init 27 = .ok (.putfield 23, 3) := by decide +kernel
theorem dX3_init_30 : decode cX3_init 30 = .ok (.aload_n 0, 1) := by decide +kernel
theorem dX3_init_31 : decode cX3_init 31 = .ok (.bipush 10, 2) := by decide +kernel
theorem dX3_init_33 : decode cX3_init 33 = .ok (.newarray .long, 2) := by decide +kernel
theorem dX3_init_35 : decode cX3_init 35 = .ok (.putfield 26, 3) := by decide +kernel
theorem dX3_init_38 : decode cX3_init 38 = .ok (.aload_n 0, 1) := by decide +kernel
theorem dX3_init_39 : decode cX3_init 39 = .ok (.iconst 5, 1) := by decide +kernel
theorem dX3_init_40 : decode cX3_init 40 = .ok (.newarray .long, 2) := by decide +kernel
theorem dX3_init_42 : decode cX3_init 42 = .ok (.putfield 30, 3) := by decide +kernel
theorem dX3_init_45 : decode cX3_init 45 = .ok (.return_, 1) := by decide +kernel
theorem dX3_read_0 : decode cX3_read 0 = .ok (.aload_n 0, 1) := by decide +kernel
theorem dX3_read_1 : decode cX3_read 1 = .ok (.aload_n 1, 1) := by decide +kernel
theorem dX3_read_2 : decode cX3_read 2 = .ok (.getfield 33, 3) := by decide +kernel
theorem dX3_read_5 : decode cX3_read 5 = .ok (.putfield 9, 3) := by decide +kernel
theorem dX3_read_8 : decode cX3_read 8 = .ok (.aload_n 0, 1) := by decide +kernel
theorem dX3_read_9 : decode cX3_read 9 = .ok (.aload_n 1, 1) := by decide +kernel
theorem dX3_read_10 : decode cX3_read 10 = .ok (.getfield 36, 3) := by decide +kernel
theorem dX3_read_13 : decode cX3_read 13 = .ok (.putfield 15, 3) := by decide +kernel
theorem dX3_read_16 : decode cX3_read 16 = .ok (.aload_n 0, 1) := by decide +kernel
theorem dX3_read_17 : decode cX3_read 17 = .ok (.aload_n 0, 1) := by decide +kernel
theorem dX3_read_18 : decode cX3_read 18 = .ok (.getfield 15, 3) := by decide +kernel
theorem dX3_read_21 : decode cX3_read 21 = .ok (.aload_n 0, 1) := by decide +kernel
theorem dX3_read_22 : decode cX3_read 22 = .ok (.getfield 9, 3) := by decide +kernel
theorem dX3_read_25 : decode cX3_read 25 = .ok (.iadd, 1) := by decide +kernel
theorem dX3_read_26 : decode cX3_read 26 = .ok (.iconst 1, 1) := by decide +kernel
theorem dX3_read_27 : decode cX3_read 27 = .ok (.iadd, 1) := by decide +kernel
theorem dX3_read_28 : decode cX3_read 28 = .ok (.putfield 18, 3) := by decide +kernel
theorem dX3_read_31 : decode cX3_read 31 = .ok (.iconst 1, 1) := by decide +kernel
theorem dX3_read_32 : decode cX3_read 32 = .ok (.istore_n 2, 1) := by decide +kernel
theorem dX3_read_33 : decode cX3_read 33 = .ok (.iload_n 2, 1) := by decide +kernel
theorem dX3_read_34 : decode cX3_read 34 = .ok (.aload_n 0, 1) := by decide +kernel
theorem dX3_read_35 : decode cX3_read 35 = .ok (.getfield 9, 3) := by decide +kernel
theorem dX3_read_38 : decode cX3_read 38 = .ok (.if_icmp .gt 27, 3) := by decide +kernel
theorem dX3_read_41 : decode cX3_read 41 = .ok (.aload_n 0, 1) := by decide +kernel
theorem dX3_read_42 : decode cX3_read 42 = .ok (.getfield 30, 3) := by decide +kernel
theorem dX3_read_45 : decode cX3_read 45 = .ok (.iload_n 2, 1) := by decide +kernel
theorem dX3_read_46 : decode cX3_read 46 = .ok (.aload_n 1, 1) := by decide +kernel
theorem dX3_read_47 : decode cX3_read 47 = .ok (.iload_n 2, 1) := by decide +kernel
theorem dX3_read_48 : decode cX3_read 48 = .ok (.invokevirtual 37, 3) := by decide +kernel
theorem dX3_read_51 : decode cX3_read 51 = .ok (.i2l, 1) := by decide +kernel
theorem dX3_read_52 : decode cX3_read 52 = .ok (.lastore, 1) := by decide +kernel
theorem dX3_read_53 : decode cX3_read 53 = .ok (.aload_n 0, 1) := by decide +kernel
theorem dX3_read_54 : decode cX3_read 54 = .ok (.aload_n 1, 1) := by decide +kernel
theorem dX3_read_55 : decode cX3_read 55 = .ok (.iload_n 2, 1) := by decide +kernel
theorem dX3_read_56 : decode cX3_read 56 = .ok (.invokevirtual 41, 3) := by decide +kernel
theorem dX3_read_59 : decode cX3_read 59 = .ok (.iinc 2 1, 3) := by decide +kernel
theorem dX3_read_62 : decode cX3_read 62 = .ok (.goto (-29), 3) := by decide +kernel
theorem dX3_read_65 : decode cX3_read 65 = .ok (.iconst 0, 1) := by decide +kernel
theorem dX3_read_66 : decode cX3_read 66 = .ok (.istore_n 2, 1) := by decide +kernel
theorem dX3_read_67 : decode cX3_read 67 = .ok (.iload_n 2, 1) := by decide +kernel
theorem dX3_read_68 : decode cX3_read 68 = .ok (.aload_n 0, 1) := by decide +kernel
theorem dX3_read_69 : decode cX3_read 69 = .ok (.getfield 18, 3) := by decide +kernel
theorem dX3_read_72 : decode cX3_read 72 = .ok (.if_icmp .ge 34, 3) := by decide +kernel
theorem dX3_read_75 : decode cX3_read 75 = .ok (.aload_n 0, 1) := by decide +kernel
theorem dX3_read_76 : decode cX3_read 76 = .ok (.getfield 26, 3) := by decide +kernel
theorem dX3_read_79 : decode cX3_read 79 = .ok (.iload_n 2, 1) := by decide +kernel
theorem dX3_read_80 : decode cX3_read 80 = .ok (.iload_n 2, 1) := by decide +kernel
theorem dX3_read_81 : decode cX3_read 81 = .ok (.aload_n 0, 1) := by decide +kernel
theorem dX3_read_82 : decode cX3_read 82 = .ok (.getfield 15, 3) := by decide +kernel
theorem dX3_read_85 : decode cX3_read 85 = .ok (.if_icmp .ge 13, 3) := by decide +kernel
theorem dX3_read_88 : decode cX3_read 88 = .ok (.aload_n 1, 1) := by decide +kernel
theorem dX3_read_89 : decode cX3_read 89 = .ok (.iload_n 2, 1) := by decide +kernel
theorem dX3_read_90 : decode cX3_read 90 = .ok (.iconst 3, 1) := by decide +kernel
theorem dX3_read_91 : decode cX3_read 91 = .ok (.invokevirtual 45, 3) := by decide +kernel
theorem dX3_read_94 : decode cX3_read 94 = .ok (.i2l, 1) := by decide +kernel
theorem dX3_read_95 : decode cX3_read 95 = .ok (.goto 4, 3) := by decide +kernel
theorem dX3_read_98 : decode cX3_read 98 = .ok (.lconst 0, 1) := by decide +kernel
theorem dX3_read_99 : decode cX3_read 99 = .ok (.lastore, 1) := by decide +kernel
theorem dX3_read_100 : decode cX3_read 100 = .ok (.iinc 2 1, 3) := by decide +kernel
theorem dX3_read_103 : decode cX3_read 103 = .ok (.goto (-36), 3) := by decide +kernel
theorem dX3_read_106 : decode cX3_read 106 = .ok (.aload_n 0, 1) := by decide +kernel
theorem dX3_read_107 : decode cX3_read 107 = .ok (.getfield 26, 3) := by decide +kernel
theorem dX3_read_110 : decode cX3_read 110 = .ok (.aload_n 0, 1) := by decide +kernel
theorem dX3_read_111 : decode cX3_read 111 = .ok (.getfield 15, 3) := by decide +kernel
theorem dX3_read_114 : decode cX3_read 114 = .ok (.ldc2_w 49, 3) := by decide +kernel
theorem dX3_read_117 : decode cX3_read 117 = .ok (.lastore, 1) := by decide +kernel
theorem dX3_read_118 : decode cX3_read 118 = .ok (.return_, 1) := by decide +kernel
theorem dX3_readDate_0 : decode cX3_readDate 0 = .ok (.iconst 0, 1) := by decide +kernel
theorem dX3_readDate_1 : decode cX3_readDate 1 = .ok (.istore_n 3, 1) := by decide +kernel
theorem dX3_readDate_2 : decode cX3_readDate 2 = .ok (.iload_n 3, 1) := by decide +kernel
theorem dX3_readDate_3 : decode cX3_readDate 3 = .ok (.aload_n 0, 1) := by decide +kernel
theorem dX3_readDate_4 : decode cX3_readDate 4 = .ok (.getfield 15, 3) := by decide +kernel
theorem dX3_readDate_7 : decode cX3_readDate 7 = .ok (.if_icmp .ge 24, 3) := by decide +kernel
theorem dX3_readDate_10 : decode cX3_readDate 10 = .ok (.aload_n 0, 1) := by decide +kernel
theorem dX3_readDate_11 : decode cX3_readDate 11 = .ok (.getfield 23, 3) := by decide +kernel
theorem dX3_readDate_14 : decode cX3_readDate 14 = .ok (.iload_n 3, 1) := by decide +kernel
theorem dX3_readDate_15 : decode cX3_readDate 15 = .ok (.aaload, 1) := by decide +kernel
theorem dX3_readDate_16 : decode cX3_readDate 16 = .ok (.iload_n 2, 1) := by decide +kernel
theorem dX3_readDate_17 : decode cX3_readDate 17 = .ok (.aload_n 1, 1) := by decide +kernel
theorem dX3_readDate_18 : decode cX3_readDate 18 = .ok (.iload_n 3, 1) := by decide +kernel
theorem dX3_readDate_19 : decode cX3_readDate 19 = .ok (.iload_n 2, 1) := by decide +kernel
theorem dX3_readDate_20 : decode cX3_readDate 20 = .ok (.invokevirtual 51, 3) := by decide +kernel
theorem dX3_readDate_23 : decode cX3_readDate 23 = .ok (.i2l, 1) := by decide +kernel
theorem dX3_readDate_24 : decode cX3_readDate 24 = .ok (.lastore, 1) := by decide +kernel
theorem dX3_readDate_25 : decode cX3_readDate 25 = .ok (.iinc 3 1, 3) := by decide +kernel
theorem dX3_readDate_28 : decode cX3_readDate 28 = .ok (.goto (-26), 3) := by decide +kernel
theorem dX3_readDate_31 : decode cX3_readDate 31 = .ok (.iconst 0, 1) := by decide +kernel
theorem dX3_readDate_32 : decode cX3_readDate 32 = .ok (.istore_n 3, 1) := by decide +kernel
theorem dX3_readDate_33 : decode cX3_readDate 33 = .ok (.iload_n 3, 1) := by decide +kernel
theorem dX3_readDate_34 : decode cX3_readDate 34 = .ok (.aload_n 0, 1) := by decide +kernel
theorem dX3_readDate_35 : decode cX3_readDate 35 = .ok (.getfield 9, 3) := by decide +kernel
theorem dX3_readDate_38 : decode cX3_readDate 38 = .ok (.if_icmp .gt 23, 3) := by decide +kernel
theorem dX3_readDate_41 : decode cX3_readDate 41 = .ok (.aload_n 0, 1) := by decide +kernel
theorem dX3_readDate_42 : decode cX3_readDate 42 = .ok (.getfield 23, 3) := by decide +kernel
theorem dX3_readDate_45 : decode cX3_readDate 45 = .ok (.aload_n 0, 1) := by decide +kernel
theorem dX3_readDate_46 : decode cX3_readDate 46 = .ok (.getfield 15, 3) := by decide +kernel
theorem dX3_readDate_49 : decode cX3_readDate 49 = .ok (.iload_n 3, 1) := by decide +kernel
theorem dX3_readDate_50 : decode cX3_readDate 50 = .ok (.iadd, 1) := by decide +kernel
theorem dX3_readDate_51 : decode cX3_readDate 51 = .ok (.aaload, 1) := by decide +kernel
theorem dX3_readDate_52 : decode cX3_readDate 52 = .ok (.iload_n 2, 1) := by decide +kernel
theorem dX3_readDate_53 : decode cX3_readDate 53 = .ok (.lconst 0, 1) := by decide +kernel
theorem dX3_readDate_54 : decode cX3_readDate 54 = .ok (.lastore, 1) := by decide +kernel
theorem dX3_readDate_55 : decode cX3_readDate 55 = .ok (.iinc 3 1, 3) := by decide +kernel
theorem dX3_readDate_58 : decode cX3_readDate 58 = .ok (.goto (-25), 3) := by decide +kernel
theorem dX3_readDate_61 : decode cX3_readDate 61 = .ok (.aload_n 0, 1) := by decide +kernel
theorem dX3_readDate_62 : decode cX3_readDate 62 = .ok (.getfield 23, 3) := by decide +kernel
theorem dX3_readDate_65 : decode cX3_readDate 65 = .ok (.aload_n 0, 1) := by decide +kernel
theorem dX3_readDate_66 : decode cX3_readDate 66 = .ok (.getfield 15, 3) := by decide +kernel
theorem dX3_readDate_69 : decode cX3_readDate 69 = .ok (.iload_n 2, 1) := by decide +kernel
theorem dX3_readDate_70 : decode cX3_readDate 70 = .ok (.iadd, 1) := by decide +kernel
theorem dX3_readDate_71 : decode cX3_readDate 71 = .ok (.aaload, 1) := by decide +kernel
theorem dX3_readDate_72 : decode cX3_readDate 72 = .ok (.iload_n 2, 1) := by decide +kernel
theorem dX3_readDate_73 : decode cX3_readDate 73 = .ok (.ldc2_w 54, 3) := by decide +kernel
theorem dX3_readDate_76 : decode cX3_readDate 76 = .ok (.lastore, 1) := by decide +kernel
theorem dX3_readDate_77 : decode cX3_readDate 77 = .ok (.aload_n 0, 1) := by decide +kernel
theorem dX3_readDate_78 : decode cX3_readDate 78 = .ok (.getfield 23, 3) := by decide +kernel
theorem dX3_readDate_81 : decode cX3_readDate 81 = .ok (.aload_n 0, 1) := by decide +kernel
theorem dX3_readDate_82 : decode cX3_readDate 82 = .ok (.getfield 15, 3) := by decide +kernel
theorem dX3_readDate_85 : decode cX3_readDate 85 = .ok (.iload_n 2, 1) := by decide +kernel
theorem dX3_readDate_86 : decode cX3_readDate 86 = .ok (.iadd, 1) := by decide +kernel
theorem dX3_readDate_87 : decode cX3_readDate 87 = .ok (.iconst 1, 1) := by decide +kernel
theorem dX3_readDate_88 : decode cX3_readDate 88 = .ok (.isub, 1) := by decide +kernel
theorem dX3_readDate_89 : decode cX3_readDate 89 = .ok (.aaload, 1) := by decide +kernel
theorem dX3_readDate_90 : decode cX3_readDate 90 = .ok (.iload_n 2, 1) := by decide +kernel
theorem dX3_readDate_91 : decode cX3_readDate 91 = .ok (.aload_n 1, 1) := by decide +kernel
theorem dX3_readDate_92 : decode cX3_readDate 92 = .ok (.iload_n 2, 1) := by decide +kernel
theorem dX3_readDate_93 : decode cX3_readDate 93 = .ok (.invokevirtual 56, 3) := by decide +kernel
theorem dX3_readDate_96 : decode cX3_readDate 96 = .ok (.i2l, 1) := by decide +kernel
theorem dX3_readDate_97 : decode cX3_readDate 97 = .ok (.lastore, 1) := by decide +kernel
theorem dX3_readDate_98 : decode cX3_readDate 98 = .ok (.return_, 1) := by decide +kernel
theorem dX4_init_0 : decode cX4_init 0 = .ok (.aload_n 0, 1) := by decide +kernel
theorem dX4_init_1 : decode cX4_init 1 = .ok (.invokespecial 3, 3) := by decide +kernel
theorem dX4_init_4 : decode cX4_init 4 = .ok (.aload_n 0, 1) := by decide +kernel
theorem dX4_init_5 : decode cX4_init 5 = .ok (.iconst 0, 1) := by decide +kernel
theorem dX4_init_6 : decode cX4_init 6 = .ok (.putfield 9, 3) := by decide +kernel
theorem dX4_init_9 : decode cX4_init 9 = .ok (.aload_n 0, 1) := by decide +kernel
theorem dX4_init_10 : decode cX4_init 10 = .ok (.lconst 0, 1) := by decide +kernel
theorem dX4_init_11 : decode cX4_init 11 = .ok (.putfield 15, 3) := by decide +kernel
theorem dX4_init_14 : decode cX4_init 14 = .ok (.aload_n 0, 1) := by decide +kernel
theorem dX4_init_15 : decode cX4_init 15 = .ok (.lconst 1, 1) := by decide +kernel
theorem dX4_init_16 : decode cX4_init 16 = .ok (.putfield 19, 3) := by decide +kernel
theorem dX4_init_19 : decode cX4_init 19 = .ok (.aload_n 0, 1) := by decide +kernel
theorem dX4_init_20 : decode cX4_init 20 = .ok (.iconst 5, 1) := by decide +kernel
theorem dX4_init_21 : decode cX4_init 21 = .ok (.newarray .long, 2) := by decide +kernel
theorem dX4_init_23 : decode cX4_init 23 = .ok (.putfield 22, 3) := by decide +kernel
theorem dX4_init_26 : decode cX4_init 26 = .ok (.aload_n 0, 1) := by decide +kernel
theorem dX4_init_27 : decode cX4_init 27 = .ok (.iconst 5, 1) := by decide +kernel
theorem dX4_init_28 : decode cX4_init 28 = .ok (.newarray .long, 2) := by decide +kernel
theorem dX4_init_30 : decode cX4_init 30 = .ok (.putfield 26, 3) := by decide +kernel
theorem dX4_init_33 : decode cX4_init 33 = .ok (.return_, 1) := by decide +kernel
theorem dX4_follow_0 : decode cX4_follow 0 = .ok (.aload_n 0, 1) := by decide +kernel
theorem dX4_follow_1 : decode cX4_follow 1 = .ok (.iconst 0, 1) := by decide +kernel
theorem dX4_follow_2 : decode cX4_follow 2 = .ok (.putfield 9, 3) := by decide +kernel
theorem dX4_follow_5 : decode cX4_follow 5 = .ok (.aload_n 0, 1) := by decide +kernel
theorem dX4_follow_6 : decode cX4_follow 6 = .ok (.getfield 22, 3) := by decide +kernel
theorem dX4_follow_9 : decode cX4_follow 9 = .ok (.iconst 0, 1) := by decide +kernel
theorem dX4_follow_10 : decode cX4_follow 10 = .ok (.iload_n 2, 1) := by decide +kernel
theorem dX4_follow_11 : decode cX4_follow 11 = .ok (.i2l, 1) := by decide +kernel
theorem dX4_follow_12 : decode cX4_follow 12 = .ok (.lastore, 1) := by decide +kernel
theorem dX4_follow_13 : decode cX4_follow 13 = .ok (.aload_n 0, 1) := by decide +kernel
theorem dX4_follow_14 : decode cX4_follow 14 = .ok (.getfield 26, 3) := by decide +kernel
theorem dX4_follow_17 : decode cX4_follow 17 = .ok (.iconst 0, 1) := by decide +kernel
theorem dX4_follow_18 : decode cX4_follow 18 = .ok (.lconst 1, 1) := by decide +kernel
theorem dX4_follow_19 : decode cX4_follow 19 = .ok (.lastore, 1) := by decide +kernel
theorem dX4_follow_20 : decode cX4_follow 20 = .ok (.iconst 1, 1) := by decide +kernel
theorem dX4_follow_21 : decode cX4_follow 21 = .ok (.istore_n 3, 1) := by decide +kernel
theorem dX4_follow_22 : decode cX4_follow 22 = .ok (.iload_n 3, 1) := by decide +kernel
theorem dX4_follow_23 : decode cX4_follow 23 = .ok (.aload_n 1, 1) := by decide +kernel
theorem dX4_follow_24 : decode cX4_follow 24 = .ok (.getfield 29, 3) := by decide +kernel
theorem dX4_follow_27 : decode cX4_follow 27 = .ok (.if_icmp .gt 84, 3) := by decide +kernel
theorem dX4_follow_30 : decode cX4_follow 30 = .ok (.aload_n 0, 1) := by decide +kernel
theorem dX4_follow_31 : decode cX4_follow 31 = .ok (.getfield 26, 3) := by decide +kernel
theorem dX4_follow_34 : decode cX4_follow 34 = .ok (.iload_n 3, 1) := by decide +kernel
theorem dX4_follow_35 : decode cX4_follow 35 = .ok (.aload_n 0, 1) := by decide +kernel
theorem dX4_follow_36 : decode cX4_follow 36 = .ok (.getfield 26, 3) := by decide +kernel
theorem dX4_follow_39 : decode cX4_follow 39 = .ok (.iload_n 3, 1) := by decide +kernel
theorem dX4_follow_40 : decode cX4_follow 40 = .ok (.iconst 1, 1) := by decide +kernel
theorem dX4_follow_41 : decode cX4_follow 41 = .ok (.isub, 1) := by decide +kernel
theorem dX4_follow_42 : decode cX4_follow 42 = .ok (.laload, 1) := by decide +kernel
theorem dX4_follow_43 : decode cX4_follow 43 = .ok (.ldc2_w 34, 3) := by decide +kernel
theorem dX4_follow_46 : decode cX4_follow 46 = .ok (.lmul, 1) := by decide +kernel
theorem dX4_follow_47 : decode cX4_follow 47 = .ok (.lastore, 1) := by decide +kernel
theorem dX4_follow_48 : decode cX4_follow 48 = .ok (.aload_n 0, 1) := by decide +kernel
theorem dX4_follow_49 : decode cX4_follow 49 = .ok (.getfield 22, 3) := by decide +kernel
theorem dX4_follow_52 : decode cX4_follow 52 = .ok (.iload_n 3, 1) := by decide +kernel
theorem dX4_follow_53 : decode cX4_follow 53 = .ok (.aload_n 0, 1) := by decide +kernel
theorem dX4_follow_54 : decode cX4_follow 54 = .ok (.getfield 22, 3) := by decide +kernel
theorem dX4_follow_57 : decode cX4_follow 57 = .ok (.iload_n 3, 1) := by decide +kernel
theorem dX4_follow_58 : decode cX4_follow 58 = .ok (.iconst 1, 1) := by decide +kernel
theorem dX4_follow_59 : decode cX4_follow 59 = .ok (.isub, 1) := by decide +kernel
theorem dX4_follow_60 : decode cX4_follow 60 = .ok (.laload, 1) := by decide +kernel
theorem dX4_follow_61 : decode cX4_follow 61 = .ok (.aload_n 1, 1) := by decide +kernel
theorem dX4_follow_62 : decode cX4_follow 62 = .ok (.iload_n 3, 1) := by decide +kernel
theorem dX4_follow_63 : decode cX4_follow 63 = .ok (.invokevirtual 36, 3) := by decide +kernel
theorem dX4_follow_66 : decode cX4_follow 66 = .ok (.i2l, 1) := by decide +kernel
theorem dX4_follow_67 : decode cX4_follow 67 = .ok (.lmul, 1) := by decide +kernel
theorem dX4_follow_68 : decode cX4_follow 68 = .ok (.aload_n 0, 1) := by decide +kernel
theorem dX4_follow_69 : decode cX4_follow 69 = .ok (.getfield 26, 3) := by decide +kernel
theorem dX4_follow_72 : decode cX4_follow 72 = .ok (.iload_n 3, 1) := by decide +kernel
theorem dX4_follow_73 : decode cX4_follow 73 = .ok (.laload, 1) := by decide +kernel
theorem dX4_follow_74 : decode cX4_follow 74 = .ok (.aload_n 1, 1) := by decide +kernel
theorem dX4_follow_75 : decode cX4_follow 75 = .ok (.iload_n 3, 1) := by decide +kernel
theorem dX4_follow_76 : decode cX4_follow 76 = .ok (.invokestatic 40, 3) := by decide +kernel
theorem dX4_follow_79 : decode cX4_follow 79 = .ok (.lmul, 1) := by decide +kernel
theorem dX4_follow_80 : decode cX4_follow 80 = .ok (.ladd, 1) := by decide +kernel
theorem dX4_follow_81 : decode cX4_follow 81 = .ok (.lastore, 1) := by decide +kernel
theorem dX4_follow_82 : decode cX4_follow 82 = .ok (.aload_n 0, 1) := by decide +kernel
theorem dX4_follow_83 : decode cX4_follow 83 = .ok (.getfield 22, 3) := by decide +kernel
theorem dX4_follow_86 : decode cX4_follow 86 = .ok (.iload_n 3, 1) := by decide +kernel
theorem dX4_follow_87 : decode cX4_follow 87 = .ok (.laload, 1) := by decide +kernel
theorem dX4_follow_88 : decode cX4_follow 88 = .ok (.lconst 0, 1) := by decide +kernel
theorem dX4_follow_89 : decode cX4_follow 89 = .ok (.lcmp, 1) := by decide +kernel
theorem dX4_follow_90 : decode cX4_follow 90 = .ok (.ifCond .ge 15, 3) := by decide +kernel
theorem dX4_follow_93 : decode cX4_follow 93 = .ok (.aload_n 0, 1) := by decide +kernel
theorem dX4_follow_94 : decode cX4_follow 94 = .ok (.getfield 9, 3) := by decide +kernel
theorem dX4_follow_97 : decode cX4_follow 97 = .ok (.ifCond .ne 8, 3) := by decide +kernel
theorem dX4_follow_100 : decode cX4_follow 100 = .ok (.aload_n 0, 1) := by decide +kernel
theorem dX4_follow_101 : decode cX4_follow 101 = .ok (.iload_n 3, 1) := by decide +kernel
theorem dX4_follow_102 : decode cX4_follow 102 = .ok (.putfield 9, 3) := by decide +kernel
theorem dX4_follow_105 : decode cX4_follow 105 = .ok (.iinc 3 1, 3) := by decide +kernel
theorem dX4_follow_108 : decode cX4_follow 108 = .ok (.goto (-86), 3) := by decide +kernel
theorem dX4_follow_111 : decode cX4_follow 111 = .ok (.return_, 1) := by decide +kernel
theorem dX4_netAt_0 : decode cX4_netAt 0 = .ok (.aload_n 0, 1) := by decide +kernel
theorem dX4_netAt_1 : decode cX4_netAt 1 = .ok (.iload_n 1, 1) := by decide +kernel
theorem dX4_netAt_2 : decode cX4_netAt 2 = .ok (.invokevirtual 44, 3) := by decide +kernel
theorem dX4_netAt_5 : decode cX4_netAt 5 = .ok (.ineg, 1) := by decide +kernel
theorem dX4_netAt_6 : decode cX4_netAt 6 = .ok (.i2l, 1) := by decide +kernel
theorem dX4_netAt_7 : decode cX4_netAt 7 = .ok (.lstore_n 2, 1) := by decide +kernel
theorem dX4_netAt_8 : decode cX4_netAt 8 = .ok (.iconst 0, 1) := by decide +kernel
theorem dX4_netAt_9 : decode cX4_netAt 9 = .ok (.istore 4, 2) := by decide +kernel
theorem dX4_netAt_11 : decode cX4_netAt 11 = .ok (.iload 4, 2) := by decide +kernel
theorem dX4_netAt_13 : decode cX4_netAt 13 = .ok (.aload_n 0, 1) := by decide +kernel
theorem dX4_netAt_14 : decode cX4_netAt 14 = .ok (.getfield 47, 3) := by decide +kernel
theorem dX4_netAt_17 : decode cX4_netAt 17 = .ok (.if_icmp .ge 29, 3) := by decide +kernel
theorem dX4_netAt_20 : decode cX4_netAt 20 = .ok (.lload_n 2, 1) := by decide +kernel
theorem dX4_netAt_21 : decode cX4_netAt 21 = .ok (.aload_n 0, 1) := by decide +kernel
theorem dX4_netAt_22 : decode cX4_netAt 22 = .ok (.iload 4, 2) := by decide +kernel
theorem dX4_netAt_24 : decode cX4_netAt 24 = .ok (.bipush 6, 2) := by decide +kernel
theorem dX4_netAt_26 : decode cX4_netAt 26 = .ok (.invokevirtual 50, 3) := by decide +kernel
theorem dX4_netAt_29 : decode cX4_netAt 29 = .ok (.aload_n 0, 1) := by decide +kernel
theorem dX4_netAt_30 : decode cX4_netAt 30 = .ok (.iload 4, 2) := by decide +kernel
theorem dX4_netAt_32 : decode cX4_netAt 32 = .ok (.iload_n 1, 1) := by decide +kernel
theorem dX4_netAt_33 : decode cX4_netAt 33 = .ok (.invokevirtual 54, 3) := by decide +kernel
theorem dX4_netAt_36 : decode cX4_netAt 36 = .ok (.imul, 1) := by decide +kernel
theorem dX4_netAt_37 : decode cX4_netAt 37 = .ok (.i2l, 1) := by decide +kernel
theorem dX4_netAt_38 : decode cX4_netAt 38 = .ok (.ladd, 1) := by decide +kernel
theorem dX4_netAt_39 : decode cX4_netAt 39 = .ok (.lstore_n 2, 1) := by decide +kernel
theorem dX4_netAt_40 : decode cX4_netAt 40 = .ok (.iinc 4 1, 3) := by decide +kernel
theorem dX4_netAt_43 : decode cX4_netAt 43 = .ok (.goto (-32), 3) := by decide +kernel
theorem dX4_netAt_46 : decode cX4_netAt 46 = .ok (.lload_n 2, 1) := by decide +kernel
theorem dX4_netAt_47 : decode cX4_netAt 47 = .ok (.lreturn, 1) := by decide +kernel
theorem dX4_findLack_0 : decode cX4_findLack 0 = .ok (.aload_n 0, 1) := by decide +kernel
theorem dX4_findLack_1 : decode cX4_findLack 1 = .ok (.lconst 0, 1) := by decide +kernel
theorem dX4_findLack_2 : decode cX4_findLack 2 = .ok (.putfield 15, 3) := by decide +kernel
theorem dX4_findLack_5 : decode cX4_findLack 5 = .ok (.aload_n 0, 1) := by decide +kernel
theorem dX4_findLack_6 : decode cX4_findLack 6 = .ok (.lconst 1, 1) := by decide +kernel
theorem dX4_findLack_7 : decode cX4_findLack 7 = .ok (.putfield 19, 3) := by decide +kernel
theorem dX4_findLack_10 : decode cX4_findLack 10 = .ok (.aload_n 0, 1) := by decide +kernel
theorem dX4_findLack_11 : decode cX4_findLack 11 = .ok (.getfield 26, 3) := by decide +kernel
theorem dX4_findLack_14 : decode cX4_findLack 14 = .ok (.iload_n 2, 1) := by decide +kernel
theorem dX4_findLack_15 : decode cX4_findLack 15 = .ok (.laload, 1) := by decide +kernel
theorem dX4_findLack_16 : decode cX4_findLack 16 = .ok (.lstore_n 3, 1) := by decide +kernel
theorem dX4_findLack_17 : decode cX4_findLack 17 = .ok (.iload_n 2, 1) := by decide +kernel
theorem dX4_findLack_18 : decode cX4_findLack 18 = .ok (.istore 5, 2) := by decide +kernel
theorem dX4_findLack_20 : decode cX4_findLack 20 = .ok (.iload 5, 2) := by decide +kernel
theorem dX4_findLack_22 : decode cX4_findLack 22 = .ok (.aload_n 1, 1) := by decide +kernel
theorem dX4_findLack_23 : decode cX4_findLack 23 = .ok (.getfield 29, 3) := by decide +kernel
theorem dX4_findLack_26 : decode cX4_findLack 26 = .ok (.if_icmp .gt 65, 3) := by decide +kernel
theorem dX4_findLack_29 : decode cX4_findLack 29 = .ok (.iload 5, 2) := by decide +kernel
theorem dX4_findLack_31 : decode cX4_findLack 31 = .ok (.iload_n 2, 1) := by decide +kernel
theorem dX4_findLack_32 : decode cX4_findLack 32 = .ok (.if_icmp .le 13, 3) := by decide +kernel
theorem dX4_findLack_35 : decode cX4_findLack 35 = .ok (.lload_n 3, 1) := by decide +kernel
theorem dX4_findLack_36 : decode cX4_findLack 36 = .ok (.aload_n 1, 1) := by decide +kernel
theorem dX4_findLack_37 : decode cX4_findLack 37 = .ok (.iload 5, 2) := by decide +kernel
theorem dX4_findLack_39 : decode cX4_findLack 39 = .ok (.invokevirtual 36, 3) := by decide +kernel
theorem dX4_findLack_42 : decode cX4_findLack 42 = .ok (.i2l, 1) := by decide +kernel
theorem dX4_findLack_43 : decode cX4_findLack 43 = .ok (.lmul, 1) := by decide +kernel
theorem dX4_findLack_44 : decode cX4_findLack 44 = .ok (.lstore_n 3, 1) := by decide +kernel
theorem dX4_findLack_45 : decode cX4_findLack 45 = .ok (.aload_n 0, 1) := by decide +kernel
theorem dX4_findLack_46 : decode cX4_findLack 46 = .ok (.getfield 22, 3) := by decide +kernel
theorem dX4_findLack_49 : decode cX4_findLack 49 = .ok (.iload 5, 2) := by decide +kernel
theorem dX4_findLack_51 : decode cX4_findLack 51 = .ok (.laload, 1) := by decide +kernel
theorem dX4_findLack_52 : decode cX4_findLack 52 = .ok (.lneg, 1) := by decide +kernel
theorem dX4_findLack_53 : decode cX4_findLack 53 = .ok (.aload_n 0, 1) := by decide +kernel
theorem dX4_findLack_54 : decode cX4_findLack 54 = .ok (.getfield 19, 3) := by decide +kernel
theorem dX4_findLack_57 : decode cX4_findLack 57 = .ok (.lmul, 1) := by decide +kernel
theorem dX4_findLack_58 : decode cX4_findLack 58 = .ok (.aload_n 0, 1) := by decide +kernel
theorem dX4_findLack_59 : decode cX4_findLack 59 = .ok (.getfield 15, 3) := by decide +kernel
theorem dX4_findLack_62 : decode cX4_findLack 62 = .ok (.lload_n 3, 1) := by decide +kernel
theorem dX4_findLack_63 : decode cX4_findLack 63 = .ok (.lmul, 1) := by decide +kernel
theorem dX4_findLack_64 : decode cX4_findLack 64 = .ok (.lcmp, 1) := by decide +kernel
theorem dX4_findLack_65 : decode cX4_findLack 65 = .ok (.ifCond .le 20, 3) := by decide +kernel
theorem dX4_findLack_68 : decode cX4_findLack 68 = .ok (.aload_n 0, 1) := by decide +kernel
theorem dX4_findLack_69 : decode cX4_findLack 69 = .ok (.aload_n 0, 1) := by decide +kernel
theorem dX4_findLack_70 : decode cX4_findLack 70 = .ok (.getfield 22, 3) := by decide +kernel
theorem dX4_findLack_73 : decode cX4_findLack 73 = .ok (.iload 5, 2) := by decide +kernel
theorem dX4_findLack_75 : decode cX4_findLack 75 = .ok (.laload, 1) := by decide +kernel
theorem dX4_findLack_76 : decode cX4_findLack 76 = .ok (.lneg, 1) := by decide +kernel
theorem dX4_findLack_77 : decode cX4_findLack 77 = .ok (.putfield 15, 3) := by decide +kernel
theorem dX4_findLack_80 : decode cX4_findLack 80 = .ok (.aload_n 0, 1) := by decide +kernel
theorem dX4_findLack_81 : decode cX4_findLack 81 = .ok (.lload_n 3, 1) := by decide +kernel
theorem dX4_findLack_82 : decode cX4_findLack 82 = .ok (.putfield 19, 3) := by decide +kernel
theorem dX4_findLack_85 : decode cX4_findLack 85 = .ok (.iinc 5 1, 3) := by decide +kernel
theorem dX4_findLack_88 : decode cX4_findLack 88 = .ok (.goto (-68), 3) := by decide +kernel
theorem dX4_findLack_91 : decode cX4_findLack 91 = .ok (.return_, 1) := by decide +kernel
theorem dX5_init_0 : decode cX5_init 0 = .ok (.aload_n 0, 1) := by decide +kernel
theorem dX5_init_1 : decode cX5_init 1 = .ok (.invokespecial 3, 3) := by decide +kernel
theorem dX5_init_4 : decode cX5_init 4 = .ok (.aload_n 0, 1) := by decide +kernel
theorem dX5_init_5 : decode cX5_init 5 = .ok (.lconst 1, 1) := by decide +kernel
theorem dX5_init_6 : decode cX5_init 6 = .ok (.putfield 9, 3) := by decide +kernel
theorem dX5_init_9 : decode cX5_init 9 = .ok (.aload_n 0, 1) := by decide +kernel
theorem dX5_init_10 : decode cX5_init 10 = .ok (.lconst 0, 1) := by decide +kernel
theorem dX5_init_11 : decode cX5_init 11 = .ok (.putfield 15, 3) := by decide +kernel
theorem dX5_init_14 : decode cX5_init 14 = .ok (.aload_n 0, 1) := by decide +kernel
theorem dX5_init_15 : decode cX5_init 15 = .ok (.lconst 0, 1) := by decide +kernel
theorem dX5_init_16 : decode cX5_init 16 = .ok (.putfield 18, 3) := by decide +kernel
theorem dX5_init_19 : decode cX5_init 19 = .ok (.aload_n 0, 1) := by decide +kernel
theorem dX5_init_20 : decode cX5_init 20 = .ok (.iconst 5, 1) := by decide +kernel
theorem dX5_init_21 : decode cX5_init 21 = .ok (.newarray .int, 2) := by decide +kernel
theorem dX5_init_23 : decode cX5_init 23 = .ok (.putfield 21, 3) := by decide +kernel
theorem dX5_init_26 : decode cX5_init 26 = .ok (.aload_n 0, 1) := by decide +kernel
theorem dX5_init_27 : decode cX5_init 27 = .ok (.iconst 0, 1) := by decide +kernel
theorem dX5_init_28 : decode cX5_init 28 = .ok (.putfield 25, 3) := by decide +kernel
theorem dX5_init_31 : decode cX5_init 31 = .ok (.aload_n 0, 1) := by decide +kernel
theorem dX5_init_32 : decode cX5_init 32 = .ok (.iconst 0, 1) := by decide +kernel
theorem dX5_init_33 : decode cX5_init 33 = .ok (.putfield 29, 3) := by decide +kernel
theorem dX5_init_36 : decode cX5_init 36 = .ok (.aload_n 0, 1) := by decide +kernel
theorem dX5_init_37 : decode cX5_init 37 = .ok (.iconst 5, 1) := by decide +kernel
theorem dX5_init_38 : decode cX5_init 38 = .ok (.newarray .long, 2) := by decide +kernel
theorem dX5_init_40 : decode cX5_init 40 = .ok (.putfield 32, 3) := by decide +kernel
theorem dX5_init_43 : decode cX5_init 43 = .ok (.aload_n 0, 1) := by decide +kernel
theorem dX5_init_44 : decode cX5_init 44 = .ok (.iconst 5, 1) := by decide +kernel
theorem dX5_init_45 : decode cX5_init 45 = .ok (.newarray .int, 2) := by decide +kernel
theorem dX5_init_47 : decode cX5_init 47 = .ok (.putfield 36, 3) := by decide +kernel
theorem dX5_init_50 : decode cX5_init 50 = .ok (.aload_n 0, 1) := by decide +kernel
theorem dX5_init_51 : decode cX5_init 51 = .ok (.iconst 5, 1) := by decide +kernel
theorem dX5_init_52 : decode cX5_init 52 = .ok (.iconst 5, 1) := by decide +kernel
theorem dX5_init_53 : decode cX5_init 53 = .ok (.multianewarray 39 2, 4) := by decide +kernel
theorem dX5_init_57 : decode cX5_init 57 = .ok (.putfield 41, 3) := by decide +kernel
theorem dX5_init_60 : decode cX5_init 60 = .ok (.aload_n 0, 1) := by decide +kernel
theorem dX5_init_61 : decode cX5_init 61 = .ok (.bipush 6, 2) := by decide +kernel
theorem dX5_init_63 : decode cX5_init 63 = .ok (.iconst 5, 1) := by decide +kernel
theorem dX5_init_64 : decode cX5_init 64 = .ok (.multianewarray 39 2, 4) := by decide +kernel
theorem dX5_init_68 : decode cX5_init 68 = .ok (.putfield 44, 3) := by decide +kernel
theorem dX5_init_71 : decode cX5_init 71 = .ok (.aload_n 0, 1) := by decide +kernel
theorem dX5_init_72 : decode cX5_init 72 = .ok (.bipush 6, 2) := by decide +kernel
theorem dX5_init_74 : decode cX5_init 74 = .ok (.iconst 5, 1) := by decide +kernel
theorem dX5_init_75 : decode cX5_init 75 = .ok (.multianewarray 39 2, 4) := by decide +kernel
theorem dX5_init_79 : decode cX5_init 79 = .ok (.putfield 47, 3) := by decide +kernel
theorem dX5_init_82 : decode cX5_init 82 = .ok (.aload_n 0, 1) := by decide +kernel
theorem dX5_init_83 : decode cX5_init 83 = .ok (.bipush 6, 2) := by decide +kernel
theorem dX5_init_85 : decode cX5_init 85 = .ok (.newarray .long, 2) := by decide +kernel
theorem dX5_init_87 : decode cX5_init 87 = .ok (.putfield 50, 3) := by decide +kernel
theorem dX5_init_90 : decode cX5_init 90 = .ok (.aload_n 0, 1) := by decide +kernel
theorem dX5_init_91 : decode cX5_init 91 = .ok (.iconst 5, 1) := by decide +kernel
theorem dX5_init_92 : decode cX5_init 92 = .ok (.newarray .int, 2) := by decide +kernel
theorem dX5_init_94 : decode cX5_init 94 = .ok (.putfield 53, 3) := by decide +kernel
theorem dX5_init_97 : decode cX5_init 97 = .ok (.return_, 1) := by decide +kernel
theorem dX5_findFor_0 : decode cX5_findFor 0 = .ok (.aload_n 0, 1) := by decide +kernel
theorem dX5_findFor_1 : decode cX5_findFor 1 = .ok (.aload_n 1, 1) := by decide +kernel
theorem dX5_findFor_2 : decode cX5_findFor 2 = .ok (.invokevirtual 56, 3) := by decide +kernel
theorem dX5_findFor_5 : decode cX5_findFor 5 = .ok (.aload_n 0, 1) := by decide +kernel
theorem dX5_findFor_6 : decode cX5_findFor 6 = .ok (.getfield 29, 3) := by decide +kernel
theorem dX5_findFor_9 : decode cX5_findFor 9 = .ok (.iconst 1, 1) := by decide +kernel
theorem dX5_findFor_10 : decode cX5_findFor 10 = .ok (.isub, 1) := by decide +kernel
theorem dX5_findFor_11 : decode cX5_findFor 11 = .ok (.istore_n 2, 1) := by decide +kernel
theorem dX5_findFor_12 : decode cX5_findFor 12 = .ok (.iload_n 2, 1) := by decide +kernel
theorem dX5_findFor_13 : decode cX5_findFor 13 = .ok (.ifCond .lt 75, 3) := by decide +kernel
theorem dX5_findFor_16 : decode cX5_findFor 16 = .ok (.iconst 1, 1) := by decide +kernel
theorem dX5_findFor_17 : decode cX5_findFor 17 = .ok (.istore_n 3, 1) := by decide +kernel
theorem dX5_findFor_18 : decode cX5_findFor 18 = .ok (.iload_n 3, 1) := by decide +kernel
theorem dX5_findFor_19 : decode cX5_findFor 19 = .ok (.aload_n 0, 1) := by decide +kernel
theorem dX5_findFor_20 : decode cX5_findFor 20 = .ok (.getfield 25, 3) := by decide +kernel
theorem dX5_findFor_23 : decode cX5_findFor 23 = .ok (.if_icmp .gt 59, 3) := by decide +kernel
theorem dX5_findFor_26 : decode cX5_findFor 26 = .ok (.lconst 0, 1) := by decide +kernel
theorem dX5_findFor_27 : decode cX5_findFor 27 = .ok (.aload_n 0, 1) := by decide +kernel
theorem dX5_findFor_28 : decode cX5_findFor 28 = .ok (.getfield 41, 3) := by decide +kernel
theorem dX5_findFor_31 : decode cX5_findFor 31 = .ok (.iload_n 2, 1) := by decide +kernel
theorem dX5_findFor_32 : decode cX5_findFor 32 = .ok (.aaload, 1) := by decide +kernel
theorem dX5_findFor_33 : decode cX5_findFor 33 = .ok (.iload_n 3, 1) := by decide +kernel
theorem dX5_findFor_34 : decode cX5_findFor 34 = .ok (.laload, 1) := by decide +kernel
theorem dX5_findFor_35 : decode cX5_findFor 35 = .ok (.aload_n 0, 1) := by decide +kernel
theorem dX5_findFor_36 : decode cX5_findFor 36 = .ok (.getfield 32, 3) := by decide +kernel
theorem dX5_findFor_39 : decode cX5_findFor 39 = .ok (.iload_n 2, 1) := by decide +kernel
theorem dX5_findFor_40 : decode cX5_findFor 40 = .ok (.laload, 1) := by decide +kernel
theorem dX5_findFor_41 : decode cX5_findFor 41 = .ok (.lsub, 1) := by decide +kernel
theorem dX5_findFor_42 : decode cX5_findFor 42 = .ok (.invokestatic 60, 3) := by decide +kernel
theorem dX5_findFor_45 : decode cX5_findFor 45 = .ok (.lstore 4, 2) := by decide +kernel
theorem dX5_findFor_47 : decode cX5_findFor 47 = .ok (.aload_n 0, 1) := by decide +kernel
theorem dX5_findFor_48 : decode cX5_findFor 48 = .ok (.getfield 44, 3) := by decide +kernel
theorem dX5_findFor_51 : decode cX5_findFor 51 = .ok (.iload_n 2, 1) := by decide +kernel
theorem dX5_findFor_52 : decode cX5_findFor 52 = .ok (.aaload, 1) := by decide +kernel
theorem dX5_findFor_53 : decode cX5_findFor 53 = .ok (.iload_n 3, 1) := by decide +kernel
theorem dX5_findFor_54 : decode cX5_findFor 54 = .ok (.aload_n 0, 1) := by decide +kernel
theorem dX5_findFor_55 : decode cX5_findFor 55 = .ok (.getfield 44, 3) := by decide +kernel
theorem dX5_findFor_58 : decode cX5_findFor 58 = .ok (.iload_n 2, 1) := by decide +kernel
theorem dX5_findFor_59 : decode cX5_findFor 59 = .ok (.iconst 1, 1) := by decide +kernel
theorem dX5_findFor_60 : decode cX5_findFor 60 = .ok (.iadd, 1) := by decide +kernel
theorem dX5_findFor_61 : decode cX5_findFor 61 = .ok (.aaload, 1) := by decide +kernel
theorem dX5_findFor_62 : decode cX5_findFor 62 = .ok (.iload_n 3, 1) := by decide +kernel
theorem dX5_findFor_63 : decode cX5_findFor 63 = .ok (.laload, 1) := by decide +kernel
theorem dX5_findFor_64 : decode cX5_findFor 64 = .ok (.aload_n 0, 1) := by decide +kernel
theorem dX5_findFor_65 : decode cX5_findFor 65 = .ok (.getfield 36, 3) := by decide +kernel
theorem dX5_findFor_68 : decode cX5_findFor 68 = .ok (.iload_n 2, 1) := by decide +kernel
theorem dX5_findFor_69 : decode cX5_findFor 69 = .ok (.iaload, 1) := by decide +kernel
theorem dX5_findFor_70 : decode cX5_findFor 70 = .ok (.i2l, 1) := by decide +kernel
theorem dX5_findFor_71 : decode cX5_findFor 71 = .ok (.lload 4, 2) := by decide +kernel
theorem dX5_findFor_73 : decode cX5_findFor 73 = .ok (.lmul, 1) := by decide +kernel
theorem dX5_findFor_74 : decode cX5_findFor 74 = .ok (.ladd, 1) := by decide +kernel
theorem dX5_findFor_75 : decode cX5_findFor 75 = .ok (.lastore, 1) := by decide +kernel
theorem dX5_findFor_76 : decode cX5_findFor 76 = .ok (.iinc 3 1, 3) := by decide +kernel
theorem dX5_findFor_79 : decode cX5_findFor 79 = .ok (.goto (-61), 3) := by decide +kernel
theorem dX5_findFor_82 : decode cX5_findFor 82 = .ok (.iinc 2 (-1), 3) := by decide +kernel
theorem dX5_findFor_85 : decode cX5_findFor 85 = .ok (.goto (-73), 3) := by decide +kernel
theorem dX5_findFor_88 : decode cX5_findFor 88 = .ok (.aload_n 0, 1) := by decide +kernel
theorem dX5_findFor_89 : decode cX5_findFor 89 = .ok (.ldc2_w 68, 3) := by decide +kernel
theorem dX5_findFor_92 : decode cX5_findFor 92 = .ok (.putfield 15, 3) := by decide +kernel
theorem dX5_findFor_95 : decode cX5_findFor 95 = .ok (.aload_n 0, 1) := by decide +kernel
theorem dX5_findFor_96 : decode cX5_findFor 96 = .ok (.iconst 0, 1) := by decide +kernel
theorem dX5_findFor_97 : decode cX5_findFor 97 = .ok (.invokevirtual 70, 3) := by decide +kernel
theorem dX5_findFor_100 : decode cX5_findFor 100 = .ok (.return_, 1) := by decide +kernel
theorem dX5_atFirstRoundedUp_0 : decode cX5_atFirstRoundedUp 0 = .ok (.aload_n 0, 1) := by decide +kernel
theorem dX5_atFirstRoundedUp_1 : decode cX5_atFirstRoundedUp 1 = .ok (.getfield 9, 3) := by decide +kernel
theorem dX5_atFirstRoundedUp_4 : decode cX5_atFirstRoundedUp 4 = .ok (.lconst 1, 1) := by decide +kernel
theorem dX5_atFirstRoundedUp_5 : decode cX5_atFirstRoundedUp 5 = .ok (.lcmp, 1) := by decide +kernel
theorem dX5_atFirstRoundedUp_6 : decode cX5_atFirstRoundedUp 6 = .ok (.ifCond .ge 7, 3) := by decide +kernel
theorem dX5_atFirstRoundedUp_9 : decode cX5_atFirstRoundedUp 9 = .ok (.iconst 0, 1) := by decide +kernel
theorem dX5_atFirstRoundedUp_10 : decode cX5_atFirstRoundedUp 10 = .ok (.goto 20, 3) := by decide +kernel
theorem dX5_atFirstRoundedUp_13 : decode cX5_atFirstRoundedUp 13 = .ok (.aload_n 0, 1) := by decide +kernel
theorem dX5_atFirstRoundedUp_14 : decode cX5_atFirstRoundedUp 14 = .ok (.getfield 18, 3) := by decide +kernel
theorem dX5_atFirstRoundedUp_17 : decode cX5_atFirstRoundedUp 17 = .ok (.aload_n 0, 1) := by decide +kernel
theorem dX5_atFirstRoundedUp_18 : decode cX5_atFirstRoundedUp 18 = .ok (.getfield 9, 3) := by decide +kernel
theorem dX5_atFirstRoundedUp_21 : decode cX5_atFirstRoundedUp 21 = .ok (.ladd, 1) := by decide +kernel
theorem dX5_atFirstRoundedUp_22 : decode cX5_atFirstRoundedUp 22 = .ok (.lconst 1, 1) := by decide +kernel
theorem dX5_atFirstRoundedUp_23 : decode cX5_atFirstRoundedUp 23 = .ok (.lsub, 1) := by decide +kernel
theorem dX5_atFirstRoundedUp_24 : decode cX5_atFirstRoundedUp 24 = .ok (.aload_n 0, 1) := by decide +kernel
theorem dX5_atFirstRoundedUp_25 : decode cX5_atFirstRoundedUp 25 = .ok (.getfield 9, 3) := by decide +kernel
theorem dX5_atFirstRoundedUp_28 : decode cX5_atFirstRoundedUp 28 = .ok (.ldiv, 1) := by decide +kernel
theorem dX5_atFirstRoundedUp_29 : decode cX5_atFirstRoundedUp 29 = .ok (.l2i, 1) := by decide +kernel
theorem dX5_atFirstRoundedUp_30 : decode cX5_atFirstRoundedUp 30 = .ok (.ireturn, 1) := by decide +kernel
theorem dX5_read_0 : decode cX5_read 0 = .ok (.aload_n 0, 1) := by decide +kernel
theorem dX5_read_1 : decode cX5_read 1 = .ok (.aload_n 1, 1) := by decide +kernel
theorem dX5_read_2 : decode cX5_read 2 = .ok (.getfield 74, 3) := by decide +kernel
theorem dX5_read_5 : decode cX5_read 5 = .ok (.putfield 25, 3) := by decide +kernel
theorem dX5_read_8 : decode cX5_read 8 = .ok (.aload_n 0, 1) := by decide +kernel
theorem dX5_read_9 : decode cX5_read 9 = .ok (.aload_n 1, 1) := by decide +kernel
theorem dX5_read_10 : decode cX5_read 10 = .ok (.getfield 77, 3) := by decide +kernel
theorem dX5_read_13 : decode cX5_read 13 = .ok (.putfield 29, 3) := by decide +kernel
theorem dX5_read_16 : decode cX5_read 16 = .ok (.aload_n 0, 1) := by decide +kernel
theorem dX5_read_17 : decode cX5_read 17 = .ok (.lconst 1, 1) := by decide +kernel
theorem dX5_read_18 : decode cX5_read 18 = .ok (.putfield 9, 3) := by decide +kernel
theorem dX5_read_21 : decode cX5_read 21 = .ok (.iconst 1, 1) := by decide +kernel
theorem dX5_read_22 : decode cX5_read 22 = .ok (.istore_n 2, 1) := by decide +kernel
theorem dX5_read_23 : decode cX5_read 23 = .ok (.iload_n 2, 1) := by decide +kernel
theorem dX5_read_24 : decode cX5_read 24 = .ok (.aload_n 0, 1) := by decide +kernel
theorem dX5_read_25 : decode cX5_read 25 = .ok (.getfield 25, 3) := by decide +kernel
theorem dX5_read_28 : decode cX5_read 28 = .ok (.if_icmp .gt 24, 3) := by decide +kernel
theorem dX5_read_31 : decode cX5_read 31 = .ok (.aload_n 0, 1) := by decide +kernel
theorem dX5_read_32 : decode cX5_read 32 = .ok (.dup, 1) := by decide +kernel
theorem dX5_read_33 : decode cX5_read 33 = .ok (.getfield 9, 3) := by decide +kernel
theorem dX5_read_36 : decode cX5_read 36 = .ok (.aload_n 1, 1) := by decide +kernel
theorem dX5_read_37 : decode cX5_read 37 = .ok (.iload_n 2, 1) := by decide +kernel
theorem dX5_read_38 : decode cX5_read 38 = .ok (.invokevirtual 78, 3) := by decide +kernel
theorem dX5_read_41 : decode cX5_read 41 = .ok (.i2l, 1) := by decide +kernel
theorem dX5_read_42 : decode cX5_read 42 = .ok (.lmul, 1) := by decide +kernel
theorem dX5_read_43 : decode cX5_read 43 = .ok (.putfield 9, 3) := by decide +kernel
theorem dX5_read_46 : decode cX5_read 46 = .ok (.iinc 2 1, 3) := by decide +kernel
theorem dX5_read_49 : decode cX5_read 49 = .ok (.goto (-26), 3) := by decide +kernel
theorem dX5_read_52 : decode cX5_read 52 = .ok (.aload_n 0, 1) := by decide +kernel
theorem dX5_read_53 : decode cX5_read 53 = .ok (.aload_n 1, 1) := by decide +kernel
theorem dX5_read_54 : decode cX5_read 54 = .ok (.invokevirtual 82, 3) := by decide +kernel
theorem dX5_read_57 : decode cX5_read 57 = .ok (.iconst 1, 1) := by decide +kernel
theorem dX5_read_58 : decode cX5_read 58 = .ok (.istore_n 2, 1) := by decide +kernel
theorem dX5_read_59 : decode cX5_read 59 = .ok (.iload_n 2, 1) := by decide +kernel
theorem dX5_read_60 : decode cX5_read 60 = .ok (.aload_n 0, 1) := by decide +kernel
theorem dX5_read_61 : decode cX5_read 61 = .ok (.getfield 25, 3) := by decide +kernel
theorem dX5_read_64 : decode cX5_read 64 = .ok (.if_icmp .gt 21, 3) := by decide +kernel
theorem dX5_read_67 : decode cX5_read 67 = .ok (.aload_n 0, 1) := by decide +kernel
theorem dX5_read_68 : decode cX5_read 68 = .ok (.getfield 44, 3) := by decide +kernel
theorem dX5_read_71 : decode cX5_read 71 = .ok (.aload_n 0, 1) := by decide +kernel
theorem dX5_read_72 : decode cX5_read 72 = .ok (.getfield 29, 3) := by decide +kernel
theorem dX5_read_75 : decode cX5_read 75 = .ok (.aaload, 1) := by decide +kernel
theorem dX5_read_76 : decode cX5_read 76 = .ok (.iload_n 2, 1) := by decide +kernel
theorem dX5_read_77 : decode cX5_read 77 = .ok (.lconst 0, 1) := by decide +kernel
theorem dX5_read_78 : decode cX5_read 78 = .ok (.lastore, 1) := by decide +kernel
theorem dX5_read_79 : decode cX5_read 79 = .ok (.iinc 2 1, 3) := by decide +kernel
theorem dX5_read_82 : decode cX5_read 82 = .ok (.goto (-23), 3) := by decide +kernel
theorem dX5_read_85 : decode cX5_read 85 = .ok (.iconst 0, 1) := by decide +kernel
theorem dX5_read_86 : decode cX5_read 86 = .ok (.istore_n 2, 1) := by decide +kernel
theorem dX5_read_87 : decode cX5_read 87 = .ok (.iload_n 2, 1) := by decide +kernel
theorem dX5_read_88 : decode cX5_read 88 = .ok (.aload_n 0, 1) := by decide +kernel
theorem dX5_read_89 : decode cX5_read 89 = .ok (.getfield 29, 3) := by decide +kernel
theorem dX5_read_92 : decode cX5_read 92 = .ok (.if_icmp .ge 81, 3) := by decide +kernel
theorem dX5_read_95 : decode cX5_read 95 = .ok (.aload_n 0, 1) := by decide +kernel
theorem dX5_read_96 : decode cX5_read 96 = .ok (.getfield 32, 3) := by decide +kernel
theorem dX5_read_99 : decode cX5_read 99 = .ok (.iload_n 2, 1) := by decide +kernel
theorem dX5_read_100 : decode cX5_read 100 = .ok (.aload_n 0, 1) := by decide +kernel
theorem dX5_read_101 : decode cX5_read 101 = .ok (.getfield 9, 3) := by decide +kernel
theorem dX5_read_104 : decode cX5_read 104 = .ok (.aload_n 1, 1) := by decide +kernel
theorem dX5_read_105 : decode cX5_read 105 = .ok (.iload_n 2, 1) := by decide +kernel
theorem dX5_read_106 : decode cX5_read 106 = .ok (.iconst 3, 1) := by decide +kernel
theorem dX5_read_107 : decode cX5_read 107 = .ok (.invokevirtual 85, 3) := by decide +kernel
theorem dX5_read_110 : decode cX5_read 110 = .ok (.i2l, 1) := by decide +kernel
theorem dX5_read_111 : decode cX5_read 111 = .ok (.lmul, 1) := by decide +kernel
theorem dX5_read_112 : decode cX5_read 112 = .ok (.lastore, 1) := by decide +kernel
theorem dX5_read_113 : decode cX5_read 113 = .ok (.aload_n 0, 1) := by decide +kernel
theorem dX5_read_114 : decode cX5_read 114 = .ok (.getfield 41, 3) := by decide +kernel
theorem dX5_read_117 : decode cX5_read 117 = .ok (.iload_n 2, 1) := by decide +kernel
theorem dX5_read_118 : decode cX5_read 118 = .ok (.aaload, 1) := by decide +kernel
theorem dX5_read_119 : decode cX5_read 119 = .ok (.aload_n 0, 1) := by decide +kernel
theorem dX5_read_120 : decode cX5_read 120 = .ok (.getfield 25, 3) := by decide +kernel
theorem dX5_read_123 : decode cX5_read 123 = .ok (.laload, 1) := by decide +kernel
theorem dX5_read_124 : decode cX5_read 124 = .ok (.aload_n 0, 1) := by decide +kernel
theorem dX5_read_125 : decode cX5_read 125 = .ok (.getfield 32, 3) := by decide +kernel
theorem dX5_read_128 : decode cX5_read 128 = .ok (.iload_n 2, 1) := by decide +kernel
theorem dX5_read_129 : decode cX5_read 129 = .ok (.laload, 1) := by decide +kernel
theorem dX5_read_130 : decode cX5_read 130 = .ok (.lcmp, 1) := by decide +kernel
theorem dX5_read_131 : decode cX5_read 131 = .ok (.ifCond .le 7, 3) := by decide +kernel
theorem dX5_read_134 : decode cX5_read 134 = .ok (.iconst 1, 1) := by decide +kernel
theorem dX5_read_135 : decode cX5_read 135 = .ok (.goto 4, 3) := by decide +kernel
theorem dX5_read_138 : decode cX5_read 138 = .ok (.iconst 0, 1) := by decide +kernel
theorem dX5_read_139 : decode cX5_read 139 = .ok (.istore_n 3, 1) := by decide +kernel
theorem dX5_read_140 : decode cX5_read 140 = .ok (.aload_n 0, 1) := by decide +kernel
theorem dX5_read_141 : decode cX5_read 141 = .ok (.getfield 36, 3) := by decide +kernel
theorem dX5_read_144 : decode cX5_read 144 = .ok (.iload_n 2, 1) := by decide +kernel
theorem dX5_read_145 : decode cX5_read 145 = .ok (.iload_n 3, 1) := by decide +kernel
theorem dX5_read_146 : decode cX5_read 146 = .ok (.ifCond .eq 12, 3) := by decide +kernel
theorem dX5_read_149 : decode cX5_read 149 = .ok (.aload_n 1, 1) := by decide +kernel
theorem dX5_read_150 : decode cX5_read 150 = .ok (.iload_n 2, 1) := by decide +kernel
theorem dX5_read_151 : decode cX5_read 151 = .ok (.iconst 4, 1) := by decide +kernel
theorem dX5_read_152 : decode cX5_read 152 = .ok (.invokevirtual 85, 3) := by decide +kernel
theorem dX5_read_155 : decode cX5_read 155 = .ok (.goto 4, 3) := by decide +kernel
theorem dX5_read_158 : decode cX5_read 158 = .ok (.iconst 0, 1) := by decide +kernel
theorem dX5_read_159 : decode cX5_read 159 = .ok (.iastore, 1) := by decide +kernel
theorem dX5_read_160 : decode cX5_read 160 = .ok (.aload_n 0, 1) := by decide +kernel
theorem dX5_read_161 : decode cX5_read 161 = .ok (.getfield 53, 3) := by decide +kernel
theorem dX5_read_164 : decode cX5_read 164 = .ok (.iload_n 2, 1) := by decide +kernel
theorem dX5_read_165 : decode cX5_read 165 = .ok (.iconst 0, 1) := by decide +kernel
theorem dX5_read_166 : decode cX5_read 166 = .ok (.iastore, 1) := by decide +kernel
theorem dX5_read_167 : decode cX5_read 167 = .ok (.iinc 2 1, 3) := by decide +kernel
theorem dX5_read_170 : decode cX5_read 170 = .ok (.goto (-83), 3) := by decide +kernel
theorem dX5_read_173 : decode cX5_read 173 = .ok (.return_, 1) := by decide +kernel
theorem dX5_readDates_0 : decode cX5_readDates 0 = .ok (.aload_n 0, 1) := by decide +kernel
theorem dX5_readDates_1 : decode cX5_readDates 1 = .ok (.getfield 9, 3) := by decide +kernel
theorem dX5_readDates_4 : decode cX5_readDates 4 = .ok (.lstore_n 2, 1) := by decide +kernel
theorem dX5_readDates_5 : decode cX5_readDates 5 = .ok (.iconst 1, 1) := by decide +kernel
theorem dX5_readDates_6 : decode cX5_readDates 6 = .ok (.istore 4, 2) := by decide +kernel
theorem dX5_readDates_8 : decode cX5_readDates 8 = .ok (.iload 4, 2) := by decide +kernel
theorem dX5_readDates_10 : decode cX5_readDates 10 = .ok (.aload_n 0, 1) := by decide +kernel
theorem dX5_readDates_11 : decode cX5_readDates 11 = .ok (.getfield 25, 3) := by decide +kernel
theorem dX5_readDates_14 : decode cX5_readDates 14 = .ok (.if_icmp .gt 142, 3) := by decide +kernel
theorem dX5_readDates_17 : decode cX5_readDates 17 = .ok (.aload_n 1, 1) := by decide +kernel
theorem dX5_readDates_18 : decode cX5_readDates 18 = .ok (.iload 4, 2) := by decide +kernel
theorem dX5_readDates_20 : decode cX5_readDates 20 = .ok (.invokevirtual 78, 3) := by decide +kernel
theorem dX5_readDates_23 : decode cX5_readDates 23 = .ok (.istore 5, 2) := by decide +kernel
theorem dX5_readDates_25 : decode cX5_readDates 25 = .ok (.iload 5, 2) := by decide +kernel
theorem dX5_readDates_27 : decode cX5_readDates 27 = .ok (.ifCond .ne 7, 3) := by decide +kernel
theorem dX5_readDates_30 : decode cX5_readDates 30 = .ok (.lconst 0, 1) := by decide +kernel
theorem dX5_readDates_31 : decode cX5_readDates 31 = .ok (.goto 12, 3) := by decide +kernel
theorem dX5_readDates_34 : decode cX5_readDates 34 = .ok (.lload_n 2, 1) := by decide +kernel
theorem dX5_readDates_35 : decode cX5_readDates 35 = .ok (.iload 5, 2) := by decide +kernel
theorem dX5_readDates_37 : decode cX5_readDates 37 = .ok (.i2l, 1) := by decide +kernel
theorem dX5_readDates_38 : decode cX5_readDates 38 = .ok (.ldiv, 1) := by decide +kernel
theorem dX5_readDates_39 : decode cX5_readDates 39 = .ok (.ldc2_w 89, 3) := by decide +kernel
theorem dX5_readDates_42 : decode cX5_readDates 42 = .ok (.lmul, 1) := by decide +kernel
theorem dX5_readDates_43 : decode cX5_readDates 43 = .ok (.lstore_n 2, 1) := by decide +kernel
theorem dX5_readDates_44 : decode cX5_readDates 44 = .ok (.aload_n 0, 1) := by decide +kernel
theorem dX5_readDates_45 : decode cX5_readDates 45 = .ok (.getfield 47, 3) := by decide +kernel
theorem dX5_readDates_48 : decode cX5_readDates 48 = .ok (.iconst 0, 1) := by decide +kernel
theorem dX5_readDates_49 : decode cX5_readDates 49 = .ok (.aaload, 1) := by decide +kernel
theorem dX5_readDates_50 : decode cX5_readDates 50 = .ok (.iload 4, 2) := by decide +kernel
theorem dX5_readDates_52 : decode cX5_readDates 52 = .ok (.iload 4, 2) := by decide +kernel
theorem dX5_readDates_54 : decode cX5_readDates 54 = .ok (.iconst 1, 1) := by decide +kernel
theorem dX5_readDates_55 : decode cX5_readDates 55 = .ok (.if_icmp .ne 7, 3) := by decide +kernel
theorem dX5_readDates_58 : decode cX5_readDates 58 = .ok (.lconst 0, 1) := by decide +kernel
theorem dX5_readDates_59 : decode cX5_readDates 59 = .ok (.goto 14, 3) := by decide +kernel
theorem dX5_readDates_62 : decode cX5_readDates 62 = .ok (.aload_n 0, 1) := by decide +kernel
theorem dX5_readDates_63 : decode cX5_readDates 63 = .ok (.getfield 47, 3) := by decide +kernel
theorem dX5_readDates_66 : decode cX5_readDates 66 = .ok (.iconst 0, 1) := by decide +kernel
theorem dX5_readDates_67 : decode cX5_readDates 67 = .ok (.aaload, 1) := by decide +kernel
theorem dX5_readDates_68 : decode cX5_readDates 68 = .ok (.iload 4, 2) := by decide +kernel
theorem dX5_readDates_70 : decode cX5_readDates 70 = .ok (.iconst 1, 1) := by decide +kernel
theorem dX5_readDates_71 : decode cX5_readDates 71 = .ok (.isub, 1) := by decide +kernel
theorem dX5_readDates_72 : decode cX5_readDates 72 = .ok (.laload, 1) := by decide +kernel
theorem dX5_readDates_73 : decode cX5_readDates 73 = .ok (.lload_n 2, 1) := by decide +kernel
theorem dX5_readDates_74 : decode cX5_readDates 74 = .ok (.aload_n 1, 1) := by decide +kernel
theorem dX5_readDates_75 : decode cX5_readDates 75 = .ok (.iload 4, 2) := by decide +kernel
theorem dX5_readDates_77 : decode cX5_readDates 77 = .ok (.invokevirtual 91, 3) := by decide +kernel
theorem dX5_readDates_80 : decode cX5_readDates 80 = .ok (.i2l, 1) := by decide +kernel
theorem dX5_readDates_81 : decode cX5_readDates 81 = .ok (.lmul, 1) := by decide +kernel
theorem dX5_readDates_82 : decode cX5_readDates 82 = .ok (.ladd, 1) := by decide +kernel
theorem dX5_readDates_83 : decode cX5_readDates 83 = .ok (.lastore, 1) := by decide +kernel
theorem dX5_readDates_84 : decode cX5_readDates 84 = .ok (.iconst 0, 1) := by decide +kernel
theorem dX5_readDates_85 : decode cX5_readDates 85 = .ok (.istore 6, 2) := by decide +kernel
theorem dX5_readDates_87 : decode cX5_readDates 87 = .ok (.iload 6, 2) := by decide +kernel
theorem dX5_readDates_89 : decode cX5_readDates 89 = .ok (.aload_n 0, 1) := by decide +kernel
theorem dX5_readDates_90 : decode cX5_readDates 90 = .ok (.getfield 29, 3) := by decide +kernel
theorem dX5_readDates_93 : decode cX5_readDates 93 = .ok (.if_icmp .ge 57, 3) := by decide +kernel
theorem dX5_readDates_96 : decode cX5_readDates 96 = .ok (.iload 4, 2) := by decide +kernel
theorem dX5_readDates_98 : decode cX5_readDates 98 = .ok (.iconst 1, 1) := by decide +kernel
theorem dX5_readDates_99 : decode cX5_readDates 99 = .ok (.if_icmp .ne 7, 3) := by decide +kernel
theorem dX5_readDates_102 : decode cX5_readDates 102 = .ok (.lconst 0, 1) := by decide +kernel
theorem dX5_readDates_103 : decode cX5_readDates 103 = .ok (.goto 15, 3) := by decide +kernel
theorem dX5_readDates_106 : decode cX5_readDates 106 = .ok (.aload_n 0, 1) := by decide +kernel
theorem dX5_readDates_107 : decode cX5_readDates 107 = .ok (.getfield 41, 3) := by decide +kernel
theorem dX5_readDates_110 : decode cX5_readDates 110 = .ok (.iload 6, 2) := by decide +kernel
theorem dX5_readDates_112 : decode cX5_readDates 112 = .ok (.aaload, 1) := by decide +kernel
theorem dX5_readDates_113 : decode cX5_readDates 113 = .ok (.iload 4, 2) := by decide +kernel
theorem dX5_readDates_115 : decode cX5_readDates 115 = .ok (.iconst 1, 1) := by decide +kernel
theorem dX5_readDates_116 : decode cX5_readDates 116 = .ok (.isub, 1) := by decide +kernel
theorem dX5_readDates_117 : decode cX5_readDates 117 = .ok (.laload, 1) := by decide +kernel
theorem dX5_readDates_118 : decode cX5_readDates 118 = .ok (.lstore 7, 2) := by decide +kernel
theorem dX5_readDates_120 : decode cX5_readDates 120 = .ok (.aload_n 0, 1) := by decide +kernel
theorem dX5_readDates_121 : decode cX5_readDates 121 = .ok (.getfield 41, 3) := by decide +kernel
theorem dX5_readDates_124 : decode cX5_readDates 124 = .ok (.iload 6, 2) := by decide +kernel
theorem dX5_readDates_126 : decode cX5_readDates 126 = .ok (.aaload, 1) := by decide +kernel
theorem dX5_readDates_127 : decode cX5_readDates 127 = .ok (.iload 4, 2) := by decide +kernel
theorem dX5_readDates_129 : decode cX5_readDates 129 = .ok (.lload 7, 2) := by decide +kernel
theorem dX5_readDates_131 : decode cX5_readDates 131 = .ok (.lload_n 2, 1) := by decide +kernel
theorem dX5_readDates_132 : decode cX5_readDates 132 = .ok (.aload_n 1, 1) := by decide +kernel
theorem dX5_readDates_133 : decode cX5_readDates 133 = .ok (.iload 6, 2) := by decide +kernel
theorem dX5_readDates_135 : decode cX5_readDates 135 = .ok (.iload 4, 2) := by decide +kernel
theorem dX5_readDates_137 : decode cX5_readDates 137 = .ok (.invokevirtual 94, 3) := by decide +kernel
theorem dX5_readDates_140 : decode cX5_readDates 140 = .ok (.i2l, 1) := by decide +kernel
theorem dX5_readDates_141 : decode cX5_readDates 141 = .ok (.lmul, 1) := by decide +kernel
theorem dX5_readDates_142 : decode cX5_readDates 142 = .ok (.ladd, 1) := by decide +kernel
theorem dX5_readDates_143 : decode cX5_readDates 143 = .ok (.lastore, 1) := by decide +kernel
theorem dX5_readDates_144 : decode cX5_readDates 144 = .ok (.iinc 6 1, 3) := by decide +kernel
theorem dX5_readDates_147 : decode cX5_readDates 147 = .ok (.goto (-60), 3) := by decide +kernel
theorem dX5_readDates_150 : decode cX5_readDates 150 = .ok (.iinc 4 1, 3) := by decide +kernel
theorem dX5_readDates_153 : decode cX5_readDates 153 = .ok (.goto (-145), 3) := by decide +kernel
theorem dX5_readDates_156 : decode cX5_readDates 156 = .ok (.return_, 1) := by decide +kernel
theorem dX5_search_0 : decode cX5_search 0 = .ok (.iload_n 1, 1) := by decide +kernel
theorem dX5_search_1 : decode cX5_search 1 = .ok (.aload_n 0, 1) := by decide +kernel
theorem dX5_search_2 : decode cX5_search 2 = .ok (.getfield 29, 3) := by decide +kernel
theorem dX5_search_5 : decode cX5_search 5 = .ok (.if_icmp .lt 8, 3) := by decide +kernel
theorem dX5_search_8 : decode cX5_search 8 = .ok (.aload_n 0, 1) := by decide +kernel
theorem dX5_search_9 : decode cX5_search 9 = .ok (.invokevirtual 97, 3) := by decide +kernel
theorem dX5_search_12 : decode cX5_search 12 = .ok (.return_, 1) := by decide +kernel
theorem dX5_search_13 : decode cX5_search 13 = .ok (.ldc2_w 68, 3) := by decide +kernel
theorem dX5_search_16 : decode cX5_search 16 = .ok (.lstore_n 2, 1) := by decide +kernel
theorem dX5_search_17 : decode cX5_search 17 = .ok (.iconst 0, 1) := by decide +kernel
theorem dX5_search_18 : decode cX5_search 18 = .ok (.istore 4, 2) := by decide +kernel
theorem dX5_search_20 : decode cX5_search 20 = .ok (.iload 4, 2) := by decide +kernel
theorem dX5_search_22 : decode cX5_search 22 = .ok (.aload_n 0, 1) := by decide +kernel
theorem dX5_search_23 : decode cX5_search 23 = .ok (.getfield 36, 3) := by decide +kernel
theorem dX5_search_26 : decode cX5_search 26 = .ok (.iload_n 1, 1) := by decide +kernel
theorem dX5_search_27 : decode cX5_search 27 = .ok (.iaload, 1) := by decide +kernel
theorem dX5_search_28 : decode cX5_search 28 = .ok (.if_icmp .gt 56, 3) := by decide +kernel
theorem dX5_search_31 : decode cX5_search 31 = .ok (.aload_n 0, 1) := by decide +kernel
theorem dX5_search_32 : decode cX5_search 32 = .ok (.iload_n 1, 1) := by decide +kernel
theorem dX5_search_33 : decode cX5_search 33 = .ok (.iload 4, 2) := by decide +kernel
theorem dX5_search_35 : decode cX5_search 35 = .ok (.invokevirtual 100, 3) := by decide +kernel
theorem dX5_search_38 : decode cX5_search 38 = .ok (.aload_n 0, 1) := by decide +kernel
theorem dX5_search_39 : decode cX5_search 39 = .ok (.iload_n 1, 1) := by decide +kernel
theorem dX5_search_40 : decode cX5_search 40 = .ok (.iconst 1, 1) := by decide +kernel
theorem dX5_search_41 : decode cX5_search 41 = .ok (.iadd, 1) := by decide +kernel
theorem dX5_search_42 : decode cX5_search 42 = .ok (.invokevirtual 104, 3) := by decide +kernel
theorem dX5_search_45 : decode cX5_search 45 = .ok (.lstore 5, 2) := by decide +kernel
theorem dX5_search_47 : decode cX5_search 47 = .ok (.lload 5, 2) := by decide +kernel
theorem dX5_search_49 : decode cX5_search 49 = .ok (.aload_n 0, 1) := by decide +kernel
theorem dX5_search_50 : decode cX5_search 50 = .ok (.getfield 15, 3) := by decide +kernel
theorem dX5_search_53 : decode cX5_search 53 = .ok (.lcmp, 1) := by decide +kernel
theorem dX5_search_54 : decode cX5_search 54 = .ok (.ifCond .ge 13, 3) := by decide +kernel
theorem dX5_search_57 : decode cX5_search 57 = .ok (.aload_n 0, 1) := by decide +kernel
theorem dX5_search_58 : decode cX5_search 58 = .ok (.iload_n 1, 1) := by decide +kernel
theorem dX5_search_59 : decode cX5_search 59 = .ok (.iconst 1, 1) := by decide +kernel
theorem dX5_search_60 : decode cX5_search 60 = .ok (.iadd, 1) := by decide +kernel
theorem dX5_search_61 : decode cX5_search 61 = .ok (.invokevirtual 70, 3) := by decide +kernel
theorem dX5_search_64 : decode cX5_search 64 = .ok (.goto 11, 3) := by decide +kernel
theorem dX5_search_67 : decode cX5_search 67 = .ok (.lload 5, 2) := by decide +kernel
theorem dX5_search_69 : decode cX5_search 69 = .ok (.lload_n 2, 1) := by decide +kernel
theorem dX5_search_70 : decode cX5_search 70 = .ok (.lcmp, 1) := by decide +kernel
theorem dX5_search_71 : decode cX5_search 71 = .ok (.ifCond .lt 4, 3) := by decide +kernel
theorem dX5_search_74 : decode cX5_search 74 = .ok (.return_, 1) := by decide +kernel
theorem dX5_search_75 : decode cX5_search 75 = .ok (.lload 5, 2) := by decide +kernel
theorem dX5_search_77 : decode cX5_search 77 = .ok (.lstore_n 2, 1) := by decide +kernel
theorem dX5_search_78 : decode cX5_search 78 = .ok (.iinc 4 1, 3) := by decide +kernel
theorem dX5_search_81 : decode cX5_search 81 = .ok (.goto (-61), 3) := by decide +kernel
theorem dX5_search_84 : decode cX5_search 84 = .ok (.return_, 1) := by decide +kernel
theorem dX5_choose_0 : decode cX5_choose 0 = .ok (.aload_n 0, 1) := by decide +kernel
theorem dX5_choose_1 : decode cX5_choose 1 = .ok (.getfield 53, 3) := by decide +kernel
theorem dX5_choose_4 : decode cX5_choose 4 = .ok (.iload_n 1, 1) := by decide +kernel
theorem dX5_choose_5 : decode cX5_choose 5 = .ok (.iload_n 2, 1) := by decide +kernel
theorem dX5_choose_6 : decode cX5_choose 6 = .ok (.iastore, 1) := by decide +kernel
theorem dX5_choose_7 : decode cX5_choose 7 = .ok (.aload_n 0, 1) := by decide +kernel
theorem dX5_choose_8 : decode cX5_choose 8 = .ok (.getfield 50, 3) := by decide +kernel
theorem dX5_choose_11 : decode cX5_choose 11 = .ok (.iload_n 1, 1) := by decide +kernel
theorem dX5_choose_12 : decode cX5_choose 12 = .ok (.iconst 1, 1) := by decide +kernel
theorem dX5_choose_13 : decode cX5_choose 13 = .ok (.iadd, 1) := by decide +kernel
theorem dX5_choose_14 : decode cX5_choose 14 = .ok (.aload_n 0, 1) := by decide +kernel
theorem dX5_choose_15 : decode cX5_choose 15 = .ok (.getfield 50, 3) := by decide +kernel
theorem dX5_choose_18 : decode cX5_choose 18 = .ok (.iload_n 1, 1) := by decide +kernel
theorem dX5_choose_19 : decode cX5_choose 19 = .ok (.laload, 1) := by decide +kernel
theorem dX5_choose_20 : decode cX5_choose 20 = .ok (.iload_n 2, 1) := by decide +kernel
theorem dX5_choose_21 : decode cX5_choose 21 = .ok (.i2l, 1) := by decide +kernel
theorem dX5_choose_22 : decode cX5_choose 22 = .ok (.aload_n 0, 1) := by decide +kernel
theorem dX5_choose_23 : decode cX5_choose 23 = .ok (.getfield 32, 3) := by decide +kernel
theorem dX5_choose_26 : decode cX5_choose 26 = .ok (.iload_n 1, 1) := by decide +kernel
theorem dX5_choose_27 : decode cX5_choose 27 = .ok (.laload, 1) := by decide +kernel
theorem dX5_choose_28 : decode cX5_choose 28 = .ok (.lmul, 1) := by decide +kernel
theorem dX5_choose_29 : decode cX5_choose 29 = .ok (.ladd, 1) := by decide +kernel
theorem dX5_choose_30 : decode cX5_choose 30 = .ok (.lastore, 1) := by decide +kernel
theorem dX5_choose_31 : decode cX5_choose 31 = .ok (.iconst 1, 1) := by decide +kernel
theorem dX5_choose_32 : decode cX5_choose 32 = .ok (.istore_n 3, 1) := by decide +kernel
theorem dX5_choose_33 : decode cX5_choose 33 = .ok (.iload_n 3, 1) := by decide +kernel
theorem dX5_choose_34 : decode cX5_choose 34 = .ok (.aload_n 0, 1) := by decide +kernel
theorem dX5_choose_35 : decode cX5_choose 35 = .ok (.getfield 25, 3) := by decide +kernel
theorem dX5_choose_38 : decode cX5_choose 38 = .ok (.if_icmp .gt 39, 3) := by decide +kernel
theorem dX5_choose_41 : decode cX5_choose 41 = .ok (.aload_n 0, 1) := by decide +kernel
theorem dX5_choose_42 : decode cX5_choose 42 = .ok (.getfield 47, 3) := by decide +kernel
theorem dX5_choose_45 : decode cX5_choose 45 = .ok (.iload_n 1, 1) := by decide +kernel
theorem dX5_choose_46 : decode cX5_choose 46 = .ok (.iconst 1, 1) := by decide +kernel
theorem dX5_choose_47 : decode cX5_choose 47 = .ok (.iadd, 1) := by decide +kernel
theorem dX5_choose_48 : decode cX5_choose 48 = .ok (.aaload, 1) := by decide +kernel
theorem dX5_choose_49 : decode cX5_choose 49 = .ok (.iload_n 3, 1) := by decide +kernel
theorem dX5_choose_50 : decode cX5_choose 50 = .ok (.aload_n 0, 1) := by decide +kernel
theorem dX5_choose_51 : decode cX5_choose 51 = .ok (.getfield 47, 3) := by decide +kernel
theorem dX5_choose_54 : decode cX5_choose 54 = .ok (.iload_n 1, 1) := by decide +kernel
theorem dX5_choose_55 : decode cX5_choose 55 = .ok (.aaload, 1) := by decide +kernel
theorem dX5_choose_56 : decode cX5_choose 56 = .ok (.iload_n 3, 1) := by decide +kernel
theorem dX5_choose_57 : decode cX5_choose 57 = .ok (.laload, 1) := by decide +kernel
theorem dX5_choose_58 : decode cX5_choose 58 = .ok (.iload_n 2, 1) := by decide +kernel
theorem dX5_choose_59 : decode cX5_choose 59 = .ok (.i2l, 1) := by decide +kernel
theorem dX5_choose_60 : decode cX5_choose 60 = .ok (.aload_n 0, 1) := by decide +kernel
theorem dX5_choose_61 : decode cX5_choose 61 = .ok (.getfield 41, 3) := by decide +kernel
theorem dX5_choose_64 : decode cX5_choose 64 = .ok (.iload_n 1, 1) := by decide +kernel
theorem dX5_choose_65 : decode cX5_choose 65 = .ok (.aaload, 1) := by decide +kernel
theorem dX5_choose_66 : decode cX5_choose 66 = .ok (.iload_n 3, 1) := by decide +kernel
theorem dX5_choose_67 : decode cX5_choose 67 = .ok (.laload, 1) := by decide +kernel
theorem dX5_choose_68 : decode cX5_choose 68 = .ok (.lmul, 1) := by decide +kernel
theorem dX5_choose_69 : decode cX5_choose 69 = .ok (.lsub, 1) := by decide +kernel
theorem dX5_choose_70 : decode cX5_choose 70 = .ok (.lastore, 1) := by decide +kernel
theorem dX5_choose_71 : decode cX5_choose 71 = .ok (.iinc 3 1, 3) := by decide +kernel
theorem dX5_choose_74 : decode cX5_choose 74 = .ok (.goto (-41), 3) := by decide +kernel
theorem dX5_choose_77 : decode cX5_choose 77 = .ok (.return_, 1) := by decide +kernel
theorem dX5_leastCost_0 : decode cX5_leastCost 0 = .ok (.lconst 0, 1) := by decide +kernel
theorem dX5_leastCost_1 : decode cX5_leastCost 1 = .ok (.lstore_n 2, 1) := by decide +kernel
theorem dX5_leastCost_2 : decode cX5_leastCost 2 = .ok (.iconst 1, 1) := by decide +kernel
theorem dX5_leastCost_3 : decode cX5_leastCost 3 = .ok (.istore 4, 2) := by decide +kernel
theorem dX5_leastCost_5 : decode cX5_leastCost 5 = .ok (.iload 4, 2) := by decide +kernel
theorem dX5_leastCost_7 : decode cX5_leastCost 7 = .ok (.aload_n 0, 1) := by decide +kernel
theorem dX5_leastCost_8 : decode cX5_leastCost 8 = .ok (.getfield 25, 3) := by decide +kernel
theorem dX5_leastCost_11 : decode cX5_leastCost 11 = .ok (.if_icmp .gt 33, 3) := by decide +kernel
theorem dX5_leastCost_14 : decode cX5_leastCost 14 = .ok (.lload_n 2, 1) := by decide +kernel
theorem dX5_leastCost_15 : decode cX5_leastCost 15 = .ok (.aload_n 0, 1) := by decide +kernel
theorem dX5_leastCost_16 : decode cX5_leastCost 16 = .ok (.getfield 47, 3) := by decide +kernel
theorem dX5_leastCost_19 : decode cX5_leastCost 19 = .ok (.iload_n 1, 1) := by decide +kernel
theorem dX5_leastCost_20 : decode cX5_leastCost 20 = .ok (.aaload, 1) := by decide +kernel
theorem dX5_leastCost_21 : decode cX5_leastCost 21 = .ok (.iload 4, 2) := by decide +kernel
theorem dX5_leastCost_23 : decode cX5_leastCost 23 = .ok (.laload, 1) := by decide +kernel
theorem dX5_leastCost_24 : decode cX5_leastCost 24 = .ok (.aload_n 0, 1) := by decide +kernel
theorem dX5_leastCost_25 : decode cX5_leastCost 25 = .ok (.getfield 44, 3) := by decide +kernel
theorem dX5_leastCost_28 : decode cX5_leastCost 28 = .ok (.iload_n 1, 1) := by decide +kernel
theorem dX5_leastCost_29 : decode cX5_leastCost 29 = .ok (.aaload, 1) := by decide +kernel
theorem dX5_leastCost_30 : decode cX5_leastCost 30 = .ok (.iload 4, 2) := by decide +kernel
theorem dX5_leastCost_32 : decode cX5_leastCost 32 = .ok (.laload, 1) := by decide +kernel
theorem dX5_leastCost_33 : decode cX5_leastCost 33 = .ok (.lsub, 1) := by decide +kernel
theorem dX5_leastCost_34 : decode cX5_leastCost 34 = .ok (.invokestatic 60, 3) := by decide +kernel
theorem dX5_leastCost_37 : decode cX5_leastCost 37 = .ok (.lstore_n 2, 1) := by decide +kernel
theorem dX5_leastCost_38 : decode cX5_leastCost 38 = .ok (.iinc 4 1, 3) := by decide +kernel
theorem dX5_leastCost_41 : decode cX5_leastCost 41 = .ok (.goto (-36), 3) := by decide +kernel
theorem dX5_leastCost_44 : decode cX5_leastCost 44 = .ok (.aload_n 0, 1) := by decide +kernel
theorem dX5_leastCost_45 : decode cX5_leastCost 45 = .ok (.getfield 50, 3) := by decide +kernel
theorem dX5_leastCost_48 : decode cX5_leastCost 48 = .ok (.iload_n 1, 1) := by decide +kernel
theorem dX5_leastCost_49 : decode cX5_leastCost 49 = .ok (.laload, 1) := by decide +kernel
theorem dX5_leastCost_50 : decode cX5_leastCost 50 = .ok (.lload_n 2, 1) := by decide +kernel
theorem dX5_leastCost_51 : decode cX5_leastCost 51 = .ok (.ladd, 1) := by decide +kernel
theorem dX5_leastCost_52 : decode cX5_leastCost 52 = .ok (.lreturn, 1) := by decide +kernel
theorem dX5_keep_0 : decode cX5_keep 0 = .ok (.aload_n 0, 1) := by decide +kernel
theorem dX5_keep_1 : decode cX5_keep 1 = .ok (.aload_n 0, 1) := by decide +kernel
theorem dX5_keep_2 : decode cX5_keep 2 = .ok (.aload_n 0, 1) := by decide +kernel
theorem dX5_keep_3 : decode cX5_keep 3 = .ok (.getfield 29, 3) := by decide +kernel
theorem dX5_keep_6 : decode cX5_keep 6 = .ok (.invokevirtual 104, 3) := by decide +kernel
theorem dX5_keep_9 : decode cX5_keep 9 = .ok (.putfield 15, 3) := by decide +kernel
theorem dX5_keep_12 : decode cX5_keep 12 = .ok (.aload_n 0, 1) := by decide +kernel
theorem dX5_keep_13 : decode cX5_keep 13 = .ok (.aload_n 0, 1) := by decide +kernel
theorem dX5_keep_14 : decode cX5_keep 14 = .ok (.getfield 15, 3) := by decide +kernel
theorem dX5_keep_17 : decode cX5_keep 17 = .ok (.aload_n 0, 1) := by decide +kernel
theorem dX5_keep_18 : decode cX5_keep 18 = .ok (.getfield 50, 3) := by decide +kernel
theorem dX5_keep_21 : decode cX5_keep 21 = .ok (.aload_n 0, 1) := by decide +kernel
theorem dX5_keep_22 : decode cX5_keep 22 = .ok (.getfield 29, 3) := by decide +kernel
theorem dX5_keep_25 : decode cX5_keep 25 = .ok (.laload, 1) := by decide +kernel
theorem dX5_keep_26 : decode cX5_keep 26 = .ok (.lsub, 1) := by decide +kernel
theorem dX5_keep_27 : decode cX5_keep 27 = .ok (.putfield 18, 3) := by decide +kernel
theorem dX5_keep_30 : decode cX5_keep 30 = .ok (.iconst 0, 1) := by decide +kernel
theorem dX5_keep_31 : decode cX5_keep 31 = .ok (.istore_n 1, 1) := by decide +kernel
theorem dX5_keep_32 : decode cX5_keep 32 = .ok (.iload_n 1, 1) := by decide +kernel
theorem dX5_keep_33 : decode cX5_keep 33 = .ok (.aload_n 0, 1) := by decide +kernel
theorem dX5_keep_34 : decode cX5_keep 34 = .ok (.getfield 29, 3) := by decide +kernel
theorem dX5_keep_37 : decode cX5_keep 37 = .ok (.if_icmp .ge 21, 3) := by decide +kernel
theorem dX5_keep_40 : decode cX5_keep 40 = .ok (.aload_n 0, 1) := by decide +kernel
theorem dX5_keep_41 : decode cX5_keep 41 = .ok (.getfield 21, 3) := by decide +kernel
theorem dX5_keep_44 : decode cX5_keep 44 = .ok (.iload_n 1, 1) := by decide +kernel
theorem dX5_keep_45 : decode cX5_keep 45 = .ok (.aload_n 0, 1) := by decide +kernel
theorem dX5_keep_46 : decode cX5_keep 46 = .ok (.getfield 53, 3) := by decide +kernel
theorem dX5_keep_49 : decode cX5_keep 49 = .ok (.iload_n 1, 1) := by decide +kernel
theorem dX5_keep_50 : decode cX5_keep 50 = .ok (.iaload, 1) := by decide +kernel
theorem dX5_keep_51 : decode cX5_keep 51 = .ok (.iastore, 1) := by decide +kernel
theorem dX5_keep_52 : decode cX5_keep 52 = .ok (.iinc 1 1, 3) := by decide +kernel
theorem dX5_keep_55 : decode cX5_keep 55 = .ok (.goto (-23), 3) := by decide +kernel
theorem dX5_keep_58 : decode cX5_keep 58 = .ok (.return_, 1) := by decide +kernel
theorem dX6_init_0 : decode cX6_init 0 = .ok (.aload_n 0, 1) := by decide +kernel
theorem dX6_init_1 : decode cX6_init 1 = .ok (.invokespecial 3, 3) := by decide +kernel
theorem dX6_init_4 : decode cX6_init 4 = .ok (.aload_n 0, 1) := by decide +kernel
theorem dX6_init_5 : decode cX6_init 5 = .ok (.iconst 1, 1) := by decide +kernel
theorem dX6_init_6 : decode cX6_init 6 = .ok (.putfield 9, 3) := by decide +kernel
theorem dX6_init_9 : decode cX6_init 9 = .ok (.aload_n 0, 1) := by decide +kernel
theorem dX6_init_10 : decode cX6_init 10 = .ok (.iconst 0, 1) := by decide +kernel
theorem dX6_init_11 : decode cX6_init 11 = .ok (.putfield 15, 3) := by decide +kernel
theorem dX6_init_14 : decode cX6_init 14 = .ok (.aload_n 0, 1) := by decide +kernel
theorem dX6_init_15 : decode cX6_init 15 = .ok (.iconst 5, 1) := by decide +kernel
theorem dX6_init_16 : decode cX6_init 16 = .ok (.newarray .int, 2) := by decide +kernel
theorem dX6_init_18 : decode cX6_init 18 = .ok (.putfield 18, 3) := by decide +kernel
theorem dX6_init_21 : decode cX6_init 21 = .ok (.aload_n 0, 1) := by decide +kernel
theorem dX6_init_22 : decode cX6_init 22 = .ok (.iconst 5, 1) := by decide +kernel
theorem dX6_init_23 : decode cX6_init 23 = .ok (.newarray .int, 2) := by decide +kernel
theorem dX6_init_25 : decode cX6_init 25 = .ok (.putfield 22, 3) := by decide +kernel
theorem dX6_init_28 : decode cX6_init 28 = .ok (.aload_n 0, 1) := by decide +kernel
theorem dX6_init_29 : decode cX6_init 29 = .ok (.bipush 35, 2) := by decide +kernel
theorem dX6_init_31 : decode cX6_init 31 = .ok (.newarray .int, 2) := by decide +kernel
theorem dX6_init_33 : decode cX6_init 33 = .ok (.putfield 25, 3) := by decide +kernel
theorem dX6_init_36 : decode cX6_init 36 = .ok (.return_, 1) := by decide +kernel
theorem dX6_begin_0 : decode cX6_begin 0 = .ok (.aload_n 0, 1) := by decide +kernel
theorem dX6_begin_1 : decode cX6_begin 1 = .ok (.iload_n 1, 1) := by decide +kernel
theorem dX6_begin_2 : decode cX6_begin 2 = .ok (.putfield 9, 3) := by decide +kernel
theorem dX6_begin_5 : decode cX6_begin 5 = .ok (.aload_n 0, 1) := by decide +kernel
theorem dX6_begin_6 : decode cX6_begin 6 = .ok (.iconst 0, 1) := by decide +kernel
theorem dX6_begin_7 : decode cX6_begin 7 = .ok (.putfield 15, 3) := by decide +kernel
theorem dX6_begin_10 : decode cX6_begin 10 = .ok (.iconst 0, 1) := by decide +kernel
theorem dX6_begin_11 : decode cX6_begin 11 = .ok (.istore_n 2, 1) := by decide +kernel
theorem dX6_begin_12 : decode cX6_begin 12 = .ok (.iload_n 2, 1) := by decide +kernel
theorem dX6_begin_13 : decode cX6_begin 13 = .ok (.aload_n 0, 1) := by decide +kernel
theorem dX6_begin_14 : decode cX6_begin 14 = .ok (.getfield 18, 3) := by decide +kernel
theorem dX6_begin_17 : decode cX6_begin 17 = .ok (.arraylength, 1) := by decide +kernel
theorem dX6_begin_18 : decode cX6_begin 18 = .ok (.if_icmp .ge 23, 3) := by decide +kernel
theorem dX6_begin_21 : decode cX6_begin 21 = .ok (.aload_n 0, 1) := by decide +kernel
theorem dX6_begin_22 : decode cX6_begin 22 = .ok (.getfield 18, 3) := by decide +kernel
theorem dX6_begin_25 : decode cX6_begin 25 = .ok (.iload_n 2, 1) := by decide +kernel
theorem dX6_begin_26 : decode cX6_begin 26 = .ok (.iconst 0, 1) := by decide +kernel
theorem dX6_begin_27 : decode cX6_begin 27 = .ok (.iastore, 1) := by decide +kernel
theorem dX6_begin_28 : decode cX6_begin 28 = .ok (.aload_n 0, 1) := by decide +kernel
theorem dX6_begin_29 : decode cX6_begin 29 = .ok (.getfield 22, 3) := by decide +kernel
theorem dX6_begin_32 : decode cX6_begin 32 = .ok (.iload_n 2, 1) := by decide +kernel
theorem dX6_begin_33 : decode cX6_begin 33 = .ok (.iconst 0, 1) := by decide +kernel
theorem dX6_begin_34 : decode cX6_begin 34 = .ok (.iastore, 1) := by decide +kernel
theorem dX6_begin_35 : decode cX6_begin 35 = .ok (.iinc 2 1, 3) := by decide +kernel
theorem dX6_begin_38 : decode cX6_begin 38 = .ok (.goto (-26), 3) := by decide +kernel
theorem dX6_begin_41 : decode cX6_begin 41 = .ok (.return_, 1) := by decide +kernel
theorem dX6_copyFrom_0 : decode cX6_copyFrom 0 = .ok (.aload_n 0, 1) := by decide +kernel
theorem dX6_copyFrom_1 : decode cX6_copyFrom 1 = .ok (.aload_n 1, 1) := by decide +kernel
theorem dX6_copyFrom_2 : decode cX6_copyFrom 2 = .ok (.getfield 9, 3) := by decide +kernel
theorem dX6_copyFrom_5 : decode cX6_copyFrom 5 = .ok (.putfield 9, 3) := by decide +kernel
theorem dX6_copyFrom_8 : decode cX6_copyFrom 8 = .ok (.aload_n 0, 1) := by decide +kernel
theorem dX6_copyFrom_9 : decode cX6_copyFrom 9 = .ok (.aload_n 1, 1) := by decide +kernel
theorem dX6_copyFrom_10 : decode cX6_copyFrom 10 = .ok (.getfield 15, 3) := by decide +kernel
theorem dX6_copyFrom_13 : decode cX6_copyFrom 13 = .ok (.putfield 15, 3) := by decide +kernel
theorem dX6_copyFrom_16 : decode cX6_copyFrom 16 = .ok (.aload_n 1, 1) := by decide +kernel
theorem dX6_copyFrom_17 : decode cX6_copyFrom 17 = .ok (.getfield 18, 3) := by decide +kernel
theorem dX6_copyFrom_20 : decode cX6_copyFrom 20 = .ok (.iconst 0, 1) := by decide +kernel
theorem dX6_copyFrom_21 : decode cX6_copyFrom 21 = .ok (.aload_n 0, 1) := by decide +kernel
theorem dX6_copyFrom_22 : decode cX6_copyFrom 22 = .ok (.getfield 18, 3) := by decide +kernel
theorem dX6_copyFrom_25 : decode cX6_copyFrom 25 = .ok (.iconst 0, 1) := by decide +kernel
theorem dX6_copyFrom_26 : decode cX6_copyFrom 26 = .ok (.iconst 5, 1) := by decide +kernel
theorem dX6_copyFrom_27 : decode cX6_copyFrom 27 = .ok (.invokestatic 28, 3) := by decide +kernel
theorem dX6_copyFrom_30 : decode cX6_copyFrom 30 = .ok (.aload_n 1, 1) := by decide +kernel
theorem dX6_copyFrom_31 : decode cX6_copyFrom 31 = .ok (.getfield 22, 3) := by decide +kernel
theorem dX6_copyFrom_34 : decode cX6_copyFrom 34 = .ok (.iconst 0, 1) := by decide +kernel
theorem dX6_copyFrom_35 : decode cX6_copyFrom 35 = .ok (.aload_n 0, 1) := by decide +kernel
theorem dX6_copyFrom_36 : decode cX6_copyFrom 36 = .ok (.getfield 22, 3) := by decide +kernel
theorem dX6_copyFrom_39 : decode cX6_copyFrom 39 = .ok (.iconst 0, 1) := by decide +kernel
theorem dX6_copyFrom_40 : decode cX6_copyFrom 40 = .ok (.iconst 5, 1) := by decide +kernel
theorem dX6_copyFrom_41 : decode cX6_copyFrom 41 = .ok (.invokestatic 28, 3) := by decide +kernel
theorem dX6_copyFrom_44 : decode cX6_copyFrom 44 = .ok (.aload_n 1, 1) := by decide +kernel
theorem dX6_copyFrom_45 : decode cX6_copyFrom 45 = .ok (.getfield 25, 3) := by decide +kernel
theorem dX6_copyFrom_48 : decode cX6_copyFrom 48 = .ok (.iconst 0, 1) := by decide +kernel
theorem dX6_copyFrom_49 : decode cX6_copyFrom 49 = .ok (.aload_n 0, 1) := by decide +kernel
theorem dX6_copyFrom_50 : decode cX6_copyFrom 50 = .ok (.getfield 25, 3) := by decide +kernel
theorem dX6_copyFrom_53 : decode cX6_copyFrom 53 = .ok (.iconst 0, 1) := by decide +kernel
theorem dX6_copyFrom_54 : decode cX6_copyFrom 54 = .ok (.bipush 35, 2) := by decide +kernel
theorem dX6_copyFrom_56 : decode cX6_copyFrom 56 = .ok (.invokestatic 28, 3) := by decide +kernel
theorem dX6_copyFrom_59 : decode cX6_copyFrom 59 = .ok (.return_, 1) := by decide +kernel
theorem dX6_fits_0 : decode cX6_fits 0 = .ok (.iload_n 1, 1) := by decide +kernel
theorem dX6_fits_1 : decode cX6_fits 1 = .ok (.ifCond .lt 19, 3) := by decide +kernel
theorem dX6_fits_4 : decode cX6_fits 4 = .ok (.iload_n 1, 1) := by decide +kernel
theorem dX6_fits_5 : decode cX6_fits 5 = .ok (.getstatic 34, 3) := by decide +kernel
theorem dX6_fits_8 : decode cX6_fits 8 = .ok (.arraylength, 1) := by decide +kernel
theorem dX6_fits_9 : decode cX6_fits 9 = .ok (.if_icmp .ge 11, 3) := by decide +kernel
theorem dX6_fits_12 : decode cX6_fits 12 = .ok (.iload_n 1, 1) := by decide +kernel
theorem dX6_fits_13 : decode cX6_fits 13 = .ok (.getstatic 37, 3) := by decide +kernel
theorem dX6_fits_16 : decode cX6_fits 16 = .ok (.arraylength, 1) := by decide +kernel
theorem dX6_fits_17 : decode cX6_fits 17 = .ok (.if_icmp .lt 5, 3) := by decide +kernel
theorem dX6_fits_20 : decode cX6_fits 20 = .ok (.iconst 0, 1) := by decide +kernel
theorem dX6_fits_21 : decode cX6_fits 21 = .ok (.ireturn, 1) := by decide +kernel
theorem dX6_fits_22 : decode cX6_fits 22 = .ok (.iload_n 2, 1) := by decide +kernel
theorem dX6_fits_23 : decode cX6_fits 23 = .ok (.getstatic 34, 3) := by decide +kernel
theorem dX6_fits_26 : decode cX6_fits 26 = .ok (.iload_n 1, 1) := by decide +kernel
theorem dX6_fits_27 : decode cX6_fits 27 = .ok (.iaload, 1) := by decide +kernel
theorem dX6_fits_28 : decode cX6_fits 28 = .ok (.if_icmp .lt 16, 3) := by decide +kernel
theorem dX6_fits_31 : decode cX6_fits 31 = .ok (.iload_n 2, 1) := by decide +kernel
theorem dX6_fits_32 : decode cX6_fits 32 = .ok (.aload_n 0, 1) := by decide +kernel
theorem dX6_fits_33 : decode cX6_fits 33 = .ok (.iload_n 1, 1) := by decide +kernel
theorem dX6_fits_34 : decode cX6_fits 34 = .ok (.invokevirtual 40, 3) := by decide +kernel
theorem dX6_fits_37 : decode cX6_fits 37 = .ok (.if_icmp .gt 7, 3) := by decide +kernel
theorem dX6_fits_40 : decode cX6_fits 40 = .ok (.iconst 1, 1) := by decide +kernel
theorem dX6_fits_41 : decode cX6_fits 41 = .ok (.goto 4, 3) := by decide +kernel
theorem dX6_fits_44 : decode cX6_fits 44 = .ok (.iconst 0, 1) := by decide +kernel
theorem dX6_fits_45 : decode cX6_fits 45 = .ok (.ireturn, 1) := by decide +kernel
theorem dX6_isDate_0 : decode cX6_isDate 0 = .ok (.iload_n 1, 1) := by decide +kernel
theorem dX6_isDate_1 : decode cX6_isDate 1 = .ok (.iconst 1, 1) := by decide +kernel
theorem dX6_isDate_2 : decode cX6_isDate 2 = .ok (.if_icmp .lt 20, 3) := by decide +kernel
theorem dX6_isDate_5 : decode cX6_isDate 5 = .ok (.iload_n 1, 1) := by decide +kernel
theorem dX6_isDate_6 : decode cX6_isDate 6 = .ok (.aload_n 0, 1) := by decide +kernel
theorem dX6_isDate_7 : decode cX6_isDate 7 = .ok (.getfield 9, 3) := by decide +kernel
theorem dX6_isDate_10 : decode cX6_isDate 10 = .ok (.if_icmp .gt 12, 3) := by decide +kernel
theorem dX6_isDate_13 : decode cX6_isDate 13 = .ok (.iload_n 1, 1) := by decide +kernel
theorem dX6_isDate_14 : decode cX6_isDate 14 = .ok (.iconst 4, 1) := by decide +kernel
theorem dX6_isDate_15 : decode cX6_isDate 15 = .ok (.if_icmp .gt 7, 3) := by decide +kernel
theorem dX6_isDate_18 : decode cX6_isDate 18 = .ok (.iconst 1, 1) := by decide +kernel
theorem dX6_isDate_19 : decode cX6_isDate 19 = .ok (.goto 4, 3) := by decide +kernel
theorem dX6_isDate_22 : decode cX6_isDate 22 = .ok (.iconst 0, 1) := by decide +kernel
theorem dX6_isDate_23 : decode cX6_isDate 23 = .ok (.ireturn, 1) := by decide +kernel
theorem dX6_greatest_0 : decode cX6_greatest 0 = .ok (.iload_n 1, 1) := by decide +kernel
theorem dX6_greatest_1 : decode cX6_greatest 1 = .ok (.iconst 1, 1) := by decide +kernel
theorem dX6_greatest_2 : decode cX6_greatest 2 = .ok (.if_icmp .ne 8, 3) := by decide +kernel
theorem dX6_greatest_5 : decode cX6_greatest 5 = .ok (.aload_n 0, 1) := by decide +kernel
theorem dX6_greatest_6 : decode cX6_greatest 6 = .ok (.getfield 9, 3) := by decide +kernel
theorem dX6_greatest_9 : decode cX6_greatest 9 = .ok (.ireturn, 1) := by decide +kernel
theorem dX6_greatest_10 : decode cX6_greatest 10 = .ok (.iload_n 1, 1) := by decide +kernel
theorem dX6_greatest_11 : decode cX6_greatest 11 = .ok (.iconst 4, 1) := by decide +kernel
theorem dX6_greatest_12 : decode cX6_greatest 12 = .ok (.if_icmp .ne 10, 3) := by decide +kernel
theorem dX6_greatest_15 : decode cX6_greatest 15 = .ok (.aload_n 0, 1) := by decide +kernel
theorem dX6_greatest_16 : decode cX6_greatest 16 = .ok (.getfield 15, 3) := by decide +kernel
theorem dX6_greatest_19 : decode cX6_greatest 19 = .ok (.iconst 1, 1) := by decide +kernel
theorem dX6_greatest_20 : decode cX6_greatest 20 = .ok (.isub, 1) := by decide +kernel
theorem dX6_greatest_21 : decode cX6_greatest 21 = .ok (.ireturn, 1) := by decide +kernel
theorem dX6_greatest_22 : decode cX6_greatest 22 = .ok (.iload_n 1, 1) := by decide +kernel
theorem dX6_greatest_23 : decode cX6_greatest 23 = .ok (.ifCond .lt 11, 3) := by decide +kernel
theorem dX6_greatest_26 : decode cX6_greatest 26 = .ok (.iload_n 1, 1) := by decide +kernel
theorem dX6_greatest_27 : decode cX6_greatest 27 = .ok (.getstatic 37, 3) := by decide +kernel
theorem dX6_greatest_30 : decode cX6_greatest 30 = .ok (.arraylength, 1) := by decide +kernel
theorem dX6_greatest_31 : decode cX6_greatest 31 = .ok (.if_icmp .lt 7, 3) := by decide +kernel
theorem dX6_greatest_34 : decode cX6_greatest 34 = .ok (.iconst (-1), 1) := by decide +kernel
theorem dX6_greatest_35 : decode cX6_greatest 35 = .ok (.goto 8, 3) := by decide +kernel
theorem dX6_greatest_38 : decode cX6_greatest 38 = .ok (.getstatic 37, 3) := by decide +kernel
theorem dX6_greatest_41 : decode cX6_greatest 41 = .ok (.iload_n 1, 1) := by decide +kernel
theorem dX6_greatest_42 : decode cX6_greatest 42 = .ok (.iaload, 1) := by decide +kernel
theorem dX6_greatest_43 : decode cX6_greatest 43 = .ok (.ireturn, 1) := by decide +kernel
theorem dX6_isFull_0 : decode cX6_isFull 0 = .ok (.aload_n 0, 1) := by decide +kernel
theorem dX6_isFull_1 : decode cX6_isFull 1 = .ok (.getfield 15, 3) := by decide +kernel
theorem dX6_isFull_4 : decode cX6_isFull 4 = .ok (.iconst 5, 1) := by decide +kernel
theorem dX6_isFull_5 : decode cX6_isFull 5 = .ok (.if_icmp .lt 7, 3) := by decide +kernel
theorem dX6_isFull_8 : decode cX6_isFull 8 = .ok (.iconst 1, 1) := by decide +kernel
theorem dX6_isFull_9 : decode cX6_isFull 9 = .ok (.goto 4, 3) := by decide +kernel
theorem dX6_isFull_12 : decode cX6_isFull 12 = .ok (.iconst 0, 1) := by decide +kernel
theorem dX6_isFull_13 : decode cX6_isFull 13 = .ok (.ireturn, 1) := by decide +kernel
theorem dX6_addBond_0 : decode cX6_addBond 0 = .ok (.aload_n 0, 1) := by decide +kernel
theorem dX6_addBond_1 : decode cX6_addBond 1 = .ok (.invokevirtual 44, 3) := by decide +kernel
theorem dX6_addBond_4 : decode cX6_addBond 4 = .ok (.ifCond .eq 4, 3) := by decide +kernel
theorem dX6_addBond_7 : decode cX6_addBond 7 = .ok (.return_, 1) := by decide +kernel
theorem dX6_addBond_8 : decode cX6_addBond 8 = .ok (.aload_n 0, 1) := by decide +kernel
theorem dX6_addBond_9 : decode cX6_addBond 9 = .ok (.dup, 1) := by decide +kernel
theorem dX6_addBond_10 : decode cX6_addBond 10 = .ok (.getfield 15, 3) := by decide +kernel
theorem dX6_addBond_13 : decode cX6_addBond 13 = .ok (.iconst 1, 1) := by decide +kernel
theorem dX6_addBond_14 : decode cX6_addBond 14 = .ok (.iadd, 1) := by decide +kernel
theorem dX6_addBond_15 : decode cX6_addBond 15 = .ok (.putfield 15, 3) := by decide +kernel
theorem dX6_addBond_18 : decode cX6_addBond 18 = .ok (.aload_n 0, 1) := by decide +kernel
theorem dX6_addBond_19 : decode cX6_addBond 19 = .ok (.aload_n 0, 1) := by decide +kernel
theorem dX6_addBond_20 : decode cX6_addBond 20 = .ok (.getfield 15, 3) := by decide +kernel
theorem dX6_addBond_23 : decode cX6_addBond 23 = .ok (.iconst 1, 1) := by decide +kernel
theorem dX6_addBond_24 : decode cX6_addBond 24 = .ok (.isub, 1) := by decide +kernel
theorem dX6_addBond_25 : decode cX6_addBond 25 = .ok (.iconst 0, 1) := by decide +kernel
theorem dX6_addBond_26 : decode cX6_addBond 26 = .ok (.iload_n 1, 1) := by decide +kernel
theorem dX6_addBond_27 : decode cX6_addBond 27 = .ok (.invokevirtual 48, 3) := by decide +kernel
theorem dX6_addBond_30 : decode cX6_addBond 30 = .ok (.aload_n 0, 1) := by decide +kernel
theorem dX6_addBond_31 : decode cX6_addBond 31 = .ok (.aload_n 0, 1) := by decide +kernel
theorem dX6_addBond_32 : decode cX6_addBond 32 = .ok (.getfield 15, 3) := by decide +kernel
theorem dX6_addBond_35 : decode cX6_addBond 35 = .ok (.iconst 1, 1) := by decide +kernel
theorem dX6_addBond_36 : decode cX6_addBond 36 = .ok (.isub, 1) := by decide +kernel
theorem dX6_addBond_37 : decode cX6_addBond 37 = .ok (.iconst 1, 1) := by decide +kernel
theorem dX6_addBond_38 : decode cX6_addBond 38 = .ok (.iload_n 2, 1) := by decide +kernel
theorem dX6_addBond_39 : decode cX6_addBond 39 = .ok (.invokevirtual 48, 3) := by decide +kernel
theorem dX6_addBond_42 : decode cX6_addBond 42 = .ok (.aload_n 0, 1) := by decide +kernel
theorem dX6_addBond_43 : decode cX6_addBond 43 = .ok (.aload_n 0, 1) := by decide +kernel
theorem dX6_addBond_44 : decode cX6_addBond 44 = .ok (.getfield 15, 3) := by decide +kernel
theorem dX6_addBond_47 : decode cX6_addBond 47 = .ok (.iconst 1, 1) := by decide +kernel
theorem dX6_addBond_48 : decode cX6_addBond 48 = .ok (.isub, 1) := by decide +kernel
theorem dX6_addBond_49 : decode cX6_addBond 49 = .ok (.iconst 2, 1) := by decide +kernel
theorem dX6_addBond_50 : decode cX6_addBond 50 = .ok (.iload_n 3, 1) := by decide +kernel
theorem dX6_addBond_51 : decode cX6_addBond 51 = .ok (.invokevirtual 48, 3) := by decide +kernel
theorem dX6_addBond_54 : decode cX6_addBond 54 = .ok (.aload_n 0, 1) := by decide +kernel
theorem dX6_addBond_55 : decode cX6_addBond 55 = .ok (.aload_n 0, 1) := by decide +kernel
theorem dX6_addBond_56 : decode cX6_addBond 56 = .ok (.getfield 15, 3) := by decide +kernel
theorem dX6_addBond_59 : decode cX6_addBond 59 = .ok (.iconst 1, 1) := by decide +kernel
theorem dX6_addBond_60 : decode cX6_addBond 60 = .ok (.isub, 1) := by decide +kernel
theorem dX6_addBond_61 : decode cX6_addBond 61 = .ok (.iconst 3, 1) := by decide +kernel
theorem dX6_addBond_62 : decode cX6_addBond 62 = .ok (.iload 4, 2) := by decide +kernel
theorem dX6_addBond_64 : decode cX6_addBond 64 = .ok (.invokevirtual 48, 3) := by decide +kernel
theorem dX6_addBond_67 : decode cX6_addBond 67 = .ok (.aload_n 0, 1) := by decide +kernel
theorem dX6_addBond_68 : decode cX6_addBond 68 = .ok (.aload_n 0, 1) := by decide +kernel
theorem dX6_addBond_69 : decode cX6_addBond 69 = .ok (.getfield 15, 3) := by decide +kernel
theorem dX6_addBond_72 : decode cX6_addBond 72 = .ok (.iconst 1, 1) := by decide +kernel
theorem dX6_addBond_73 : decode cX6_addBond 73 = .ok (.isub, 1) := by decide +kernel
theorem dX6_addBond_74 : decode cX6_addBond 74 = .ok (.iconst 4, 1) := by decide +kernel
theorem dX6_addBond_75 : decode cX6_addBond 75 = .ok (.bipush 10, 2) := by decide +kernel
theorem dX6_addBond_77 : decode cX6_addBond 77 = .ok (.invokevirtual 48, 3) := by decide +kernel
theorem dX6_addBond_80 : decode cX6_addBond 80 = .ok (.aload_n 0, 1) := by decide +kernel
theorem dX6_addBond_81 : decode cX6_addBond 81 = .ok (.aload_n 0, 1) := by decide +kernel
theorem dX6_addBond_82 : decode cX6_addBond 82 = .ok (.getfield 15, 3) := by decide +kernel
theorem dX6_addBond_85 : decode cX6_addBond 85 = .ok (.iconst 1, 1) := by decide +kernel
theorem dX6_addBond_86 : decode cX6_addBond 86 = .ok (.isub, 1) := by decide +kernel
theorem dX6_addBond_87 : decode cX6_addBond 87 = .ok (.iconst 5, 1) := by decide +kernel
theorem dX6_addBond_88 : decode cX6_addBond 88 = .ok (.iconst 0, 1) := by decide +kernel
theorem dX6_addBond_89 : decode cX6_addBond 89 = .ok (.invokevirtual 48, 3) := by decide +kernel
theorem dX6_addBond_92 : decode cX6_addBond 92 = .ok (.aload_n 0, 1) := by decide +kernel
theorem dX6_addBond_93 : decode cX6_addBond 93 = .ok (.aload_n 0, 1) := by decide +kernel
theorem dX6_addBond_94 : decode cX6_addBond 94 = .ok (.getfield 15, 3) := by decide +kernel
theorem dX6_addBond_97 : decode cX6_addBond 97 = .ok (.iconst 1, 1) := by decide +kernel
theorem dX6_addBond_98 : decode cX6_addBond 98 = .ok (.isub, 1) := by decide +kernel
theorem dX6_addBond_99 : decode cX6_addBond 99 = .ok (.bipush 6, 2) := by decide +kernel
theorem dX6_addBond_101 : decode cX6_addBond 101 = .ok (.iconst 0, 1) := by decide +kernel
theorem dX6_addBond_102 : decode cX6_addBond 102 = .ok (.invokevirtual 48, 3) := by decide +kernel
theorem dX6_addBond_105 : decode cX6_addBond 105 = .ok (.return_, 1) := by decide +kernel
theorem dX6_removeBond_0 : decode cX6_removeBond 0 = .ok (.aload_n 0, 1) := by decide +kernel
theorem dX6_removeBond_1 : decode cX6_removeBond 1 = .ok (.iconst 4, 1) := by decide +kernel
theorem dX6_removeBond_2 : decode cX6_removeBond 2 = .ok (.iload_n 1, 1) := by decide +kernel
theorem dX6_removeBond_3 : decode cX6_removeBond 3 = .ok (.invokevirtual 52, 3) := by decide +kernel
theorem dX6_removeBond_6 : decode cX6_removeBond 6 = .ok (.ifCond .ne 4, 3) := by decide +kernel
theorem dX6_removeBond_9 : decode cX6_removeBond 9 = .ok (.return_, 1) := by decide +kernel
theorem dX6_removeBond_10 : decode cX6_removeBond 10 = .ok (.iload_n 1, 1) := by decide +kernel
theorem dX6_removeBond_11 : decode cX6_removeBond 11 = .ok (.bipush 7, 2) := by decide +kernel
theorem dX6_removeBond_13 : decode cX6_removeBond 13 = .ok (.imul, 1) := by decide +kernel
theorem dX6_removeBond_14 : decode cX6_removeBond 14 = .ok (.istore_n 2, 1) := by decide +kernel
theorem dX6_removeBond_15 : decode cX6_removeBond 15 = .ok (.iload_n 2, 1) := by decide +kernel
theorem dX6_removeBond_16 : decode cX6_removeBond 16 = .ok (.bipush 7, 2) := by decide +kernel
theorem dX6_removeBond_18 : decode cX6_removeBond 18 = .ok (.iadd, 1) := by decide +kernel
theorem dX6_removeBond_19 : decode cX6_removeBond 19 = .ok (.aload_n 0, 1) := by decide +kernel
theorem dX6_removeBond_20 : decode cX6_removeBond 20 = .ok (.getfield 25, 3) := by decide +kernel
theorem dX6_removeBond_23 : decode cX6_removeBond 23 = .ok (.arraylength, 1) := by decide +kernel
theorem dX6_removeBond_24 : decode cX6_removeBond 24 = .ok (.if_icmp .ge 24, 3) := by decide +kernel
theorem dX6_removeBond_27 : decode cX6_removeBond 27 = .ok (.aload_n 0, 1) := by decide +kernel
theorem dX6_removeBond_28 : decode cX6_removeBond 28 = .ok (.getfield 25, 3) := by decide +kernel
theorem dX6_removeBond_31 : decode cX6_removeBond 31 = .ok (.iload_n 2, 1) := by decide +kernel
theorem dX6_removeBond_32 : decode cX6_removeBond 32 = .ok (.aload_n 0, 1) := by decide +kernel
theorem dX6_removeBond_33 : decode cX6_removeBond 33 = .ok (.getfield 25, 3) := by decide +kernel
theorem dX6_removeBond_36 : decode cX6_removeBond 36 = .ok (.iload_n 2, 1) := by decide +kernel
theorem dX6_removeBond_37 : decode cX6_removeBond 37 = .ok (.bipush 7, 2) := by decide +kernel
theorem dX6_removeBond_39 : decode cX6_removeBond 39 = .ok (.iadd, 1) := by decide +kernel
theorem dX6_removeBond_40 : decode cX6_removeBond 40 = .ok (.iaload, 1) := by decide +kernel
theorem dX6_removeBond_41 : decode cX6_removeBond 41 = .ok (.iastore, 1) := by decide +kernel
theorem dX6_removeBond_42 : decode cX6_removeBond 42 = .ok (.iinc 2 1, 3) := by decide +kernel
theorem dX6_removeBond_45 : decode cX6_removeBond 45 = .ok (.goto (-30), 3) := by decide +kernel
theorem dX6_removeBond_48 : decode cX6_removeBond 48 = .ok (.aload_n 0, 1) := by decide +kernel
theorem dX6_removeBond_49 : decode cX6_removeBond 49 = .ok (.dup, 1) := by decide +kernel
theorem dX6_removeBond_50 : decode cX6_removeBond 50 = .ok (.getfield 15, 3) := by decide +kernel
theorem dX6_removeBond_53 : decode cX6_removeBond 53 = .ok (.iconst 1, 1) := by decide +kernel
theorem dX6_removeBond_54 : decode cX6_removeBond 54 = .ok (.isub, 1) := by decide +kernel
theorem dX6_removeBond_55 : decode cX6_removeBond 55 = .ok (.putfield 15, 3) := by decide +kernel
theorem dX6_removeBond_58 : decode cX6_removeBond 58 = .ok (.return_, 1) := by decide +kernel
theorem dX6_term_0 : decode cX6_term 0 = .ok (.aload_n 0, 1) := by decide +kernel
theorem dX6_term_1 : decode cX6_term 1 = .ok (.iload_n 1, 1) := by decide +kernel
theorem dX6_term_2 : decode cX6_term 2 = .ok (.iload_n 2, 1) := by decide +kernel
theorem dX6_term_3 : decode cX6_term 3 = .ok (.invokevirtual 56, 3) := by decide +kernel
theorem dX6_term_6 : decode cX6_term 6 = .ok (.ifCond .eq 17, 3) := by decide +kernel
theorem dX6_term_9 : decode cX6_term 9 = .ok (.aload_n 0, 1) := by decide +kernel
theorem dX6_term_10 : decode cX6_term 10 = .ok (.getfield 25, 3) := by decide +kernel
theorem dX6_term_13 : decode cX6_term 13 = .ok (.iload_n 1, 1) := by decide +kernel
theorem dX6_term_14 : decode cX6_term 14 = .ok (.bipush 7, 2) := by decide +kernel
theorem dX6_term_16 : decode cX6_term 16 = .ok (.imul, 1) := by decide +kernel
theorem dX6_term_17 : decode cX6_term 17 = .ok (.iload_n 2, 1) := by decide +kernel
theorem dX6_term_18 : decode cX6_term 18 = .ok (.iadd, 1) := by decide +kernel
theorem dX6_term_19 : decode cX6_term 19 = .ok (.iaload, 1) := by decide +kernel
theorem dX6_term_20 : decode cX6_term 20 = .ok (.goto 4, 3) := by decide +kernel
theorem dX6_term_23 : decode cX6_term 23 = .ok (.iconst 0, 1) := by decide +kernel
theorem dX6_term_24 : decode cX6_term 24 = .ok (.ireturn, 1) := by decide +kernel
theorem dX6_setTerm_0 : decode cX6_setTerm 0 = .ok (.aload_n 0, 1) := by decide +kernel
theorem dX6_setTerm_1 : decode cX6_setTerm 1 = .ok (.iload_n 1, 1) := by decide +kernel
theorem dX6_setTerm_2 : decode cX6_setTerm 2 = .ok (.iload_n 2, 1) := by decide +kernel
theorem dX6_setTerm_3 : decode cX6_setTerm 3 = .ok (.invokevirtual 56, 3) := by decide +kernel
theorem dX6_setTerm_6 : decode cX6_setTerm 6 = .ok (.ifCond .eq 15, 3) := by decide +kernel
theorem dX6_setTerm_9 : decode cX6_setTerm 9 = .ok (.aload_n 0, 1) := by decide +kernel
theorem dX6_setTerm_10 : decode cX6_setTerm 10 = .ok (.getfield 25, 3) := by decide +kernel
theorem dX6_setTerm_13 : decode cX6_setTerm 13 = .ok (.iload_n 1, 1) := by decide +kernel
theorem dX6_setTerm_14 : decode cX6_setTerm 14 = .ok (.bipush 7, 2) := by decide +kernel
theorem dX6_setTerm_16 : decode cX6_setTerm 16 = .ok (.imul, 1) := by decide +kernel
theorem dX6_setTerm_17 : decode cX6_setTerm 17 = .ok (.iload_n 2, 1) := by decide +kernel
theorem dX6_setTerm_18 : decode cX6_setTerm 18 = .ok (.iadd, 1) := by decide +kernel
theorem dX6_setTerm_19 : decode cX6_setTerm 19 = .ok (.iload_n 3, 1) := by decide +kernel
theorem dX6_setTerm_20 : decode cX6_setTerm 20 = .ok (.iastore, 1) := by decide +kernel
theorem dX6_setTerm_21 : decode cX6_setTerm 21 = .ok (.return_, 1) := by decide +kernel
theorem dX6_isTerm_0 : decode cX6_isTerm 0 = .ok (.iload_n 1, 1) := by decide +kernel
theorem dX6_isTerm_1 : decode cX6_isTerm 1 = .ok (.ifCond .lt 30, 3) := by decide +kernel
theorem dX6_isTerm_4 : decode cX6_isTerm 4 = .ok (.iload_n 1, 1) := by decide +kernel
theorem dX6_isTerm_5 : decode cX6_isTerm 5 = .ok (.aload_n 0, 1) := by decide +kernel
theorem dX6_isTerm_6 : decode cX6_isTerm 6 = .ok (.getfield 15, 3) := by decide +kernel
theorem dX6_isTerm_9 : decode cX6_isTerm 9 = .ok (.if_icmp .ge 22, 3) := by decide +kernel
theorem dX6_isTerm_12 : decode cX6_isTerm 12 = .ok (.iload_n 1, 1) := by decide +kernel
theorem dX6_isTerm_13 : decode cX6_isTerm 13 = .ok (.iconst 5, 1) := by decide +kernel
theorem dX6_isTerm_14 : decode cX6_isTerm 14 = .ok (.if_icmp .ge 17, 3) := by decide +kernel
theorem dX6_isTerm_17 : decode cX6_isTerm 17 = .ok (.iload_n 2, 1) := by decide +kernel
theorem dX6_isTerm_18 : decode cX6_isTerm 18 = .ok (.ifCond .lt 13, 3) := by decide +kernel
theorem dX6_isTerm_21 : decode cX6_isTerm 21 = .ok (.iload_n 2, 1) := by decide +kernel
theorem dX6_isTerm_22 : decode cX6_isTerm 22 = .ok (.bipush 7, 2) := by decide +kernel
theorem dX6_isTerm_24 : decode cX6_isTerm 24 = .ok (.if_icmp .ge 7, 3) := by decide +kernel
theorem dX6_isTerm_27 : decode cX6_isTerm 27 = .ok (.iconst 1, 1) := by decide +kernel
theorem dX6_isTerm_28 : decode cX6_isTerm 28 = .ok (.goto 4, 3) := by decide +kernel
theorem dX6_isTerm_31 : decode cX6_isTerm 31 = .ok (.iconst 0, 1) := by decide +kernel
theorem dX6_isTerm_32 : decode cX6_isTerm 32 = .ok (.ireturn, 1) := by decide +kernel
theorem dX6_yieldAt_0 : decode cX6_yieldAt 0 = .ok (.aload_n 0, 1) := by decide +kernel
theorem dX6_yieldAt_1 : decode cX6_yieldAt 1 = .ok (.iload_n 1, 1) := by decide +kernel
theorem dX6_yieldAt_2 : decode cX6_yieldAt 2 = .ok (.iconst 5, 1) := by decide +kernel
theorem dX6_yieldAt_3 : decode cX6_yieldAt 3 = .ok (.invokevirtual 59, 3) := by decide +kernel
theorem dX6_yieldAt_6 : decode cX6_yieldAt 6 = .ok (.istore_n 3, 1) := by decide +kernel
theorem dX6_yieldAt_7 : decode cX6_yieldAt 7 = .ok (.iload_n 3, 1) := by decide +kernel
theorem dX6_yieldAt_8 : decode cX6_yieldAt 8 = .ok (.ifCond .le 7, 3) := by decide +kernel
theorem dX6_yieldAt_11 : decode cX6_yieldAt 11 = .ok (.iload_n 3, 1) := by decide +kernel
theorem dX6_yieldAt_12 : decode cX6_yieldAt 12 = .ok (.goto 9, 3) := by decide +kernel
theorem dX6_yieldAt_15 : decode cX6_yieldAt 15 = .ok (.aload_n 0, 1) := by decide +kernel
theorem dX6_yieldAt_16 : decode cX6_yieldAt 16 = .ok (.iload_n 1, 1) := by decide +kernel
theorem dX6_yieldAt_17 : decode cX6_yieldAt 17 = .ok (.iconst 2, 1) := by decide +kernel
theorem dX6_yieldAt_18 : decode cX6_yieldAt 18 = .ok (.invokevirtual 59, 3) := by decide +kernel
theorem dX6_yieldAt_21 : decode cX6_yieldAt 21 = .ok (.istore 4, 2) := by decide +kernel
theorem dX6_yieldAt_23 : decode cX6_yieldAt 23 = .ok (.iload_n 2, 1) := by decide +kernel
theorem dX6_yieldAt_24 : decode cX6_yieldAt 24 = .ok (.iconst 1, 1) := by decide +kernel
theorem dX6_yieldAt_25 : decode cX6_yieldAt 25 = .ok (.if_icmp .lt 9, 3) := by decide +kernel
theorem dX6_yieldAt_28 : decode cX6_yieldAt 28 = .ok (.iload_n 2, 1) := by decide +kernel
theorem dX6_yieldAt_29 : decode cX6_yieldAt 29 = .ok (.iload 4, 2) := by decide +kernel
theorem dX6_yieldAt_31 : decode cX6_yieldAt 31 = .ok (.if_icmp .le 5, 3) := by decide +kernel
theorem dX6_yieldAt_34 : decode cX6_yieldAt 34 = .ok (.iconst 0, 1) := by decide +kernel
theorem dX6_yieldAt_35 : decode cX6_yieldAt 35 = .ok (.ireturn, 1) := by decide +kernel
theorem dX6_yieldAt_36 : decode cX6_yieldAt 36 = .ok (.aload_n 0, 1) := by decide +kernel
theorem dX6_yieldAt_37 : decode cX6_yieldAt 37 = .ok (.iload_n 1, 1) := by decide +kernel
theorem dX6_yieldAt_38 : decode cX6_yieldAt 38 = .ok (.iconst 0, 1) := by decide +kernel
theorem dX6_yieldAt_39 : decode cX6_yieldAt 39 = .ok (.invokevirtual 59, 3) := by decide +kernel
theorem dX6_yieldAt_42 : decode cX6_yieldAt 42 = .ok (.iload_n 2, 1) := by decide +kernel
theorem dX6_yieldAt_43 : decode cX6_yieldAt 43 = .ok (.iload 4, 2) := by decide +kernel
theorem dX6_yieldAt_45 : decode cX6_yieldAt 45 = .ok (.if_icmp .ne 12, 3) := by decide +kernel
theorem dX6_yieldAt_48 : decode cX6_yieldAt 48 = .ok (.aload_n 0, 1) := by decide +kernel
theorem dX6_yieldAt_49 : decode cX6_yieldAt 49 = .ok (.iload_n 1, 1) := by decide +kernel
theorem dX6_yieldAt_50 : decode cX6_yieldAt 50 = .ok (.iconst 1, 1) := by decide +kernel
theorem dX6_yieldAt_51 : decode cX6_yieldAt 51 = .ok (.invokevirtual 59, 3) := by decide +kernel
theorem dX6_yieldAt_54 : decode cX6_yieldAt 54 = .ok (.goto 4, 3) := by decide +kernel
theorem dX6_yieldAt_57 : decode cX6_yieldAt 57 = .ok (.iconst 0, 1) := by decide +kernel
theorem dX6_yieldAt_58 : decode cX6_yieldAt 58 = .ok (.iadd, 1) := by decide +kernel
theorem dX6_yieldAt_59 : decode cX6_yieldAt 59 = .ok (.ireturn, 1) := by decide +kernel
theorem dX6_paidAt_0 : decode cX6_paidAt 0 = .ok (.aload_n 0, 1) := by decide +kernel
theorem dX6_paidAt_1 : decode cX6_paidAt 1 = .ok (.iload_n 1, 1) := by decide +kernel
theorem dX6_paidAt_2 : decode cX6_paidAt 2 = .ok (.invokevirtual 63, 3) := by decide +kernel
theorem dX6_paidAt_5 : decode cX6_paidAt 5 = .ok (.ifCond .eq 12, 3) := by decide +kernel
theorem dX6_paidAt_8 : decode cX6_paidAt 8 = .ok (.aload_n 0, 1) := by decide +kernel
theorem dX6_paidAt_9 : decode cX6_paidAt 9 = .ok (.getfield 18, 3) := by decide +kernel
theorem dX6_paidAt_12 : decode cX6_paidAt 12 = .ok (.iload_n 1, 1) := by decide +kernel
theorem dX6_paidAt_13 : decode cX6_paidAt 13 = .ok (.iaload, 1) := by decide +kernel
theorem dX6_paidAt_14 : decode cX6_paidAt 14 = .ok (.goto 4, 3) := by decide +kernel
theorem dX6_paidAt_17 : decode cX6_paidAt 17 = .ok (.iconst 0, 1) := by decide +kernel
theorem dX6_paidAt_18 : decode cX6_paidAt 18 = .ok (.ireturn, 1) := by decide +kernel
theorem dX6_setPaid_0 : decode cX6_setPaid 0 = .ok (.aload_n 0, 1) := by decide +kernel
theorem dX6_setPaid_1 : decode cX6_setPaid 1 = .ok (.iload_n 1, 1) := by decide +kernel
theorem dX6_setPaid_2 : decode cX6_setPaid 2 = .ok (.invokevirtual 63, 3) := by decide +kernel
theorem dX6_setPaid_5 : decode cX6_setPaid 5 = .ok (.ifCond .eq 10, 3) := by decide +kernel
theorem dX6_setPaid_8 : decode cX6_setPaid 8 = .ok (.aload_n 0, 1) := by decide +kernel
theorem dX6_setPaid_9 : decode cX6_setPaid 9 = .ok (.getfield 18, 3) := by decide +kernel
theorem dX6_setPaid_12 : decode cX6_setPaid 12 = .ok (.iload_n 1, 1) := by decide +kernel
theorem dX6_setPaid_13 : decode cX6_setPaid 13 = .ok (.iload_n 2, 1) := by decide +kernel
theorem dX6_setPaid_14 : decode cX6_setPaid 14 = .ok (.iastore, 1) := by decide +kernel
theorem dX6_setPaid_15 : decode cX6_setPaid 15 = .ok (.return_, 1) := by decide +kernel
theorem dX6_rateAt_0 : decode cX6_rateAt 0 = .ok (.aload_n 0, 1) := by decide +kernel
theorem dX6_rateAt_1 : decode cX6_rateAt 1 = .ok (.iload_n 1, 1) := by decide +kernel
theorem dX6_rateAt_2 : decode cX6_rateAt 2 = .ok (.invokevirtual 63, 3) := by decide +kernel
theorem dX6_rateAt_5 : decode cX6_rateAt 5 = .ok (.ifCond .eq 12, 3) := by decide +kernel
theorem dX6_rateAt_8 : decode cX6_rateAt 8 = .ok (.aload_n 0, 1) := by decide +kernel
theorem dX6_rateAt_9 : decode cX6_rateAt 9 = .ok (.getfield 22, 3) := by decide +kernel
theorem dX6_rateAt_12 : decode cX6_rateAt 12 = .ok (.iload_n 1, 1) := by decide +kernel
theorem dX6_rateAt_13 : decode cX6_rateAt 13 = .ok (.iaload, 1) := by decide +kernel
theorem dX6_rateAt_14 : decode cX6_rateAt 14 = .ok (.goto 4, 3) := by decide +kernel
theorem dX6_rateAt_17 : decode cX6_rateAt 17 = .ok (.iconst 0, 1) := by decide +kernel
theorem dX6_rateAt_18 : decode cX6_rateAt 18 = .ok (.ireturn, 1) := by decide +kernel
theorem dX6_setRate_0 : decode cX6_setRate 0 = .ok (.aload_n 0, 1) := by decide +kernel
theorem dX6_setRate_1 : decode cX6_setRate 1 = .ok (.iload_n 1, 1) := by decide +kernel
theorem dX6_setRate_2 : decode cX6_setRate 2 = .ok (.invokevirtual 63, 3) := by decide +kernel
theorem dX6_setRate_5 : decode cX6_setRate 5 = .ok (.ifCond .eq 10, 3) := by decide +kernel
theorem dX6_setRate_8 : decode cX6_setRate 8 = .ok (.aload_n 0, 1) := by decide +kernel
theorem dX6_setRate_9 : decode cX6_setRate 9 = .ok (.getfield 22, 3) := by decide +kernel
theorem dX6_setRate_12 : decode cX6_setRate 12 = .ok (.iload_n 1, 1) := by decide +kernel
theorem dX6_setRate_13 : decode cX6_setRate 13 = .ok (.iload_n 2, 1) := by decide +kernel
theorem dX6_setRate_14 : decode cX6_setRate 14 = .ok (.iastore, 1) := by decide +kernel
theorem dX6_setRate_15 : decode cX6_setRate 15 = .ok (.return_, 1) := by decide +kernel
theorem dX6_growth_0 : decode cX6_growth 0 = .ok (.bipush 20, 2) := by decide +kernel
theorem dX6_growth_2 : decode cX6_growth 2 = .ok (.aload_n 0, 1) := by decide +kernel
theorem dX6_growth_3 : decode cX6_growth 3 = .ok (.iload_n 1, 1) := by decide +kernel
theorem dX6_growth_4 : decode cX6_growth 4 = .ok (.invokevirtual 67, 3) := by decide +kernel
theorem dX6_growth_7 : decode cX6_growth 7 = .ok (.iadd, 1) := by decide +kernel
theorem dX6_growth_8 : decode cX6_growth 8 = .ok (.ireturn, 1) := by decide +kernel
theorem dX7_init_0 : decode cX7_init 0 = .ok (.aload_n 0, 1) := by decide +kernel
theorem dX7_init_1 : decode cX7_init 1 = .ok (.invokespecial 3, 3) := by decide +kernel
theorem dX7_init_4 : decode cX7_init 4 = .ok (.aload_n 0, 1) := by decide +kernel
theorem dX7_init_5 : decode cX7_init 5 = .ok (.lconst 0, 1) := by decide +kernel
theorem dX7_init_6 : decode cX7_init 6 = .ok (.putfield 9, 3) := by decide +kernel
theorem dX7_init_9 : decode cX7_init 9 = .ok (.aload_n 0, 1) := by decide +kernel
theorem dX7_init_10 : decode cX7_init 10 = .ok (.lconst 0, 1) := by decide +kernel
theorem dX7_init_11 : decode cX7_init 11 = .ok (.putfield 15, 3) := by decide +kernel
theorem dX7_init_14 : decode cX7_init 14 = .ok (.aload_n 0, 1) := by decide +kernel
theorem dX7_init_15 : decode cX7_init 15 = .ok (.iconst 5, 1) := by decide +kernel
theorem dX7_init_16 : decode cX7_init 16 = .ok (.newarray .long, 2) := by decide +kernel
theorem dX7_init_18 : decode cX7_init 18 = .ok (.putfield 18, 3) := by decide +kernel
theorem dX7_init_21 : decode cX7_init 21 = .ok (.return_, 1) := by decide +kernel
theorem dX7_readOff_0 : decode cX7_readOff 0 = .ok (.aload_n 0, 1) := by decide +kernel
theorem dX7_readOff_1 : decode cX7_readOff 1 = .ok (.aload_n 2, 1) := by decide +kernel
theorem dX7_readOff_2 : decode cX7_readOff 2 = .ok (.getfield 22, 3) := by decide +kernel
theorem dX7_readOff_5 : decode cX7_readOff 5 = .ok (.putfield 9, 3) := by decide +kernel
theorem dX7_readOff_8 : decode cX7_readOff 8 = .ok (.aload_n 0, 1) := by decide +kernel
theorem dX7_readOff_9 : decode cX7_readOff 9 = .ok (.lconst 0, 1) := by decide +kernel
theorem dX7_readOff_10 : decode cX7_readOff 10 = .ok (.putfield 15, 3) := by decide +kernel
theorem dX7_readOff_13 : decode cX7_readOff 13 = .ok (.iconst 1, 1) := by decide +kernel
theorem dX7_readOff_14 : decode cX7_readOff 14 = .ok (.istore_n 3, 1) := by decide +kernel
theorem dX7_readOff_15 : decode cX7_readOff 15 = .ok (.iload_n 3, 1) := by decide +kernel
theorem dX7_readOff_16 : decode cX7_readOff 16 = .ok (.aload_n 1, 1) := by decide +kernel
theorem dX7_readOff_17 : decode cX7_readOff 17 = .ok (.getfield 27, 3) := by decide +kernel
theorem dX7_readOff_20 : decode cX7_readOff 20 = .ok (.if_icmp .gt 85, 3) := by decide +kernel
theorem dX7_readOff_23 : decode cX7_readOff 23 = .ok (.aload_n 0, 1) := by decide +kernel
theorem dX7_readOff_24 : decode cX7_readOff 24 = .ok (.getfield 18, 3) := by decide +kernel
theorem dX7_readOff_27 : decode cX7_readOff 27 = .ok (.iload_n 3, 1) := by decide +kernel
theorem dX7_readOff_28 : decode cX7_readOff 28 = .ok (.lconst 0, 1) := by decide +kernel
theorem dX7_readOff_29 : decode cX7_readOff 29 = .ok (.lastore, 1) := by decide +kernel
theorem dX7_readOff_30 : decode cX7_readOff 30 = .ok (.iconst 0, 1) := by decide +kernel
theorem dX7_readOff_31 : decode cX7_readOff 31 = .ok (.istore 4, 2) := by decide +kernel
theorem dX7_readOff_33 : decode cX7_readOff 33 = .ok (.iload 4, 2) := by decide +kernel
theorem dX7_readOff_35 : decode cX7_readOff 35 = .ok (.aload_n 2, 1) := by decide +kernel
theorem dX7_readOff_36 : decode cX7_readOff 36 = .ok (.getfield 33, 3) := by decide +kernel
theorem dX7_readOff_39 : decode cX7_readOff 39 = .ok (.if_icmp .ge 38, 3) := by decide +kernel
theorem dX7_readOff_42 : decode cX7_readOff 42 = .ok (.aload_n 0, 1) := by decide +kernel
theorem dX7_readOff_43 : decode cX7_readOff 43 = .ok (.getfield 18, 3) := by decide +kernel
theorem dX7_readOff_46 : decode cX7_readOff 46 = .ok (.iload_n 3, 1) := by decide +kernel
theorem dX7_readOff_47 : decode cX7_readOff 47 = .ok (.dup2, 1) := by decide +kernel
theorem dX7_readOff_48 : decode cX7_readOff 48 = .ok (.laload, 1) := by decide +kernel
theorem dX7_readOff_49 : decode cX7_readOff 49 = .ok (.aload_n 1, 1) := by decide +kernel
theorem dX7_readOff_50 : decode cX7_readOff 50 = .ok (.getfield 36, 3) := by decide +kernel
theorem dX7_readOff_53 : decode cX7_readOff 53 = .ok (.aload_n 2, 1) := by decide +kernel
theorem dX7_readOff_54 : decode cX7_readOff 54 = .ok (.getfield 39, 3) := by decide +kernel
theorem dX7_readOff_57 : decode cX7_readOff 57 = .ok (.iload 4, 2) := by decide +kernel
theorem dX7_readOff_59 : decode cX7_readOff 59 = .ok (.iaload, 1) := by decide +kernel
theorem dX7_readOff_60 : decode cX7_readOff 60 = .ok (.laload, 1) := by decide +kernel
theorem dX7_readOff_61 : decode cX7_readOff 61 = .ok (.aload_n 2, 1) := by decide +kernel
theorem dX7_readOff_62 : decode cX7_readOff 62 = .ok (.iload 4, 2) := by decide +kernel
theorem dX7_readOff_64 : decode cX7_readOff 64 = .ok (.iload_n 3, 1) := by decide +kernel
theorem dX7_readOff_65 : decode cX7_readOff 65 = .ok (.invokevirtual 43, 3) := by decide +kernel
theorem dX7_readOff_68 : decode cX7_readOff 68 = .ok (.lmul, 1) := by decide +kernel
theorem dX7_readOff_69 : decode cX7_readOff 69 = .ok (.ladd, 1) := by decide +kernel
theorem dX7_readOff_70 : decode cX7_readOff 70 = .ok (.lastore, 1) := by decide +kernel
theorem dX7_readOff_71 : decode cX7_readOff 71 = .ok (.iinc 4 1, 3) := by decide +kernel
theorem dX7_readOff_74 : decode cX7_readOff 74 = .ok (.goto (-41), 3) := by decide +kernel
theorem dX7_readOff_77 : decode cX7_readOff 77 = .ok (.aload_n 0, 1) := by decide +kernel
theorem dX7_readOff_78 : decode cX7_readOff 78 = .ok (.dup, 1) := by decide +kernel
theorem dX7_readOff_79 : decode cX7_readOff 79 = .ok (.getfield 15, 3) := by decide +kernel
theorem dX7_readOff_82 : decode cX7_readOff 82 = .ok (.aload_n 0, 1) := by decide +kernel
theorem dX7_readOff_83 : decode cX7_readOff 83 = .ok (.getfield 18, 3) := by decide +kernel
theorem dX7_readOff_86 : decode cX7_readOff 86 = .ok (.iload_n 3, 1) := by decide +kernel
theorem dX7_readOff_87 : decode cX7_readOff 87 = .ok (.laload, 1) := by decide +kernel
theorem dX7_readOff_88 : decode cX7_readOff 88 = .ok (.aload_n 1, 1) := by decide +kernel
theorem dX7_readOff_89 : decode cX7_readOff 89 = .ok (.getfield 47, 3) := by decide +kernel
theorem dX7_readOff_92 : decode cX7_readOff 92 = .ok (.iload_n 3, 1) := by decide +kernel
theorem dX7_readOff_93 : decode cX7_readOff 93 = .ok (.laload, 1) := by decide +kernel
theorem dX7_readOff_94 : decode cX7_readOff 94 = .ok (.lmul, 1) := by decide +kernel
theorem dX7_readOff_95 : decode cX7_readOff 95 = .ok (.ladd, 1) := by decide +kernel
theorem dX7_readOff_96 : decode cX7_readOff 96 = .ok (.putfield 15, 3) := by decide +kernel
theorem dX7_readOff_99 : decode cX7_readOff 99 = .ok (.iinc 3 1, 3) := by decide +kernel
theorem dX7_readOff_102 : decode cX7_readOff 102 = .ok (.goto (-87), 3) := by decide +kernel
theorem dX7_readOff_105 : decode cX7_readOff 105 = .ok (.iconst 0, 1) := by decide +kernel
theorem dX7_readOff_106 : decode cX7_readOff 106 = .ok (.istore_n 3, 1) := by decide +kernel
theorem dX7_readOff_107 : decode cX7_readOff 107 = .ok (.iload_n 3, 1) := by decide +kernel
theorem dX7_readOff_108 : decode cX7_readOff 108 = .ok (.aload_n 1, 1) := by decide +kernel
theorem dX7_readOff_109 : decode cX7_readOff 109 = .ok (.getfield 50, 3) := by decide +kernel
theorem dX7_readOff_112 : decode cX7_readOff 112 = .ok (.if_icmp .ge 22, 3) := by decide +kernel
theorem dX7_readOff_115 : decode cX7_readOff 115 = .ok (.aload_n 0, 1) := by decide +kernel
theorem dX7_readOff_116 : decode cX7_readOff 116 = .ok (.aload_n 1, 1) := by decide +kernel
theorem dX7_readOff_117 : decode cX7_readOff 117 = .ok (.iload_n 3, 1) := by decide +kernel
theorem dX7_readOff_118 : decode cX7_readOff 118 = .ok (.invokevirtual 53, 3) := by decide +kernel
theorem dX7_readOff_121 : decode cX7_readOff 121 = .ok (.lconst 0, 1) := by decide +kernel
theorem dX7_readOff_122 : decode cX7_readOff 122 = .ok (.lcmp, 1) := by decide +kernel
theorem dX7_readOff_123 : decode cX7_readOff 123 = .ok (.ifCond .ge 5, 3) := by decide +kernel
theorem dX7_readOff_126 : decode cX7_readOff 126 = .ok (.iconst 0, 1) := by decide +kernel
theorem dX7_readOff_127 : decode cX7_readOff 127 = .ok (.ireturn, 1) := by decide +kernel
theorem dX7_readOff_128 : decode cX7_readOff 128 = .ok (.iinc 3 1, 3) := by decide +kernel
theorem dX7_readOff_131 : decode cX7_readOff 131 = .ok (.goto (-24), 3) := by decide +kernel
theorem dX7_readOff_134 : decode cX7_readOff 134 = .ok (.iconst 1, 1) := by decide +kernel
theorem dX7_readOff_135 : decode cX7_readOff 135 = .ok (.ireturn, 1) := by decide +kernel
theorem dX7_excess_0 : decode cX7_excess 0 = .ok (.aload_n 1, 1) := by decide +kernel
theorem dX7_excess_1 : decode cX7_excess 1 = .ok (.getfield 36, 3) := by decide +kernel
theorem dX7_excess_4 : decode cX7_excess 4 = .ok (.iload_n 2, 1) := by decide +kernel
theorem dX7_excess_5 : decode cX7_excess 5 = .ok (.laload, 1) := by decide +kernel
theorem dX7_excess_6 : decode cX7_excess 6 = .ok (.aload_n 0, 1) := by decide +kernel
theorem dX7_excess_7 : decode cX7_excess 7 = .ok (.getfield 9, 3) := by decide +kernel
theorem dX7_excess_10 : decode cX7_excess 10 = .ok (.lmul, 1) := by decide +kernel
theorem dX7_excess_11 : decode cX7_excess 11 = .ok (.lstore_n 3, 1) := by decide +kernel
theorem dX7_excess_12 : decode cX7_excess 12 = .ok (.iconst 1, 1) := by decide +kernel
theorem dX7_excess_13 : decode cX7_excess 13 = .ok (.istore 5, 2) := by decide +kernel
theorem dX7_excess_15 : decode cX7_excess 15 = .ok (.iload 5, 2) := by decide +kernel
theorem dX7_excess_17 : decode cX7_excess 17 = .ok (.aload_n 1, 1) := by decide +kernel
theorem dX7_excess_18 : decode cX7_excess 18 = .ok (.getfield 27, 3) := by decide +kernel
theorem dX7_excess_21 : decode cX7_excess 21 = .ok (.if_icmp .gt 29, 3) := by decide +kernel
theorem dX7_excess_24 : decode cX7_excess 24 = .ok (.lload_n 3, 1) := by decide +kernel
theorem dX7_excess_25 : decode cX7_excess 25 = .ok (.aload_n 0, 1) := by decide +kernel
theorem dX7_excess_26 : decode cX7_excess 26 = .ok (.getfield 18, 3) := by decide +kernel
theorem dX7_excess_29 : decode cX7_excess 29 = .ok (.iload 5, 2) := by decide +kernel
theorem dX7_excess_31 : decode cX7_excess 31 = .ok (.laload, 1) := by decide +kernel
theorem dX7_excess_32 : decode cX7_excess 32 = .ok (.aload_n 1, 1) := by decide +kernel
theorem dX7_excess_33 : decode cX7_excess 33 = .ok (.getfield 57, 3) := by decide +kernel
theorem dX7_excess_36 : decode cX7_excess 36 = .ok (.iload_n 2, 1) := by decide +kernel
theorem dX7_excess_37 : decode cX7_excess 37 = .ok (.aaload, 1) := by decide +kernel
theorem dX7_excess_38 : decode cX7_excess 38 = .ok (.iload 5, 2) := by decide +kernel
theorem dX7_excess_40 : decode cX7_excess 40 = .ok (.laload, 1) := by decide +kernel
theorem dX7_excess_41 : decode cX7_excess 41 = .ok (.lmul, 1) := by decide +kernel
theorem dX7_excess_42 : decode cX7_excess 42 = .ok (.lsub, 1) := by decide +kernel
theorem dX7_excess_43 : decode cX7_excess 43 = .ok (.lstore_n 3, 1) := by decide +kernel
theorem dX7_excess_44 : decode cX7_excess 44 = .ok (.iinc 5 1, 3) := by decide +kernel
theorem dX7_excess_47 : decode cX7_excess 47 = .ok (.goto (-32), 3) := by decide +kernel
theorem dX7_excess_50 : decode cX7_excess 50 = .ok (.lload_n 3, 1) := by decide +kernel
theorem dX7_excess_51 : decode cX7_excess 51 = .ok (.lreturn, 1) := by decide +kernel
theorem dX7_isBetterThan_0 : decode cX7_isBetterThan 0 = .ok (.aload_n 1, 1) := by decide +kernel
theorem dX7_isBetterThan_1 : decode cX7_isBetterThan 1 = .ok (.getfield 9, 3) := by decide +kernel
theorem dX7_isBetterThan_4 : decode cX7_isBetterThan 4 = .ok (.lconst 0, 1) := by decide +kernel
theorem dX7_isBetterThan_5 : decode cX7_isBetterThan 5 = .ok (.lcmp, 1) := by decide +kernel
theorem dX7_isBetterThan_6 : decode cX7_isBetterThan 6 = .ok (.ifCond .ne 5, 3) := by decide +kernel
theorem dX7_isBetterThan_9 : decode cX7_isBetterThan 9 = .ok (.iconst 1, 1) := by decide +kernel
theorem dX7_isBetterThan_10 : decode cX7_isBetterThan 10 = .ok (.ireturn, 1) := by decide +kernel
theorem dX7_isBetterThan_11 : decode cX7_isBetterThan 11 = .ok (.aload_n 1, 1) := by decide +kernel
theorem dX7_isBetterThan_12 : decode cX7_isBetterThan 12 = .ok (.getfield 15, 3) := by decide +kernel
theorem dX7_isBetterThan_15 : decode cX7_isBetterThan 15 = .ok (.aload_n 0, 1) := by decide +kernel
theorem dX7_isBetterThan_16 : decode cX7_isBetterThan 16 = .ok (.getfield 9, 3) := by decide +kernel
theorem dX7_isBetterThan_19 : decode cX7_isBetterThan 19 = .ok (.lmul, 1) := by decide +kernel
theorem dX7_isBetterThan_20 : decode cX7_isBetterThan 20 = .ok (.aload_n 0, 1) := by decide +kernel
theorem dX7_isBetterThan_21 : decode cX7_isBetterThan 21 = .ok (.getfield 15, 3) := by decide +kernel
theorem dX7_isBetterThan_24 : decode cX7_isBetterThan 24 = .ok (.aload_n 1, 1) := by decide +kernel
theorem dX7_isBetterThan_25 : decode cX7_isBetterThan 25 = .ok (.getfield 9, 3) := by decide +kernel
theorem dX7_isBetterThan_28 : decode cX7_isBetterThan 28 = .ok (.lmul, 1) := by decide +kernel
theorem dX7_isBetterThan_29 : decode cX7_isBetterThan 29 = .ok (.invokestatic 61, 3) := by decide +kernel
theorem dX7_isBetterThan_32 : decode cX7_isBetterThan 32 = .ok (.istore_n 3, 1) := by decide +kernel
theorem dX7_isBetterThan_33 : decode cX7_isBetterThan 33 = .ok (.iconst 1, 1) := by decide +kernel
theorem dX7_isBetterThan_34 : decode cX7_isBetterThan 34 = .ok (.istore 4, 2) := by decide +kernel
theorem dX7_isBetterThan_36 : decode cX7_isBetterThan 36 = .ok (.iload 4, 2) := by decide +kernel
theorem dX7_isBetterThan_38 : decode cX7_isBetterThan 38 = .ok (.iload_n 2, 1) := by decide +kernel
theorem dX7_isBetterThan_39 : decode cX7_isBetterThan 39 = .ok (.if_icmp .gt 41, 3) := by decide +kernel
theorem dX7_isBetterThan_42 : decode cX7_isBetterThan 42 = .ok (.iload_n 3, 1) := by decide +kernel
theorem dX7_isBetterThan_43 : decode cX7_isBetterThan 43 = .ok (.ifCond .ne 37, 3) := by decide +kernel
theorem dX7_isBetterThan_46 : decode cX7_isBetterThan 46 = .ok (.aload_n 0, 1) := by decide +kernel
theorem dX7_isBetterThan_47 : decode cX7_isBetterThan 47 = .ok (.getfield 18, 3) := by decide +kernel
theorem dX7_isBetterThan_50 : decode cX7_isBetterThan 50 = .ok (.iload 4, 2) := by decide +kernel
theorem dX7_isBetterThan_52 : decode cX7_isBetterThan 52 = .ok (.laload, 1) := by decide +kernel
theorem dX7_isBetterThan_53 : decode cX7_isBetterThan 53 = .ok (.aload_n 1, 1) := by decide +kernel
theorem dX7_isBetterThan_54 : decode cX7_isBetterThan 54 = .ok (.getfield 9, 3) := by decide +kernel
theorem dX7_isBetterThan_57 : decode cX7_isBetterThan 57 = .ok (.lmul, 1) := by decide +kernel
theorem dX7_isBetterThan_58 : decode cX7_isBetterThan 58 = .ok (.aload_n 1, 1) := by decide +kernel
theorem dX7_isBetterThan_59 : decode cX7_isBetterThan 59 = .ok (.getfield 18, 3) := by decide +kernel
theorem dX7_isBetterThan_62 : decode cX7_isBetterThan 62 = .ok (.iload 4, 2) := by decide +kernel
theorem dX7_isBetterThan_64 : decode cX7_isBetterThan 64 = .ok (.laload, 1) := by decide +kernel
theorem dX7_isBetterThan_65 : decode cX7_isBetterThan 65 = .ok (.aload_n 0, 1) := by decide +kernel
theorem dX7_isBetterThan_66 : decode cX7_isBetterThan 66 = .ok (.getfield 9, 3) := by decide +kernel
theorem dX7_isBetterThan_69 : decode cX7_isBetterThan 69 = .ok (.lmul, 1) := by decide +kernel
theorem dX7_isBetterThan_70 : decode cX7_isBetterThan 70 = .ok (.invokestatic 61, 3) := by decide +kernel
theorem dX7_isBetterThan_73 : decode cX7_isBetterThan 73 = .ok (.istore_n 3, 1) := by decide +kernel
theorem dX7_isBetterThan_74 : decode cX7_isBetterThan 74 = .ok (.iinc 4 1, 3) := by decide +kernel
theorem dX7_isBetterThan_77 : decode cX7_isBetterThan 77 = .ok (.goto (-41), 3) := by decide +kernel
theorem dX7_isBetterThan_80 : decode cX7_isBetterThan 80 = .ok (.iload_n 3, 1) := by decide +kernel
theorem dX7_isBetterThan_81 : decode cX7_isBetterThan 81 = .ok (.ifCond .ge 7, 3) := by decide +kernel
theorem dX7_isBetterThan_84 : decode cX7_isBetterThan 84 = .ok (.iconst 1, 1) := by decide +kernel
theorem dX7_isBetterThan_85 : decode cX7_isBetterThan 85 = .ok (.goto 4, 3) := by decide +kernel
theorem dX7_isBetterThan_88 : decode cX7_isBetterThan 88 = .ok (.iconst 0, 1) := by decide +kernel
theorem dX7_isBetterThan_89 : decode cX7_isBetterThan 89 = .ok (.ireturn, 1) := by decide +kernel
theorem dX8_init_0 : decode cX8_init 0 = .ok (.aload_n 0, 1) := by decide +kernel
theorem dX8_init_1 : decode cX8_init 1 = .ok (.invokespecial 3, 3) := by decide +kernel
theorem dX8_init_4 : decode cX8_init 4 = .ok (.aload_n 0, 1) := by decide +kernel
theorem dX8_init_5 : decode cX8_init 5 = .ok (.iconst 0, 1) := by decide +kernel
theorem dX8_init_6 : decode cX8_init 6 = .ok (.putfield 9, 3) := by decide +kernel
theorem dX8_init_9 : decode cX8_init 9 = .ok (.aload_n 0, 1) := by decide +kernel
theorem dX8_init_10 : decode cX8_init 10 = .ok (.iconst 0, 1) := by decide +kernel
theorem dX8_init_11 : decode cX8_init 11 = .ok (.putfield 15, 3) := by decide +kernel
theorem dX8_init_14 : decode cX8_init 14 = .ok (.aload_n 0, 1) := by decide +kernel
theorem dX8_init_15 : decode cX8_init 15 = .ok (.sipush 300, 3) := by decide +kernel
theorem dX8_init_18 : decode cX8_init 18 = .ok (.newarray .byte, 2) := by decide +kernel
theorem dX8_init_20 : decode cX8_init 20 = .ok (.putfield 18, 3) := by decide +kernel
theorem dX8_init_23 : decode cX8_init 23 = .ok (.aload_n 0, 1) := by decide +kernel
theorem dX8_init_24 : decode cX8_init 24 = .ok (.iconst 4, 1) := by decide +kernel
theorem dX8_init_25 : decode cX8_init 25 = .ok (.newarray .int, 2) := by decide +kernel
theorem dX8_init_27 : decode cX8_init 27 = .ok (.putfield 22, 3) := by decide +kernel
theorem dX8_init_30 : decode cX8_init 30 = .ok (.aload_n 0, 1) := by decide +kernel
theorem dX8_init_31 : decode cX8_init 31 = .ok (.iconst 0, 1) := by decide +kernel
theorem dX8_init_32 : decode cX8_init 32 = .ok (.putfield 26, 3) := by decide +kernel
theorem dX8_init_35 : decode cX8_init 35 = .ok (.aload_n 0, 1) := by decide +kernel
theorem dX8_init_36 : decode cX8_init 36 = .ok (.iconst 0, 1) := by decide +kernel
theorem dX8_init_37 : decode cX8_init 37 = .ok (.putfield 29, 3) := by decide +kernel
theorem dX8_init_40 : decode cX8_init 40 = .ok (.aload_n 0, 1) := by decide +kernel
theorem dX8_init_41 : decode cX8_init 41 = .ok (.iconst 0, 1) := by decide +kernel
theorem dX8_init_42 : decode cX8_init 42 = .ok (.putfield 32, 3) := by decide +kernel
theorem dX8_init_45 : decode cX8_init 45 = .ok (.return_, 1) := by decide +kernel
theorem dX8_hasRoom_0 : decode cX8_hasRoom 0 = .ok (.aload_n 0, 1) := by decide +kernel
theorem dX8_hasRoom_1 : decode cX8_hasRoom 1 = .ok (.getfield 9, 3) := by decide +kernel
theorem dX8_hasRoom_4 : decode cX8_hasRoom 4 = .ok (.iload_n 1, 1) := by decide +kernel
theorem dX8_hasRoom_5 : decode cX8_hasRoom 5 = .ok (.iadd, 1) := by decide +kernel
theorem dX8_hasRoom_6 : decode cX8_hasRoom 6 = .ok (.sipush 300, 3) := by decide +kernel
theorem dX8_hasRoom_9 : decode cX8_hasRoom 9 = .ok (.if_icmp .gt 7, 3) := by decide +kernel
theorem dX8_hasRoom_12 : decode cX8_hasRoom 12 = .ok (.iconst 1, 1) := by decide +kernel
theorem dX8_hasRoom_13 : decode cX8_hasRoom 13 = .ok (.goto 4, 3) := by decide +kernel
theorem dX8_hasRoom_16 : decode cX8_hasRoom 16 = .ok (.iconst 0, 1) := by decide +kernel
theorem dX8_hasRoom_17 : decode cX8_hasRoom 17 = .ok (.ireturn, 1) := by decide +kernel
theorem dX8_addBytes_0 : decode cX8_addBytes 0 = .ok (.bipush 24, 2) := by decide +kernel
theorem dX8_addBytes_2 : decode cX8_addBytes 2 = .ok (.istore_n 2, 1) := by decide +kernel
theorem dX8_addBytes_3 : decode cX8_addBytes 3 = .ok (.iload_n 2, 1) := by decide +kernel
theorem dX8_addBytes_4 : decode cX8_addBytes 4 = .ok (.ifCond .lt 40, 3) := by decide +kernel
theorem dX8_addBytes_7 : decode cX8_addBytes 7 = .ok (.aload_n 0, 1) := by decide +kernel
theorem dX8_addBytes_8 : decode cX8_addBytes 8 = .ok (.iconst 1, 1) := by decide +kernel
theorem dX8_addBytes_9 : decode cX8_addBytes 9 = .ok (.invokevirtual 35, 3) := by decide +kernel
theorem dX8_addBytes_12 : decode cX8_addBytes 12 = .ok (.ifCond .eq 32, 3) := by decide +kernel
theorem dX8_addBytes_15 : decode cX8_addBytes 15 = .ok (.aload_n 0, 1) := by decide +kernel
theorem dX8_addBytes_16 : decode cX8_addBytes 16 = .ok (.getfield 18, 3) := by decide +kernel
theorem dX8_addBytes_19 : decode cX8_addBytes 19 = .ok (.aload_n 0, 1) := by decide +kernel
theorem dX8_addBytes_20 : decode cX8_addBytes 20 = .ok (.getfield 9, 3) := by decide +kernel
theorem dX8_addBytes_23 : decode cX8_addBytes 23 = .ok (.iload_n 1, 1) := by decide +kernel
theorem dX8_addBytes_24 : decode cX8_addBytes 24 = .ok (.iload_n 2, 1) := by decide +kernel
theorem dX8_addBytes_25 : decode cX8_addBytes 25 = .ok (.iushr, 1) := by decide +kernel
theorem dX8_addBytes_26 : decode cX8_addBytes 26 = .ok (.i2b, 1) := by decide +kernel
theorem dX8_addBytes_27 : decode cX8_addBytes 27 = .ok (.bastore, 1) := by decide +kernel
theorem dX8_addBytes_28 : decode cX8_addBytes 28 = .ok (.aload_n 0, 1) := by decide +kernel
theorem dX8_addBytes_29 : decode cX8_addBytes 29 = .ok (.dup, 1) := by decide +kernel
theorem dX8_addBytes_30 : decode cX8_addBytes 30 = .ok (.getfield 9, 3) := by decide +kernel
theorem dX8_addBytes_33 : decode cX8_addBytes 33 = .ok (.iconst 1, 1) := by decide +kernel
theorem dX8_addBytes_34 : decode cX8_addBytes 34 = .ok (.iadd, 1) := by decide +kernel
theorem dX8_addBytes_35 : decode cX8_addBytes 35 = .ok (.putfield 9, 3) := by decide +kernel
theorem dX8_addBytes_38 : decode cX8_addBytes 38 = .ok (.iinc 2 (-8), 3) := by decide +kernel
theorem dX8_addBytes_41 : decode cX8_addBytes 41 = .ok (.goto (-38), 3) := by decide +kernel
theorem dX8_addBytes_44 : decode cX8_addBytes 44 = .ok (.return_, 1) := by decide +kernel
theorem dX8_tellTo_0 : decode cX8_tellTo 0 = .ok (.aload_n 0, 1) := by decide +kernel
theorem dX8_tellTo_1 : decode cX8_tellTo 1 = .ok (.iconst 0, 1) := by decide +kernel
theorem dX8_tellTo_2 : decode cX8_tellTo 2 = .ok (.putfield 15, 3) := by decide +kernel
theorem dX8_tellTo_5 : decode cX8_tellTo 5 = .ok (.aload_n 0, 1) := by decide +kernel
theorem dX8_tellTo_6 : decode cX8_tellTo 6 = .ok (.iconst 0, 1) := by decide +kernel
theorem dX8_tellTo_7 : decode cX8_tellTo 7 = .ok (.putfield 32, 3) := by decide +kernel
theorem dX8_tellTo_10 : decode cX8_tellTo 10 = .ok (.iconst 0, 1) := by decide +kernel
theorem dX8_tellTo_11 : decode cX8_tellTo 11 = .ok (.istore_n 2, 1) := by decide +kernel
theorem dX8_tellTo_12 : decode cX8_tellTo 12 = .ok (.aload_n 0, 1) := by decide +kernel
theorem dX8_tellTo_13 : decode cX8_tellTo 13 = .ok (.invokevirtual 39, 3) := by decide +kernel
theorem dX8_tellTo_16 : decode cX8_tellTo 16 = .ok (.aload_n 0, 1) := by decide +kernel
theorem dX8_tellTo_17 : decode cX8_tellTo 17 = .ok (.getfield 26, 3) := by decide +kernel
theorem dX8_tellTo_20 : decode cX8_tellTo 20 = .ok (.ifCond .eq 30, 3) := by decide +kernel
theorem dX8_tellTo_23 : decode cX8_tellTo 23 = .ok (.iload_n 2, 1) := by decide +kernel
theorem dX8_tellTo_24 : decode cX8_tellTo 24 = .ok (.sipush 300, 3) := by decide +kernel
theorem dX8_tellTo_27 : decode cX8_tellTo 27 = .ok (.if_icmp .gt 23, 3) := by decide +kernel
theorem dX8_tellTo_30 : decode cX8_tellTo 30 = .ok (.aload_n 0, 1) := by decide +kernel
theorem dX8_tellTo_31 : decode cX8_tellTo 31 = .ok (.aload_n 1, 1) := by decide +kernel
theorem dX8_tellTo_32 : decode cX8_tellTo 32 = .ok (.invokevirtual 42, 3) := by decide +kernel
theorem dX8_tellTo_35 : decode cX8_tellTo 35 = .ok (.ifCond .ne 5, 3) := by decide +kernel
theorem dX8_tellTo_38 : decode cX8_tellTo 38 = .ok (.iconst (-1), 1) := by decide +kernel
theorem dX8_tellTo_39 : decode cX8_tellTo 39 = .ok (.ireturn, 1) := by decide +kernel
theorem dX8_tellTo_40 : decode cX8_tellTo 40 = .ok (.iinc 2 1, 3) := by decide +kernel
theorem dX8_tellTo_43 : decode cX8_tellTo 43 = .ok (.aload_n 0, 1) := by decide +kernel
theorem dX8_tellTo_44 : decode cX8_tellTo 44 = .ok (.invokevirtual 39, 3) := by decide +kernel
theorem dX8_tellTo_47 : decode cX8_tellTo 47 = .ok (.goto (-31), 3) := by decide +kernel
theorem dX8_tellTo_50 : decode cX8_tellTo 50 = .ok (.iload_n 2, 1) := by decide +kernel
theorem dX8_tellTo_51 : decode cX8_tellTo 51 = .ok (.ireturn, 1) := by decide +kernel
theorem dX8_tellStatement_0 : decode cX8_tellStatement 0 = .ok (.aload_n 0, 1) := by decide +kernel
theorem dX8_tellStatement_1 : decode cX8_tellStatement 1 = .ok (.invokevirtual 46, 3) := by decide +kernel
theorem dX8_tellStatement_4 : decode cX8_tellStatement 4 = .ok (.istore_n 2, 1) := by decide +kernel
theorem dX8_tellStatement_5 : decode cX8_tellStatement 5 = .ok (.iload_n 2, 1) := by decide +kernel
theorem dX8_tellStatement_6 : decode cX8_tellStatement 6 = .ok (.iconst (-1), 1) := by decide +kernel
theorem dX8_tellStatement_7 : decode cX8_tellStatement 7 = .ok (.if_icmp .ne 9, 3) := by decide +kernel
theorem dX8_tellStatement_10 : decode cX8_tellStatement 10 = .ok (.aload_n 0, 1) := by decide +kernel
theorem dX8_tellStatement_11 : decode cX8_tellStatement 11 = .ok (.iconst 1, 1) := by decide +kernel
theorem dX8_tellStatement_12 : decode cX8_tellStatement 12 = .ok (.invokevirtual 50, 3) := by decide +kernel
theorem dX8_tellStatement_15 : decode cX8_tellStatement 15 = .ok (.ireturn, 1) := by decide +kernel
theorem dX8_tellStatement_16 : decode cX8_tellStatement 16 = .ok (.iload_n 2, 1) := by decide +kernel
theorem dX8_tellStatement_17 : decode cX8_tellStatement 17 = .ok (.iconst 3, 1) := by decide +kernel
theorem dX8_tellStatement_18 : decode cX8_tellStatement 18 = .ok (.if_icmp .ne 16, 3) := by decide +kernel
theorem dX8_tellStatement_21 : decode cX8_tellStatement 21 = .ok (.aload_n 1, 1) := by decide +kernel
theorem dX8_tellStatement_22 : decode cX8_tellStatement 22 = .ok (.invokevirtual 53, 3) := by decide +kernel
theorem dX8_tellStatement_25 : decode cX8_tellStatement 25 = .ok (.ifCond .eq 9, 3) := by decide +kernel
theorem dX8_tellStatement_28 : decode cX8_tellStatement 28 = .ok (.aload_n 0, 1) := by decide +kernel
theorem dX8_tellStatement_29 : decode cX8_tellStatement 29 = .ok (.iconst 3, 1) := by decide +kernel
theorem dX8_tellStatement_30 : decode cX8_tellStatement 30 = .ok (.invokevirtual 50, 3) := by decide +kernel
theorem dX8_tellStatement_33 : decode cX8_tellStatement 33 = .ok (.ireturn, 1) := by decide +kernel
theorem dX8_tellStatement_34 : decode cX8_tellStatement 34 = .ok (.aload_n 0, 1) := by decide +kernel
theorem dX8_tellStatement_35 : decode cX8_tellStatement 35 = .ok (.aload_n 1, 1) := by decide +kernel
theorem dX8_tellStatement_36 : decode cX8_tellStatement 36 = .ok (.iload_n 2, 1) := by decide +kernel
theorem dX8_tellStatement_37 : decode cX8_tellStatement 37 = .ok (.invokevirtual 59, 3) := by decide +kernel
theorem dX8_tellStatement_40 : decode cX8_tellStatement 40 = .ok (.ifCond .ne 5, 3) := by decide +kernel
theorem dX8_tellStatement_43 : decode cX8_tellStatement 43 = .ok (.iconst 0, 1) := by decide +kernel
theorem dX8_tellStatement_44 : decode cX8_tellStatement 44 = .ok (.ireturn, 1) := by decide +kernel
theorem dX8_tellStatement_45 : decode cX8_tellStatement 45 = .ok (.aload_n 0, 1) := by decide +kernel
theorem dX8_tellStatement_46 : decode cX8_tellStatement 46 = .ok (.invokevirtual 39, 3) := by decide +kernel
theorem dX8_tellStatement_49 : decode cX8_tellStatement 49 = .ok (.aload_n 0, 1) := by decide +kernel
theorem dX8_tellStatement_50 : decode cX8_tellStatement 50 = .ok (.aload_n 0, 1) := by decide +kernel
theorem dX8_tellStatement_51 : decode cX8_tellStatement 51 = .ok (.getfield 29, 3) := by decide +kernel
theorem dX8_tellStatement_54 : decode cX8_tellStatement 54 = .ok (.invokevirtual 63, 3) := by decide +kernel
theorem dX8_tellStatement_57 : decode cX8_tellStatement 57 = .ok (.bipush 59, 2) := by decide +kernel
theorem dX8_tellStatement_59 : decode cX8_tellStatement 59 = .ok (.if_icmp .eq 9, 3) := by decide +kernel
theorem dX8_tellStatement_62 : decode cX8_tellStatement 62 = .ok (.aload_n 0, 1) := by decide +kernel
theorem dX8_tellStatement_63 : decode cX8_tellStatement 63 = .ok (.iconst 1, 1) := by decide +kernel
theorem dX8_tellStatement_64 : decode cX8_tellStatement 64 = .ok (.invokevirtual 50, 3) := by decide +kernel
theorem dX8_tellStatement_67 : decode cX8_tellStatement 67 = .ok (.ireturn, 1) := by decide +kernel
theorem dX8_tellStatement_68 : decode cX8_tellStatement 68 = .ok (.aload_n 0, 1) := by decide +kernel
theorem dX8_tellStatement_69 : decode cX8_tellStatement 69 = .ok (.aload_n 1, 1) := by decide +kernel
theorem dX8_tellStatement_70 : decode cX8_tellStatement 70 = .ok (.iload_n 2, 1) := by decide +kernel
theorem dX8_tellStatement_71 : decode cX8_tellStatement 71 = .ok (.invokevirtual 67, 3) := by decide +kernel
theorem dX8_tellStatement_74 : decode cX8_tellStatement 74 = .ok (.iconst 1, 1) := by decide +kernel
theorem dX8_tellStatement_75 : decode cX8_tellStatement 75 = .ok (.ireturn, 1) := by decide +kernel
theorem dX8_readNumbers_0 : decode cX8_readNumbers 0 = .ok (.iconst 0, 1) := by decide +kernel
theorem dX8_readNumbers_1 : decode cX8_readNumbers 1 = .ok (.istore_n 3, 1) := by decide +kernel
theorem dX8_readNumbers_2 : decode cX8_readNumbers 2 = .ok (.iload_n 3, 1) := by decide +kernel
theorem dX8_readNumbers_3 : decode cX8_readNumbers 3 = .ok (.getstatic 71, 3) := by decide +kernel
theorem dX8_readNumbers_6 : decode cX8_readNumbers 6 = .ok (.iload_n 2, 1) := by decide +kernel
theorem dX8_readNumbers_7 : decode cX8_readNumbers 7 = .ok (.iaload, 1) := by decide +kernel
theorem dX8_readNumbers_8 : decode cX8_readNumbers 8 = .ok (.if_icmp .ge 70, 3) := by decide +kernel
theorem dX8_readNumbers_11 : decode cX8_readNumbers 11 = .ok (.iload_n 3, 1) := by decide +kernel
theorem dX8_readNumbers_12 : decode cX8_readNumbers 12 = .ok (.iconst 4, 1) := by decide +kernel
theorem dX8_readNumbers_13 : decode cX8_readNumbers 13 = .ok (.if_icmp .ge 65, 3) := by decide +kernel
theorem dX8_readNumbers_16 : decode cX8_readNumbers 16 = .ok (.aload_n 0, 1) := by decide +kernel
theorem dX8_readNumbers_17 : decode cX8_readNumbers 17 = .ok (.invokevirtual 39, 3) := by decide +kernel
theorem dX8_readNumbers_20 : decode cX8_readNumbers 20 = .ok (.aload_n 0, 1) := by decide +kernel
theorem dX8_readNumbers_21 : decode cX8_readNumbers 21 = .ok (.getfield 26, 3) := by decide +kernel
theorem dX8_readNumbers_24 : decode cX8_readNumbers 24 = .ok (.iconst 2, 1) := by decide +kernel
theorem dX8_readNumbers_25 : decode cX8_readNumbers 25 = .ok (.if_icmp .eq 9, 3) := by decide +kernel
theorem dX8_readNumbers_28 : decode cX8_readNumbers 28 = .ok (.aload_n 0, 1) := by decide +kernel
theorem dX8_readNumbers_29 : decode cX8_readNumbers 29 = .ok (.iconst 1, 1) := by decide +kernel
theorem dX8_readNumbers_30 : decode cX8_readNumbers 30 = .ok (.invokevirtual 50, 3) := by decide +kernel
theorem dX8_readNumbers_33 : decode cX8_readNumbers 33 = .ok (.ireturn, 1) := by decide +kernel
theorem dX8_readNumbers_34 : decode cX8_readNumbers 34 = .ok (.aload_n 0, 1) := by decide +kernel
theorem dX8_readNumbers_35 : decode cX8_readNumbers 35 = .ok (.invokevirtual 74, 3) := by decide +kernel
theorem dX8_readNumbers_38 : decode cX8_readNumbers 38 = .ok (.istore 4, 2) := by decide +kernel
theorem dX8_readNumbers_40 : decode cX8_readNumbers 40 = .ok (.aload_n 1, 1) := by decide +kernel
theorem dX8_readNumbers_41 : decode cX8_readNumbers 41 = .ok (.getstatic 77, 3) := by decide +kernel
theorem dX8_readNumbers_44 : decode cX8_readNumbers 44 = .ok (.iload_n 2, 1) := by decide +kernel
theorem dX8_readNumbers_45 : decode cX8_readNumbers 45 = .ok (.iconst 4, 1) := by decide +kernel
theorem dX8_readNumbers_46 : decode cX8_readNumbers 46 = .ok (.imul, 1) := by decide +kernel
theorem dX8_readNumbers_47 : decode cX8_readNumbers 47 = .ok (.iload_n 3, 1) := by decide +kernel
theorem dX8_readNumbers_48 : decode cX8_readNumbers 48 = .ok (.iadd, 1) := by decide +kernel
theorem dX8_readNumbers_49 : decode cX8_readNumbers 49 = .ok (.iaload, 1) := by decide +kernel
theorem dX8_readNumbers_50 : decode cX8_readNumbers 50 = .ok (.iload 4, 2) := by decide +kernel
theorem dX8_readNumbers_52 : decode cX8_readNumbers 52 = .ok (.invokevirtual 80, 3) := by decide +kernel
theorem dX8_readNumbers_55 : decode cX8_readNumbers 55 = .ok (.ifCond .ne 9, 3) := by decide +kernel
theorem dX8_readNumbers_58 : decode cX8_readNumbers 58 = .ok (.aload_n 0, 1) := by decide +kernel
theorem dX8_readNumbers_59 : decode cX8_readNumbers 59 = .ok (.iconst 2, 1) := by decide +kernel
theorem dX8_readNumbers_60 : decode cX8_readNumbers 60 = .ok (.invokevirtual 50, 3) := by decide +kernel
theorem dX8_readNumbers_63 : decode cX8_readNumbers 63 = .ok (.ireturn, 1) := by decide +kernel
theorem dX8_readNumbers_64 : decode cX8_readNumbers 64 = .ok (.aload_n 0, 1) := by decide +kernel
theorem dX8_readNumbers_65 : decode cX8_readNumbers 65 = .ok (.getfield 22, 3) := by decide +kernel
theorem dX8_readNumbers_68 : decode cX8_readNumbers 68 = .ok (.iload_n 3, 1) := by decide +kernel
theorem dX8_readNumbers_69 : decode cX8_readNumbers 69 = .ok (.iload 4, 2) := by decide +kernel
theorem dX8_readNumbers_71 : decode cX8_readNumbers 71 = .ok (.iastore, 1) := by decide +kernel
theorem dX8_readNumbers_72 : decode cX8_readNumbers 72 = .ok (.iinc 3 1, 3) := by decide +kernel
theorem dX8_readNumbers_75 : decode cX8_readNumbers 75 = .ok (.goto (-73), 3) := by decide +kernel
theorem dX8_readNumbers_78 : decode cX8_readNumbers 78 = .ok (.iconst 1, 1) := by decide +kernel
theorem dX8_readNumbers_79 : decode cX8_readNumbers 79 = .ok (.ireturn, 1) := by decide +kernel
theorem dX8_carryOut_0 : decode cX8_carryOut 0 = .ok (.iload_n 2, 1) := by decide +kernel
theorem dX8_carryOut_1 : decode cX8_carryOut 1 = .ok (.tableswitch 113 0 3 #[31, 44, 63, 82], 31) := by decide +kernel
theorem dX8_carryOut_32 : decode cX8_carryOut 32 = .ok (.aload_n 1, 1) := by decide +kernel
theorem dX8_carryOut_33 : decode cX8_carryOut 33 = .ok (.aload_n 0, 1) := by decide +kernel
theorem dX8_carryOut_34 : decode cX8_carryOut 34 = .ok (.getfield 22, 3) := by decide +kernel
theorem dX8_carryOut_37 : decode cX8_carryOut 37 = .ok (.iconst 0, 1) := by decide +kernel
theorem dX8_carryOut_38 : decode cX8_carryOut 38 = .ok (.iaload, 1) := by decide +kernel
theorem dX8_carryOut_39 : decode cX8_carryOut 39 = .ok (.invokevirtual 84, 3) := by decide +kernel
theorem dX8_carryOut_42 : decode cX8_carryOut 42 = .ok (.goto 89, 3) := by decide +kernel
theorem dX8_carryOut_45 : decode cX8_carryOut 45 = .ok (.aload_n 1, 1) := by decide +kernel
theorem dX8_carryOut_46 : decode cX8_carryOut 46 = .ok (.aload_n 0, 1) := by decide +kernel
theorem dX8_carryOut_47 : decode cX8_carryOut 47 = .ok (.getfield 22, 3) := by decide +kernel
theorem dX8_carryOut_50 : decode cX8_carryOut 50 = .ok (.iconst 0, 1) := by decide +kernel
theorem dX8_carryOut_51 : decode cX8_carryOut 51 = .ok (.iaload, 1) := by decide +kernel
theorem dX8_carryOut_52 : decode cX8_carryOut 52 = .ok (.aload_n 0, 1) := by decide +kernel
theorem dX8_carryOut_53 : decode cX8_carryOut 53 = .ok (.getfield 22, 3) := by decide +kernel
theorem dX8_carryOut_56 : decode cX8_carryOut 56 = .ok (.iconst 1, 1) := by decide +kernel
theorem dX8_carryOut_57 : decode cX8_carryOut 57 = .ok (.iaload, 1) := by decide +kernel
theorem dX8_carryOut_58 : decode cX8_carryOut 58 = .ok (.invokevirtual 88, 3) := by decide +kernel
theorem dX8_carryOut_61 : decode cX8_carryOut 61 = .ok (.goto 70, 3) := by decide +kernel
theorem dX8_carryOut_64 : decode cX8_carryOut 64 = .ok (.aload_n 1, 1) := by decide +kernel
theorem dX8_carryOut_65 : decode cX8_carryOut 65 = .ok (.aload_n 0, 1) := by decide +kernel
theorem dX8_carryOut_66 : decode cX8_carryOut 66 = .ok (.getfield 22, 3) := by decide +kernel
theorem dX8_carryOut_69 : decode cX8_carryOut 69 = .ok (.iconst 0, 1) := by decide +kernel
theorem dX8_carryOut_70 : decode cX8_carryOut 70 = .ok (.iaload, 1) := by decide +kernel
theorem dX8_carryOut_71 : decode cX8_carryOut 71 = .ok (.aload_n 0, 1) := by decide +kernel
theorem dX8_carryOut_72 : decode cX8_carryOut 72 = .ok (.getfield 22, 3) := by decide +kernel
theorem dX8_carryOut_75 : decode cX8_carryOut 75 = .ok (.iconst 1, 1) := by decide +kernel
theorem dX8_carryOut_76 : decode cX8_carryOut 76 = .ok (.iaload, 1) := by decide +kernel
theorem dX8_carryOut_77 : decode cX8_carryOut 77 = .ok (.invokevirtual 92, 3) := by decide +kernel
theorem dX8_carryOut_80 : decode cX8_carryOut 80 = .ok (.goto 51, 3) := by decide +kernel
theorem dX8_carryOut_83 : decode cX8_carryOut 83 = .ok (.aload_n 1, 1) := by decide +kernel
theorem dX8_carryOut_84 : decode cX8_carryOut 84 = .ok (.aload_n 0, 1) := by decide +kernel
theorem dX8_carryOut_85 : decode cX8_carryOut 85 = .ok (.getfield 22, 3) := by decide +kernel
theorem dX8_carryOut_88 : decode cX8_carryOut 88 = .ok (.iconst 0, 1) := by decide +kernel
theorem dX8_carryOut_89 : decode cX8_carryOut 89 = .ok (.iaload, 1) := by decide +kernel
theorem dX8_carryOut_90 : decode cX8_carryOut 90 = .ok (.aload_n 0, 1) := by decide +kernel
theorem dX8_carryOut_91 : decode cX8_carryOut 91 = .ok (.getfield 22, 3) := by decide +kernel
theorem dX8_carryOut_94 : decode cX8_carryOut 94 = .ok (.iconst 1, 1) := by decide +kernel
theorem dX8_carryOut_95 : decode cX8_carryOut 95 = .ok (.iaload, 1) := by decide +kernel
theorem dX8_carryOut_96 : decode cX8_carryOut 96 = .ok (.aload_n 0, 1) := by decide +kernel
theorem dX8_carryOut_97 : decode cX8_carryOut 97 = .ok (.getfield 22, 3) := by decide +kernel
theorem dX8_carryOut_100 : decode cX8_carryOut 100 = .ok (.iconst 2, 1) := by decide +kernel
theorem dX8_carryOut_101 : decode cX8_carryOut 101 = .ok (.iaload, 1) := by decide +kernel
theorem dX8_carryOut_102 : decode cX8_carryOut 102 = .ok (.aload_n 0, 1) := by decide +kernel
theorem dX8_carryOut_103 : decode cX8_carryOut 103 = .ok (.getfield 22, 3) := by decide +kernel
theorem dX8_carryOut_106 : decode cX8_carryOut 106 = .ok (.iconst 3, 1) := by decide +kernel
theorem dX8_carryOut_107 : decode cX8_carryOut 107 = .ok (.iaload, 1) := by decide +kernel
theorem dX8_carryOut_108 : decode cX8_carryOut 108 = .ok (.invokevirtual 95, 3) := by decide +kernel
theorem dX8_carryOut_111 : decode cX8_carryOut 111 = .ok (.goto 20, 3) := by decide +kernel
theorem dX8_carryOut_114 : decode cX8_carryOut 114 = .ok (.aload_n 1, 1) := by decide +kernel
theorem dX8_carryOut_115 : decode cX8_carryOut 115 = .ok (.aload_n 0, 1) := by decide +kernel
theorem dX8_carryOut_116 : decode cX8_carryOut 116 = .ok (.getfield 22, 3) := by decide +kernel
theorem dX8_carryOut_119 : decode cX8_carryOut 119 = .ok (.iconst 0, 1) := by decide +kernel
theorem dX8_carryOut_120 : decode cX8_carryOut 120 = .ok (.iaload, 1) := by decide +kernel
theorem dX8_carryOut_121 : decode cX8_carryOut 121 = .ok (.iconst 4, 1) := by decide +kernel
theorem dX8_carryOut_122 : decode cX8_carryOut 122 = .ok (.aload_n 0, 1) := by decide +kernel
theorem dX8_carryOut_123 : decode cX8_carryOut 123 = .ok (.getfield 22, 3) := by decide +kernel
theorem dX8_carryOut_126 : decode cX8_carryOut 126 = .ok (.iconst 1, 1) := by decide +kernel
theorem dX8_carryOut_127 : decode cX8_carryOut 127 = .ok (.iaload, 1) := by decide +kernel
theorem dX8_carryOut_128 : decode cX8_carryOut 128 = .ok (.invokevirtual 99, 3) := by decide +kernel
theorem dX8_carryOut_131 : decode cX8_carryOut 131 = .ok (.return_, 1) := by decide +kernel
theorem dX8_refuse_0 : decode cX8_refuse 0 = .ok (.aload_n 0, 1) := by decide +kernel
theorem dX8_refuse_1 : decode cX8_refuse 1 = .ok (.iload_n 1, 1) := by decide +kernel
theorem dX8_refuse_2 : decode cX8_refuse 2 = .ok (.bipush 8, 2) := by decide +kernel
theorem dX8_refuse_4 : decode cX8_refuse 4 = .ok (.aload_n 0, 1) := by decide +kernel
theorem dX8_refuse_5 : decode cX8_refuse 5 = .ok (.getfield 29, 3) := by decide +kernel
theorem dX8_refuse_8 : decode cX8_refuse 8 = .ok (.imul, 1) := by decide +kernel
theorem dX8_refuse_9 : decode cX8_refuse 9 = .ok (.iadd, 1) := by decide +kernel
theorem dX8_refuse_10 : decode cX8_refuse 10 = .ok (.putfield 15, 3) := by decide +kernel
theorem dX8_refuse_13 : decode cX8_refuse 13 = .ok (.iconst 0, 1) := by decide +kernel
theorem dX8_refuse_14 : decode cX8_refuse 14 = .ok (.ireturn, 1) := by decide +kernel
theorem dX8_statementOfToken_0 : decode cX8_statementOfToken 0 = .ok (.aload_n 0, 1) := by decide +kernel
theorem dX8_statementOfToken_1 : decode cX8_statementOfToken 1 = .ok (.getfield 26, 3) := by decide +kernel
theorem dX8_statementOfToken_4 : decode cX8_statementOfToken 4 = .ok (.iconst 1, 1) := by decide +kernel
theorem dX8_statementOfToken_5 : decode cX8_statementOfToken 5 = .ok (.if_icmp .eq 5, 3) := by decide +kernel
theorem dX8_statementOfToken_8 : decode cX8_statementOfToken 8 = .ok (.iconst (-1), 1) := by decide +kernel
theorem dX8_statementOfToken_9 : decode cX8_statementOfToken 9 = .ok (.ireturn, 1) := by decide +kernel
theorem dX8_statementOfToken_10 : decode cX8_statementOfToken 10 = .ok (.iconst 0, 1) := by decide +kernel
theorem dX8_statementOfToken_11 : decode cX8_statementOfToken 11 = .ok (.istore_n 1, 1) := by decide +kernel
theorem dX8_statementOfToken_12 : decode cX8_statementOfToken 12 = .ok (.iload_n 1, 1) := by decide +kernel
theorem dX8_statementOfToken_13 : decode cX8_statementOfToken 13 = .ok (.iconst 5, 1) := by decide +kernel
theorem dX8_statementOfToken_14 : decode cX8_statementOfToken 14 = .ok (.if_icmp .ge 22, 3) := by decide +kernel
theorem dX8_statementOfToken_17 : decode cX8_statementOfToken 17 = .ok (.aload_n 0, 1) := by decide +kernel
theorem dX8_statementOfToken_18 : decode cX8_statementOfToken 18 = .ok (.iload_n 1, 1) := by decide +kernel
theorem dX8_statementOfToken_19 : decode cX8_statementOfToken 19 = .ok (.invokestatic 103, 3) := by decide +kernel
theorem dX8_statementOfToken_22 : decode cX8_statementOfToken 22 = .ok (.invokevirtual 107, 3) := by decide +kernel
theorem dX8_statementOfToken_25 : decode cX8_statementOfToken 25 = .ok (.ifCond .eq 5, 3) := by decide +kernel
theorem dX8_statementOfToken_28 : decode cX8_statementOfToken 28 = .ok (.iload_n 1, 1) := by decide +kernel
theorem dX8_statementOfToken_29 : decode cX8_statementOfToken 29 = .ok (.ireturn, 1) := by decide +kernel
theorem dX8_statementOfToken_30 : decode cX8_statementOfToken 30 = .ok (.iinc 1 1, 3) := by decide +kernel
theorem dX8_statementOfToken_33 : decode cX8_statementOfToken 33 = .ok (.goto (-21), 3) := by decide +kernel
theorem dX8_statementOfToken_36 : decode cX8_statementOfToken 36 = .ok (.iconst (-1), 1) := by decide +kernel
theorem dX8_statementOfToken_37 : decode cX8_statementOfToken 37 = .ok (.ireturn, 1) := by decide +kernel
theorem dX8_wordOf_0 : decode cX8_wordOf 0 = .ok (.iload_n 0, 1) := by decide +kernel
theorem dX8_wordOf_1 : decode cX8_wordOf 1 = .ok (.tableswitch 43 0 3 #[31, 34, 37, 40], 31) := by decide +kernel
theorem dX8_wordOf_32 : decode cX8_wordOf 32 = .ok (.ldc 111, 2) := by decide +kernel
theorem dX8_wordOf_34 : decode cX8_wordOf 34 = .ok (.areturn, 1) := by decide +kernel
theorem dX8_wordOf_35 : decode cX8_wordOf 35 = .ok (.ldc 113, 2) := by decide +kernel
theorem dX8_wordOf_37 : decode cX8_wordOf 37 = .ok (.areturn, 1) := by decide +kernel
theorem dX8_wordOf_38 : decode cX8_wordOf 38 = .ok (.ldc 115, 2) := by decide +kernel
theorem dX8_wordOf_40 : decode cX8_wordOf 40 = .ok (.areturn, 1) := by decide +kernel
theorem dX8_wordOf_41 : decode cX8_wordOf 41 = .ok (.ldc 117, 2) := by decide +kernel
theorem dX8_wordOf_43 : decode cX8_wordOf 43 = .ok (.areturn, 1) := by decide +kernel
theorem dX8_wordOf_44 : decode cX8_wordOf 44 = .ok (.ldc 119, 2) := by decide +kernel
theorem dX8_wordOf_46 : decode cX8_wordOf 46 = .ok (.areturn, 1) := by decide +kernel
theorem dX8_tokenIs_0 : decode cX8_tokenIs 0 = .ok (.aload_n 0, 1) := by decide +kernel
theorem dX8_tokenIs_1 : decode cX8_tokenIs 1 = .ok (.getfield 32, 3) := by decide +kernel
theorem dX8_tokenIs_4 : decode cX8_tokenIs 4 = .ok (.aload_n 0, 1) := by decide +kernel
theorem dX8_tokenIs_5 : decode cX8_tokenIs 5 = .ok (.getfield 29, 3) := by decide +kernel
theorem dX8_tokenIs_8 : decode cX8_tokenIs 8 = .ok (.isub, 1) := by decide +kernel
theorem dX8_tokenIs_9 : decode cX8_tokenIs 9 = .ok (.aload_n 1, 1) := by decide +kernel
theorem dX8_tokenIs_10 : decode cX8_tokenIs 10 = .ok (.invokevirtual 121, 3) := by decide +kernel
theorem dX8_tokenIs_13 : decode cX8_tokenIs 13 = .ok (.if_icmp .eq 5, 3) := by decide +kernel
theorem dX8_tokenIs_16 : decode cX8_tokenIs 16 = .ok (.iconst 0, 1) := by decide +kernel
theorem dX8_tokenIs_17 : decode cX8_tokenIs 17 = .ok (.ireturn, 1) := by decide +kernel
theorem dX8_tokenIs_18 : decode cX8_tokenIs 18 = .ok (.iconst 0, 1) := by decide +kernel
theorem dX8_tokenIs_19 : decode cX8_tokenIs 19 = .ok (.istore_n 2, 1) := by decide +kernel
theorem dX8_tokenIs_20 : decode cX8_tokenIs 20 = .ok (.iload_n 2, 1) := by decide +kernel
theorem dX8_tokenIs_21 : decode cX8_tokenIs 21 = .ok (.aload_n 1, 1) := by decide +kernel
theorem dX8_tokenIs_22 : decode cX8_tokenIs 22 = .ok (.invokevirtual 121, 3) := by decide +kernel
theorem dX8_tokenIs_25 : decode cX8_tokenIs 25 = .ok (.if_icmp .ge 29, 3) := by decide +kernel
theorem dX8_tokenIs_28 : decode cX8_tokenIs 28 = .ok (.aload_n 0, 1) := by decide +kernel
theorem dX8_tokenIs_29 : decode cX8_tokenIs 29 = .ok (.aload_n 0, 1) := by decide +kernel
theorem dX8_tokenIs_30 : decode cX8_tokenIs 30 = .ok (.getfield 29, 3) := by decide +kernel
theorem dX8_tokenIs_33 : decode cX8_tokenIs 33 = .ok (.iload_n 2, 1) := by decide +kernel
theorem dX8_tokenIs_34 : decode cX8_tokenIs 34 = .ok (.iadd, 1) := by decide +kernel
theorem dX8_tokenIs_35 : decode cX8_tokenIs 35 = .ok (.invokevirtual 63, 3) := by decide +kernel
theorem dX8_tokenIs_38 : decode cX8_tokenIs 38 = .ok (.aload_n 1, 1) := by decide +kernel
theorem dX8_tokenIs_39 : decode cX8_tokenIs 39 = .ok (.iload_n 2, 1) := by decide +kernel
theorem dX8_tokenIs_40 : decode cX8_tokenIs 40 = .ok (.invokevirtual 126, 3) := by decide +kernel
theorem dX8_tokenIs_43 : decode cX8_tokenIs 43 = .ok (.if_icmp .eq 5, 3) := by decide +kernel
theorem dX8_tokenIs_46 : decode cX8_tokenIs 46 = .ok (.iconst 0, 1) := by decide +kernel
theorem dX8_tokenIs_47 : decode cX8_tokenIs 47 = .ok (.ireturn, 1) := by decide +kernel
theorem dX8_tokenIs_48 : decode cX8_tokenIs 48 = .ok (.iinc 2 1, 3) := by decide +kernel
theorem dX8_tokenIs_51 : decode cX8_tokenIs 51 = .ok (.goto (-31), 3) := by decide +kernel
theorem dX8_tokenIs_54 : decode cX8_tokenIs 54 = .ok (.iconst 1, 1) := by decide +kernel
theorem dX8_tokenIs_55 : decode cX8_tokenIs 55 = .ok (.ireturn, 1) := by decide +kernel
theorem dX8_numberOfToken_0 : decode cX8_numberOfToken 0 = .ok (.iconst 0, 1) := by decide +kernel
theorem dX8_numberOfToken_1 : decode cX8_numberOfToken 1 = .ok (.istore_n 1, 1) := by decide +kernel
theorem dX8_numberOfToken_2 : decode cX8_numberOfToken 2 = .ok (.aload_n 0, 1) := by decide +kernel
theorem dX8_numberOfToken_3 : decode cX8_numberOfToken 3 = .ok (.getfield 29, 3) := by decide +kernel
theorem dX8_numberOfToken_6 : decode cX8_numberOfToken 6 = .ok (.istore_n 2, 1) := by decide +kernel
theorem dX8_numberOfToken_7 : decode cX8_numberOfToken 7 = .ok (.iload_n 2, 1) := by decide +kernel
theorem dX8_numberOfToken_8 : decode cX8_numberOfToken 8 = .ok (.aload_n 0, 1) := by decide +kernel
theorem dX8_numberOfToken_9 : decode cX8_numberOfToken 9 = .ok (.getfield 32, 3) := by decide +kernel
theorem dX8_numberOfToken_12 : decode cX8_numberOfToken 12 = .ok (.if_icmp .ge 23, 3) := by decide +kernel
theorem dX8_numberOfToken_15 : decode cX8_numberOfToken 15 = .ok (.iload_n 1, 1) := by decide +kernel
theorem dX8_numberOfToken_16 : decode cX8_numberOfToken 16 = .ok (.bipush 10, 2) := by decide +kernel
theorem dX8_numberOfToken_18 : decode cX8_numberOfToken 18 = .ok (.imul, 1) := by decide +kernel
theorem dX8_numberOfToken_19 : decode cX8_numberOfToken 19 = .ok (.aload_n 0, 1) := by decide +kernel
theorem dX8_numberOfToken_20 : decode cX8_numberOfToken 20 = .ok (.iload_n 2, 1) := by decide +kernel
theorem dX8_numberOfToken_21 : decode cX8_numberOfToken 21 = .ok (.invokevirtual 63, 3) := by decide +kernel
theorem dX8_numberOfToken_24 : decode cX8_numberOfToken 24 = .ok (.bipush 48, 2) := by decide +kernel
theorem dX8_numberOfToken_26 : decode cX8_numberOfToken 26 = .ok (.isub, 1) := by decide +kernel
theorem dX8_numberOfToken_27 : decode cX8_numberOfToken 27 = .ok (.iadd, 1) := by decide +kernel
theorem dX8_numberOfToken_28 : decode cX8_numberOfToken 28 = .ok (.istore_n 1, 1) := by decide +kernel
theorem dX8_numberOfToken_29 : decode cX8_numberOfToken 29 = .ok (.iinc 2 1, 3) := by decide +kernel
theorem dX8_numberOfToken_32 : decode cX8_numberOfToken 32 = .ok (.goto (-25), 3) := by decide +kernel
theorem dX8_numberOfToken_35 : decode cX8_numberOfToken 35 = .ok (.iload_n 1, 1) := by decide +kernel
theorem dX8_numberOfToken_36 : decode cX8_numberOfToken 36 = .ok (.ireturn, 1) := by decide +kernel
theorem dX8_readToken_0 : decode cX8_readToken 0 = .ok (.aload_n 0, 1) := by decide +kernel
theorem dX8_readToken_1 : decode cX8_readToken 1 = .ok (.aload_n 0, 1) := by decide +kernel
theorem dX8_readToken_2 : decode cX8_readToken 2 = .ok (.getfield 32, 3) := by decide +kernel
theorem dX8_readToken_5 : decode cX8_readToken 5 = .ok (.putfield 29, 3) := by decide +kernel
theorem dX8_readToken_8 : decode cX8_readToken 8 = .ok (.aload_n 0, 1) := by decide +kernel
theorem dX8_readToken_9 : decode cX8_readToken 9 = .ok (.getfield 29, 3) := by decide +kernel
theorem dX8_readToken_12 : decode cX8_readToken 12 = .ok (.aload_n 0, 1) := by decide +kernel
theorem dX8_readToken_13 : decode cX8_readToken 13 = .ok (.getfield 9, 3) := by decide +kernel
theorem dX8_readToken_16 : decode cX8_readToken 16 = .ok (.if_icmp .ge 30, 3) := by decide +kernel
theorem dX8_readToken_19 : decode cX8_readToken 19 = .ok (.aload_n 0, 1) := by decide +kernel
theorem dX8_readToken_20 : decode cX8_readToken 20 = .ok (.aload_n 0, 1) := by decide +kernel
theorem dX8_readToken_21 : decode cX8_readToken 21 = .ok (.getfield 29, 3) := by decide +kernel
theorem dX8_readToken_24 : decode cX8_readToken 24 = .ok (.invokevirtual 63, 3) := by decide +kernel
theorem dX8_readToken_27 : decode cX8_readToken 27 = .ok (.invokestatic 130, 3) := by decide +kernel
theorem dX8_readToken_30 : decode cX8_readToken 30 = .ok (.ifCond .eq 16, 3) := by decide +kernel
theorem dX8_readToken_33 : decode cX8_readToken 33 = .ok (.aload_n 0, 1) := by decide +kernel
theorem dX8_readToken_34 : decode cX8_readToken 34 = .ok (.dup, 1) := by decide +kernel
theorem dX8_readToken_35 : decode cX8_readToken 35 = .ok (.getfield 29, 3) := by decide +kernel
theorem dX8_readToken_38 : decode cX8_readToken 38 = .ok (.iconst 1, 1) := by decide +kernel
theorem dX8_readToken_39 : decode cX8_readToken 39 = .ok (.iadd, 1) := by decide +kernel
theorem dX8_readToken_40 : decode cX8_readToken 40 = .ok (.putfield 29, 3) := by decide +kernel
theorem dX8_readToken_43 : decode cX8_readToken 43 = .ok (.goto (-35), 3) := by decide +kernel
theorem dX8_readToken_46 : decode cX8_readToken 46 = .ok (.aload_n 0, 1) := by decide +kernel
theorem dX8_readToken_47 : decode cX8_readToken 47 = .ok (.aload_n 0, 1) := by decide +kernel
theorem dX8_readToken_48 : decode cX8_readToken 48 = .ok (.getfield 29, 3) := by decide +kernel
theorem dX8_readToken_51 : decode cX8_readToken 51 = .ok (.putfield 32, 3) := by decide +kernel
theorem dX8_readToken_54 : decode cX8_readToken 54 = .ok (.aload_n 0, 1) := by decide +kernel
theorem dX8_readToken_55 : decode cX8_readToken 55 = .ok (.getfield 29, 3) := by decide +kernel
theorem dX8_readToken_58 : decode cX8_readToken 58 = .ok (.aload_n 0, 1) := by decide +kernel
theorem dX8_readToken_59 : decode cX8_readToken 59 = .ok (.getfield 9, 3) := by decide +kernel
theorem dX8_readToken_62 : decode cX8_readToken 62 = .ok (.if_icmp .lt 11, 3) := by decide +kernel
theorem dX8_readToken_65 : decode cX8_readToken 65 = .ok (.aload_n 0, 1) := by decide +kernel
theorem dX8_readToken_66 : decode cX8_readToken 66 = .ok (.iconst 0, 1) := by decide +kernel
theorem dX8_readToken_67 : decode cX8_readToken 67 = .ok (.putfield 26, 3) := by decide +kernel
theorem dX8_readToken_70 : decode cX8_readToken 70 = .ok (.goto 60, 3) := by decide +kernel
theorem dX8_readToken_73 : decode cX8_readToken 73 = .ok (.aload_n 0, 1) := by decide +kernel
theorem dX8_readToken_74 : decode cX8_readToken 74 = .ok (.aload_n 0, 1) := by decide +kernel
theorem dX8_readToken_75 : decode cX8_readToken 75 = .ok (.getfield 29, 3) := by decide +kernel
theorem dX8_readToken_78 : decode cX8_readToken 78 = .ok (.invokevirtual 63, 3) := by decide +kernel
theorem dX8_readToken_81 : decode cX8_readToken 81 = .ok (.invokestatic 133, 3) := by decide +kernel
theorem dX8_readToken_84 : decode cX8_readToken 84 = .ok (.ifCond .eq 10, 3) := by decide +kernel
theorem dX8_readToken_87 : decode cX8_readToken 87 = .ok (.aload_n 0, 1) := by decide +kernel
theorem dX8_readToken_88 : decode cX8_readToken 88 = .ok (.invokevirtual 136, 3) := by decide +kernel
theorem dX8_readToken_91 : decode cX8_readToken 91 = .ok (.goto 39, 3) := by decide +kernel
theorem dX8_readToken_94 : decode cX8_readToken 94 = .ok (.aload_n 0, 1) := by decide +kernel
theorem dX8_readToken_95 : decode cX8_readToken 95 = .ok (.aload_n 0, 1) := by decide +kernel
theorem dX8_readToken_96 : decode cX8_readToken 96 = .ok (.getfield 29, 3) := by decide +kernel
theorem dX8_readToken_99 : decode cX8_readToken 99 = .ok (.invokevirtual 63, 3) := by decide +kernel
theorem dX8_readToken_102 : decode cX8_readToken 102 = .ok (.invokestatic 139, 3) := by decide +kernel
theorem dX8_readToken_105 : decode cX8_readToken 105 = .ok (.ifCond .eq 10, 3) := by decide +kernel
theorem dX8_readToken_108 : decode cX8_readToken 108 = .ok (.aload_n 0, 1) := by decide +kernel
theorem dX8_readToken_109 : decode cX8_readToken 109 = .ok (.invokevirtual 142, 3) := by decide +kernel
theorem dX8_readToken_112 : decode cX8_readToken 112 = .ok (.goto 18, 3) := by decide +kernel
theorem dX8_readToken_115 : decode cX8_readToken 115 = .ok (.aload_n 0, 1) := by decide +kernel
theorem dX8_readToken_116 : decode cX8_readToken 116 = .ok (.iconst 3, 1) := by decide +kernel
theorem dX8_readToken_117 : decode cX8_readToken 117 = .ok (.putfield 26, 3) := by decide +kernel
theorem dX8_readToken_120 : decode cX8_readToken 120 = .ok (.aload_n 0, 1) := by decide +kernel
theorem dX8_readToken_121 : decode cX8_readToken 121 = .ok (.aload_n 0, 1) := by decide +kernel
theorem dX8_readToken_122 : decode cX8_readToken 122 = .ok (.getfield 29, 3) := by decide +kernel
theorem dX8_readToken_125 : decode cX8_readToken 125 = .ok (.iconst 1, 1) := by decide +kernel
theorem dX8_readToken_126 : decode cX8_readToken 126 = .ok (.iadd, 1) := by decide +kernel
theorem dX8_readToken_127 : decode cX8_readToken 127 = .ok (.putfield 32, 3) := by decide +kernel
theorem dX8_readToken_130 : decode cX8_readToken 130 = .ok (.return_, 1) := by decide +kernel
theorem dX8_readWord_0 : decode cX8_readWord 0 = .ok (.aload_n 0, 1) := by decide +kernel
theorem dX8_readWord_1 : decode cX8_readWord 1 = .ok (.iconst 1, 1) := by decide +kernel
theorem dX8_readWord_2 : decode cX8_readWord 2 = .ok (.putfield 26, 3) := by decide +kernel
theorem dX8_readWord_5 : decode cX8_readWord 5 = .ok (.aload_n 0, 1) := by decide +kernel
theorem dX8_readWord_6 : decode cX8_readWord 6 = .ok (.getfield 32, 3) := by decide +kernel
theorem dX8_readWord_9 : decode cX8_readWord 9 = .ok (.aload_n 0, 1) := by decide +kernel
theorem dX8_readWord_10 : decode cX8_readWord 10 = .ok (.getfield 9, 3) := by decide +kernel
theorem dX8_readWord_13 : decode cX8_readWord 13 = .ok (.if_icmp .ge 30, 3) := by decide +kernel
theorem dX8_readWord_16 : decode cX8_readWord 16 = .ok (.aload_n 0, 1) := by decide +kernel
theorem dX8_readWord_17 : decode cX8_readWord 17 = .ok (.aload_n 0, 1) := by decide +kernel
theorem dX8_readWord_18 : decode cX8_readWord 18 = .ok (.getfield 32, 3) := by decide +kernel
theorem dX8_readWord_21 : decode cX8_readWord 21 = .ok (.invokevirtual 63, 3) := by decide +kernel
theorem dX8_readWord_24 : decode cX8_readWord 24 = .ok (.invokestatic 133, 3) := by decide +kernel
theorem dX8_readWord_27 : decode cX8_readWord 27 = .ok (.ifCond .eq 16, 3) := by decide +kernel
theorem dX8_readWord_30 : decode cX8_readWord 30 = .ok (.aload_n 0, 1) := by decide +kernel
theorem dX8_readWord_31 : decode cX8_readWord 31 = .ok (.dup, 1) := by decide +kernel
theorem dX8_readWord_32 : decode cX8_readWord 32 = .ok (.getfield 32, 3) := by decide +kernel
theorem dX8_readWord_35 : decode cX8_readWord 35 = .ok (.iconst 1, 1) := by decide +kernel
theorem dX8_readWord_36 : decode cX8_readWord 36 = .ok (.iadd, 1) := by decide +kernel
theorem dX8_readWord_37 : decode cX8_readWord 37 = .ok (.putfield 32, 3) := by decide +kernel
theorem dX8_readWord_40 : decode cX8_readWord 40 = .ok (.goto (-35), 3) := by decide +kernel
theorem dX8_readWord_43 : decode cX8_readWord 43 = .ok (.return_, 1) := by decide +kernel
theorem dX8_readNumber_0 : decode cX8_readNumber 0 = .ok (.aload_n 0, 1) := by decide +kernel
theorem dX8_readNumber_1 : decode cX8_readNumber 1 = .ok (.getfield 32, 3) := by decide +kernel
theorem dX8_readNumber_4 : decode cX8_readNumber 4 = .ok (.aload_n 0, 1) := by decide +kernel
theorem dX8_readNumber_5 : decode cX8_readNumber 5 = .ok (.getfield 9, 3) := by decide +kernel
theorem dX8_readNumber_8 : decode cX8_readNumber 8 = .ok (.if_icmp .ge 30, 3) := by decide +kernel
theorem dX8_readNumber_11 : decode cX8_readNumber 11 = .ok (.aload_n 0, 1) := by decide +kernel
theorem dX8_readNumber_12 : decode cX8_readNumber 12 = .ok (.aload_n 0, 1) := by decide +kernel
theorem dX8_readNumber_13 : decode cX8_readNumber 13 = .ok (.getfield 32, 3) := by decide +kernel
theorem dX8_readNumber_16 : decode cX8_readNumber 16 = .ok (.invokevirtual 63, 3) := by decide +kernel
theorem dX8_readNumber_19 : decode cX8_readNumber 19 = .ok (.invokestatic 139, 3) := by decide +kernel
theorem dX8_readNumber_22 : decode cX8_readNumber 22 = .ok (.ifCond .eq 16, 3) := by decide +kernel
theorem dX8_readNumber_25 : decode cX8_readNumber 25 = .ok (.aload_n 0, 1) := by decide +kernel
theorem dX8_readNumber_26 : decode cX8_readNumber 26 = .ok (.dup, 1) := by decide +kernel
theorem dX8_readNumber_27 : decode cX8_readNumber 27 = .ok (.getfield 32, 3) := by decide +kernel
theorem dX8_readNumber_30 : decode cX8_readNumber 30 = .ok (.iconst 1, 1) := by decide +kernel
theorem dX8_readNumber_31 : decode cX8_readNumber 31 = .ok (.iadd, 1) := by decide +kernel
theorem dX8_readNumber_32 : decode cX8_readNumber 32 = .ok (.putfield 32, 3) := by decide +kernel
theorem dX8_readNumber_35 : decode cX8_readNumber 35 = .ok (.goto (-35), 3) := by decide +kernel
theorem dX8_readNumber_38 : decode cX8_readNumber 38 = .ok (.aload_n 0, 1) := by decide +kernel
theorem dX8_readNumber_39 : decode cX8_readNumber 39 = .ok (.aload_n 0, 1) := by decide +kernel
theorem dX8_readNumber_40 : decode cX8_readNumber 40 = .ok (.getfield 32, 3) := by decide +kernel
theorem dX8_readNumber_43 : decode cX8_readNumber 43 = .ok (.aload_n 0, 1) := by decide +kernel
theorem dX8_readNumber_44 : decode cX8_readNumber 44 = .ok (.getfield 29, 3) := by decide +kernel
theorem dX8_readNumber_47 : decode cX8_readNumber 47 = .ok (.isub, 1) := by decide +kernel
theorem dX8_readNumber_48 : decode cX8_readNumber 48 = .ok (.iconst 4, 1) := by decide +kernel
theorem dX8_readNumber_49 : decode cX8_readNumber 49 = .ok (.if_icmp .gt 7, 3) := by decide +kernel
theorem dX8_readNumber_52 : decode cX8_readNumber 52 = .ok (.iconst 2, 1) := by decide +kernel
theorem dX8_readNumber_53 : decode cX8_readNumber 53 = .ok (.goto 4, 3) := by decide +kernel
theorem dX8_readNumber_56 : decode cX8_readNumber 56 = .ok (.iconst 3, 1) := by decide +kernel
theorem dX8_readNumber_57 : decode cX8_readNumber 57 = .ok (.putfield 26, 3) := by decide +kernel
theorem dX8_readNumber_60 : decode cX8_readNumber 60 = .ok (.return_, 1) := by decide +kernel
theorem dX8_byteAt_0 : decode cX8_byteAt 0 = .ok (.iload_n 1, 1) := by decide +kernel
theorem dX8_byteAt_1 : decode cX8_byteAt 1 = .ok (.ifCond .lt 18, 3) := by decide +kernel
theorem dX8_byteAt_4 : decode cX8_byteAt 4 = .ok (.iload_n 1, 1) := by decide +kernel
theorem dX8_byteAt_5 : decode cX8_byteAt 5 = .ok (.aload_n 0, 1) := by decide +kernel
theorem dX8_byteAt_6 : decode cX8_byteAt 6 = .ok (.getfield 9, 3) := by decide +kernel
theorem dX8_byteAt_9 : decode cX8_byteAt 9 = .ok (.if_icmp .ge 10, 3) := by decide +kernel
theorem dX8_byteAt_12 : decode cX8_byteAt 12 = .ok (.iload_n 1, 1) := by decide +kernel
theorem dX8_byteAt_13 : decode cX8_byteAt 13 = .ok (.sipush 300, 3) := by decide +kernel
theorem dX8_byteAt_16 : decode cX8_byteAt 16 = .ok (.if_icmp .lt 7, 3) := by decide +kernel
theorem dX8_byteAt_19 : decode cX8_byteAt 19 = .ok (.iconst (-1), 1) := by decide +kernel
theorem dX8_byteAt_20 : decode cX8_byteAt 20 = .ok (.goto 13, 3) := by decide +kernel
theorem dX8_byteAt_23 : decode cX8_byteAt 23 = .ok (.aload_n 0, 1) := by decide +kernel
theorem dX8_byteAt_24 : decode cX8_byteAt 24 = .ok (.getfield 18, 3) := by decide +kernel
theorem dX8_byteAt_27 : decode cX8_byteAt 27 = .ok (.iload_n 1, 1) := by decide +kernel
theorem dX8_byteAt_28 : decode cX8_byteAt 28 = .ok (.baload, 1) := by decide +kernel
theorem dX8_byteAt_29 : decode cX8_byteAt 29 = .ok (.sipush 255, 3) := by decide +kernel
theorem dX8_byteAt_32 : decode cX8_byteAt 32 = .ok (.iand, 1) := by decide +kernel
theorem dX8_byteAt_33 : decode cX8_byteAt 33 = .ok (.ireturn, 1) := by decide +kernel
theorem dX8_isBlank_0 : decode cX8_isBlank 0 = .ok (.iload_n 0, 1) := by decide +kernel
theorem dX8_isBlank_1 : decode cX8_isBlank 1 = .ok (.bipush 32, 2) := by decide +kernel
theorem dX8_isBlank_3 : decode cX8_isBlank 3 = .ok (.if_icmp .eq 9, 3) := by decide +kernel
theorem dX8_isBlank_6 : decode cX8_isBlank 6 = .ok (.iload_n 0, 1) := by decide +kernel
theorem dX8_isBlank_7 : decode cX8_isBlank 7 = .ok (.bipush 10, 2) := by decide +kernel
theorem dX8_isBlank_9 : decode cX8_isBlank 9 = .ok (.if_icmp .ne 7, 3) := by decide +kernel
theorem dX8_isBlank_12 : decode cX8_isBlank 12 = .ok (.iconst 1, 1) := by decide +kernel
theorem dX8_isBlank_13 : decode cX8_isBlank 13 = .ok (.goto 4, 3) := by decide +kernel
theorem dX8_isBlank_16 : decode cX8_isBlank 16 = .ok (.iconst 0, 1) := by decide +kernel
theorem dX8_isBlank_17 : decode cX8_isBlank 17 = .ok (.ireturn, 1) := by decide +kernel
theorem dX8_isLetter_0 : decode cX8_isLetter 0 = .ok (.iload_n 0, 1) := by decide +kernel
theorem dX8_isLetter_1 : decode cX8_isLetter 1 = .ok (.bipush 97, 2) := by decide +kernel
theorem dX8_isLetter_3 : decode cX8_isLetter 3 = .ok (.if_icmp .lt 13, 3) := by decide +kernel
theorem dX8_isLetter_6 : decode cX8_isLetter 6 = .ok (.iload_n 0, 1) := by decide +kernel
theorem dX8_isLetter_7 : decode cX8_isLetter 7 = .ok (.bipush 122, 2) := by decide +kernel
theorem dX8_isLetter_9 : decode cX8_isLetter 9 = .ok (.if_icmp .gt 7, 3) := by decide +kernel
theorem dX8_isLetter_12 : decode cX8_isLetter 12 = .ok (.iconst 1, 1) := by decide +kernel
theorem dX8_isLetter_13 : decode cX8_isLetter 13 = .ok (.goto 4, 3) := by decide +kernel
theorem dX8_isLetter_16 : decode cX8_isLetter 16 = .ok (.iconst 0, 1) := by decide +kernel
theorem dX8_isLetter_17 : decode cX8_isLetter 17 = .ok (.ireturn, 1) := by decide +kernel
theorem dX8_isDigit_0 : decode cX8_isDigit 0 = .ok (.iload_n 0, 1) := by decide +kernel
theorem dX8_isDigit_1 : decode cX8_isDigit 1 = .ok (.bipush 48, 2) := by decide +kernel
theorem dX8_isDigit_3 : decode cX8_isDigit 3 = .ok (.if_icmp .lt 13, 3) := by decide +kernel
theorem dX8_isDigit_6 : decode cX8_isDigit 6 = .ok (.iload_n 0, 1) := by decide +kernel
theorem dX8_isDigit_7 : decode cX8_isDigit 7 = .ok (.bipush 57, 2) := by decide +kernel
theorem dX8_isDigit_9 : decode cX8_isDigit 9 = .ok (.if_icmp .gt 7, 3) := by decide +kernel
theorem dX8_isDigit_12 : decode cX8_isDigit 12 = .ok (.iconst 1, 1) := by decide +kernel
theorem dX8_isDigit_13 : decode cX8_isDigit 13 = .ok (.goto 4, 3) := by decide +kernel
theorem dX8_isDigit_16 : decode cX8_isDigit 16 = .ok (.iconst 0, 1) := by decide +kernel
theorem dX8_isDigit_17 : decode cX8_isDigit 17 = .ok (.ireturn, 1) := by decide +kernel
theorem dX9_init_0 : decode cX9_init 0 = .ok (.aload_n 0, 1) := by decide +kernel
theorem dX9_init_1 : decode cX9_init 1 = .ok (.invokespecial 3, 3) := by decide +kernel
theorem dX9_init_4 : decode cX9_init 4 = .ok (.aload_n 0, 1) := by decide +kernel
