theorem dX9_init_5 : decode cX9_init 5 = .ok (.new 9, 3) := by decide +kernel
theorem dX9_init_8 : decode cX9_init 8 = .ok (.dup, 1) := by decide +kernel
theorem dX9_init_9 : decode cX9_init 9 = .ok (.invokespecial 11, 3) := by decide +kernel
theorem dX9_init_12 : decode cX9_init 12 = .ok (.putfield 12, 3) := by decide +kernel
theorem dX9_init_15 : decode cX9_init 15 = .ok (.aload_n 0, 1) := by decide +kernel
theorem dX9_init_16 : decode cX9_init 16 = .ok (.new 16, 3) := by decide +kernel
theorem dX9_init_19 : decode cX9_init 19 = .ok (.dup, 1) := by decide +kernel
theorem dX9_init_20 : decode cX9_init 20 = .ok (.invokespecial 18, 3) := by decide +kernel
theorem dX9_init_23 : decode cX9_init 23 = .ok (.putfield 19, 3) := by decide +kernel
theorem dX9_init_26 : decode cX9_init 26 = .ok (.aload_n 0, 1) := by decide +kernel
theorem dX9_init_27 : decode cX9_init 27 = .ok (.new 23, 3) := by decide +kernel
theorem dX9_init_30 : decode cX9_init 30 = .ok (.dup, 1) := by decide +kernel
theorem dX9_init_31 : decode cX9_init 31 = .ok (.invokespecial 25, 3) := by decide +kernel
theorem dX9_init_34 : decode cX9_init 34 = .ok (.putfield 26, 3) := by decide +kernel
theorem dX9_init_37 : decode cX9_init 37 = .ok (.aload_n 0, 1) := by decide +kernel
theorem dX9_init_38 : decode cX9_init 38 = .ok (.new 30, 3) := by decide +kernel
theorem dX9_init_41 : decode cX9_init 41 = .ok (.dup, 1) := by decide +kernel
theorem dX9_init_42 : decode cX9_init 42 = .ok (.invokespecial 32, 3) := by decide +kernel
theorem dX9_init_45 : decode cX9_init 45 = .ok (.putfield 33, 3) := by decide +kernel
theorem dX9_init_48 : decode cX9_init 48 = .ok (.aload_n 0, 1) := by decide +kernel
theorem dX9_init_49 : decode cX9_init 49 = .ok (.new 37, 3) := by decide +kernel
theorem dX9_init_52 : decode cX9_init 52 = .ok (.dup, 1) := by decide +kernel
theorem dX9_init_53 : decode cX9_init 53 = .ok (.invokespecial 39, 3) := by decide +kernel
theorem dX9_init_56 : decode cX9_init 56 = .ok (.putfield 40, 3) := by decide +kernel
theorem dX9_init_59 : decode cX9_init 59 = .ok (.aload_n 0, 1) := by decide +kernel
theorem dX9_init_60 : decode cX9_init 60 = .ok (.new 37, 3) := by decide +kernel
theorem dX9_init_63 : decode cX9_init 63 = .ok (.dup, 1) := by decide +kernel
theorem dX9_init_64 : decode cX9_init 64 = .ok (.invokespecial 39, 3) := by decide +kernel
theorem dX9_init_67 : decode cX9_init 67 = .ok (.putfield 44, 3) := by decide +kernel
theorem dX9_init_70 : decode cX9_init 70 = .ok (.aload_n 0, 1) := by decide +kernel
theorem dX9_init_71 : decode cX9_init 71 = .ok (.iconst 0, 1) := by decide +kernel
theorem dX9_init_72 : decode cX9_init 72 = .ok (.putfield 47, 3) := by decide +kernel
theorem dX9_init_75 : decode cX9_init 75 = .ok (.aload_n 0, 1) := by decide +kernel
theorem dX9_init_76 : decode cX9_init 76 = .ok (.iconst 0, 1) := by decide +kernel
theorem dX9_init_77 : decode cX9_init 77 = .ok (.putfield 51, 3) := by decide +kernel
theorem dX9_init_80 : decode cX9_init 80 = .ok (.aload_n 0, 1) := by decide +kernel
theorem dX9_init_81 : decode cX9_init 81 = .ok (.iconst 0, 1) := by decide +kernel
theorem dX9_init_82 : decode cX9_init 82 = .ok (.putfield 54, 3) := by decide +kernel
theorem dX9_init_85 : decode cX9_init 85 = .ok (.aload_n 0, 1) := by decide +kernel
theorem dX9_init_86 : decode cX9_init 86 = .ok (.iconst 0, 1) := by decide +kernel
theorem dX9_init_87 : decode cX9_init 87 = .ok (.putfield 58, 3) := by decide +kernel
theorem dX9_init_90 : decode cX9_init 90 = .ok (.return_, 1) := by decide +kernel
theorem dX9_dates_0 : decode cX9_dates 0 = .ok (.aload_n 0, 1) := by decide +kernel
theorem dX9_dates_1 : decode cX9_dates 1 = .ok (.getfield 40, 3) := by decide +kernel
theorem dX9_dates_4 : decode cX9_dates 4 = .ok (.iconst 0, 1) := by decide +kernel
theorem dX9_dates_5 : decode cX9_dates 5 = .ok (.iload_n 1, 1) := by decide +kernel
theorem dX9_dates_6 : decode cX9_dates 6 = .ok (.invokevirtual 61, 3) := by decide +kernel
theorem dX9_dates_9 : decode cX9_dates 9 = .ok (.ifCond .ne 5, 3) := by decide +kernel
theorem dX9_dates_12 : decode cX9_dates 12 = .ok (.iconst 0, 1) := by decide +kernel
theorem dX9_dates_13 : decode cX9_dates 13 = .ok (.ireturn, 1) := by decide +kernel
theorem dX9_dates_14 : decode cX9_dates 14 = .ok (.aload_n 0, 1) := by decide +kernel
theorem dX9_dates_15 : decode cX9_dates 15 = .ok (.getfield 40, 3) := by decide +kernel
theorem dX9_dates_18 : decode cX9_dates 18 = .ok (.iload_n 1, 1) := by decide +kernel
theorem dX9_dates_19 : decode cX9_dates 19 = .ok (.invokevirtual 65, 3) := by decide +kernel
theorem dX9_dates_22 : decode cX9_dates 22 = .ok (.aload_n 0, 1) := by decide +kernel
theorem dX9_dates_23 : decode cX9_dates 23 = .ok (.invokevirtual 69, 3) := by decide +kernel
theorem dX9_dates_26 : decode cX9_dates 26 = .ok (.iconst 1, 1) := by decide +kernel
theorem dX9_dates_27 : decode cX9_dates 27 = .ok (.ireturn, 1) := by decide +kernel
theorem dX9_pay_0 : decode cX9_pay 0 = .ok (.aload_n 0, 1) := by decide +kernel
theorem dX9_pay_1 : decode cX9_pay 1 = .ok (.getfield 40, 3) := by decide +kernel
theorem dX9_pay_4 : decode cX9_pay 4 = .ok (.iconst 1, 1) := by decide +kernel
theorem dX9_pay_5 : decode cX9_pay 5 = .ok (.iload_n 1, 1) := by decide +kernel
theorem dX9_pay_6 : decode cX9_pay 6 = .ok (.invokevirtual 61, 3) := by decide +kernel
theorem dX9_pay_9 : decode cX9_pay 9 = .ok (.ifCond .eq 15, 3) := by decide +kernel
theorem dX9_pay_12 : decode cX9_pay 12 = .ok (.aload_n 0, 1) := by decide +kernel
theorem dX9_pay_13 : decode cX9_pay 13 = .ok (.getfield 40, 3) := by decide +kernel
theorem dX9_pay_16 : decode cX9_pay 16 = .ok (.iconst 2, 1) := by decide +kernel
theorem dX9_pay_17 : decode cX9_pay 17 = .ok (.iload_n 2, 1) := by decide +kernel
theorem dX9_pay_18 : decode cX9_pay 18 = .ok (.invokevirtual 61, 3) := by decide +kernel
theorem dX9_pay_21 : decode cX9_pay 21 = .ok (.ifCond .ne 5, 3) := by decide +kernel
theorem dX9_pay_24 : decode cX9_pay 24 = .ok (.iconst 0, 1) := by decide +kernel
theorem dX9_pay_25 : decode cX9_pay 25 = .ok (.ireturn, 1) := by decide +kernel
theorem dX9_pay_26 : decode cX9_pay 26 = .ok (.aload_n 0, 1) := by decide +kernel
theorem dX9_pay_27 : decode cX9_pay 27 = .ok (.getfield 40, 3) := by decide +kernel
theorem dX9_pay_30 : decode cX9_pay 30 = .ok (.iload_n 1, 1) := by decide +kernel
theorem dX9_pay_31 : decode cX9_pay 31 = .ok (.iload_n 2, 1) := by decide +kernel
theorem dX9_pay_32 : decode cX9_pay 32 = .ok (.invokevirtual 72, 3) := by decide +kernel
theorem dX9_pay_35 : decode cX9_pay 35 = .ok (.aload_n 0, 1) := by decide +kernel
theorem dX9_pay_36 : decode cX9_pay 36 = .ok (.invokevirtual 69, 3) := by decide +kernel
theorem dX9_pay_39 : decode cX9_pay 39 = .ok (.iconst 1, 1) := by decide +kernel
theorem dX9_pay_40 : decode cX9_pay 40 = .ok (.ireturn, 1) := by decide +kernel
theorem dX9_rate_0 : decode cX9_rate 0 = .ok (.aload_n 0, 1) := by decide +kernel
theorem dX9_rate_1 : decode cX9_rate 1 = .ok (.getfield 40, 3) := by decide +kernel
theorem dX9_rate_4 : decode cX9_rate 4 = .ok (.iconst 1, 1) := by decide +kernel
theorem dX9_rate_5 : decode cX9_rate 5 = .ok (.iload_n 1, 1) := by decide +kernel
theorem dX9_rate_6 : decode cX9_rate 6 = .ok (.invokevirtual 61, 3) := by decide +kernel
theorem dX9_rate_9 : decode cX9_rate 9 = .ok (.ifCond .eq 15, 3) := by decide +kernel
theorem dX9_rate_12 : decode cX9_rate 12 = .ok (.aload_n 0, 1) := by decide +kernel
theorem dX9_rate_13 : decode cX9_rate 13 = .ok (.getfield 40, 3) := by decide +kernel
theorem dX9_rate_16 : decode cX9_rate 16 = .ok (.iconst 3, 1) := by decide +kernel
theorem dX9_rate_17 : decode cX9_rate 17 = .ok (.iload_n 2, 1) := by decide +kernel
theorem dX9_rate_18 : decode cX9_rate 18 = .ok (.invokevirtual 61, 3) := by decide +kernel
theorem dX9_rate_21 : decode cX9_rate 21 = .ok (.ifCond .ne 5, 3) := by decide +kernel
theorem dX9_rate_24 : decode cX9_rate 24 = .ok (.iconst 0, 1) := by decide +kernel
theorem dX9_rate_25 : decode cX9_rate 25 = .ok (.ireturn, 1) := by decide +kernel
theorem dX9_rate_26 : decode cX9_rate 26 = .ok (.aload_n 0, 1) := by decide +kernel
theorem dX9_rate_27 : decode cX9_rate 27 = .ok (.getfield 40, 3) := by decide +kernel
theorem dX9_rate_30 : decode cX9_rate 30 = .ok (.iload_n 1, 1) := by decide +kernel
theorem dX9_rate_31 : decode cX9_rate 31 = .ok (.iload_n 2, 1) := by decide +kernel
theorem dX9_rate_32 : decode cX9_rate 32 = .ok (.invokevirtual 76, 3) := by decide +kernel
theorem dX9_rate_35 : decode cX9_rate 35 = .ok (.aload_n 0, 1) := by decide +kernel
theorem dX9_rate_36 : decode cX9_rate 36 = .ok (.invokevirtual 69, 3) := by decide +kernel
theorem dX9_rate_39 : decode cX9_rate 39 = .ok (.iconst 1, 1) := by decide +kernel
theorem dX9_rate_40 : decode cX9_rate 40 = .ok (.ireturn, 1) := by decide +kernel
theorem dX9_bond_0 : decode cX9_bond 0 = .ok (.aload_n 0, 1) := by decide +kernel
theorem dX9_bond_1 : decode cX9_bond 1 = .ok (.getfield 40, 3) := by decide +kernel
theorem dX9_bond_4 : decode cX9_bond 4 = .ok (.iconst 5, 1) := by decide +kernel
theorem dX9_bond_5 : decode cX9_bond 5 = .ok (.iload_n 1, 1) := by decide +kernel
theorem dX9_bond_6 : decode cX9_bond 6 = .ok (.invokevirtual 61, 3) := by decide +kernel
theorem dX9_bond_9 : decode cX9_bond 9 = .ok (.ifCond .eq 42, 3) := by decide +kernel
theorem dX9_bond_12 : decode cX9_bond 12 = .ok (.aload_n 0, 1) := by decide +kernel
theorem dX9_bond_13 : decode cX9_bond 13 = .ok (.getfield 40, 3) := by decide +kernel
theorem dX9_bond_16 : decode cX9_bond 16 = .ok (.bipush 6, 2) := by decide +kernel
theorem dX9_bond_18 : decode cX9_bond 18 = .ok (.iload_n 2, 1) := by decide +kernel
theorem dX9_bond_19 : decode cX9_bond 19 = .ok (.invokevirtual 61, 3) := by decide +kernel
theorem dX9_bond_22 : decode cX9_bond 22 = .ok (.ifCond .eq 29, 3) := by decide +kernel
theorem dX9_bond_25 : decode cX9_bond 25 = .ok (.aload_n 0, 1) := by decide +kernel
theorem dX9_bond_26 : decode cX9_bond 26 = .ok (.getfield 40, 3) := by decide +kernel
theorem dX9_bond_29 : decode cX9_bond 29 = .ok (.iconst 1, 1) := by decide +kernel
theorem dX9_bond_30 : decode cX9_bond 30 = .ok (.iload_n 3, 1) := by decide +kernel
theorem dX9_bond_31 : decode cX9_bond 31 = .ok (.invokevirtual 61, 3) := by decide +kernel
theorem dX9_bond_34 : decode cX9_bond 34 = .ok (.ifCond .eq 17, 3) := by decide +kernel
theorem dX9_bond_37 : decode cX9_bond 37 = .ok (.aload_n 0, 1) := by decide +kernel
theorem dX9_bond_38 : decode cX9_bond 38 = .ok (.getfield 40, 3) := by decide +kernel
theorem dX9_bond_41 : decode cX9_bond 41 = .ok (.bipush 7, 2) := by decide +kernel
theorem dX9_bond_43 : decode cX9_bond 43 = .ok (.iload 4, 2) := by decide +kernel
theorem dX9_bond_45 : decode cX9_bond 45 = .ok (.invokevirtual 61, 3) := by decide +kernel
theorem dX9_bond_48 : decode cX9_bond 48 = .ok (.ifCond .ne 5, 3) := by decide +kernel
theorem dX9_bond_51 : decode cX9_bond 51 = .ok (.iconst (-1), 1) := by decide +kernel
theorem dX9_bond_52 : decode cX9_bond 52 = .ok (.ireturn, 1) := by decide +kernel
theorem dX9_bond_53 : decode cX9_bond 53 = .ok (.aload_n 0, 1) := by decide +kernel
theorem dX9_bond_54 : decode cX9_bond 54 = .ok (.getfield 40, 3) := by decide +kernel
theorem dX9_bond_57 : decode cX9_bond 57 = .ok (.invokevirtual 79, 3) := by decide +kernel
theorem dX9_bond_60 : decode cX9_bond 60 = .ok (.ifCond .eq 6, 3) := by decide +kernel
theorem dX9_bond_63 : decode cX9_bond 63 = .ok (.bipush (-2), 2) := by decide +kernel
theorem dX9_bond_65 : decode cX9_bond 65 = .ok (.ireturn, 1) := by decide +kernel
theorem dX9_bond_66 : decode cX9_bond 66 = .ok (.aload_n 0, 1) := by decide +kernel
theorem dX9_bond_67 : decode cX9_bond 67 = .ok (.getfield 40, 3) := by decide +kernel
theorem dX9_bond_70 : decode cX9_bond 70 = .ok (.iload_n 1, 1) := by decide +kernel
theorem dX9_bond_71 : decode cX9_bond 71 = .ok (.iload_n 2, 1) := by decide +kernel
theorem dX9_bond_72 : decode cX9_bond 72 = .ok (.iload_n 3, 1) := by decide +kernel
theorem dX9_bond_73 : decode cX9_bond 73 = .ok (.iload 4, 2) := by decide +kernel
theorem dX9_bond_75 : decode cX9_bond 75 = .ok (.invokevirtual 83, 3) := by decide +kernel
theorem dX9_bond_78 : decode cX9_bond 78 = .ok (.aload_n 0, 1) := by decide +kernel
theorem dX9_bond_79 : decode cX9_bond 79 = .ok (.invokevirtual 69, 3) := by decide +kernel
theorem dX9_bond_82 : decode cX9_bond 82 = .ok (.aload_n 0, 1) := by decide +kernel
theorem dX9_bond_83 : decode cX9_bond 83 = .ok (.getfield 40, 3) := by decide +kernel
theorem dX9_bond_86 : decode cX9_bond 86 = .ok (.getfield 87, 3) := by decide +kernel
theorem dX9_bond_89 : decode cX9_bond 89 = .ok (.iconst 1, 1) := by decide +kernel
theorem dX9_bond_90 : decode cX9_bond 90 = .ok (.isub, 1) := by decide +kernel
theorem dX9_bond_91 : decode cX9_bond 91 = .ok (.ireturn, 1) := by decide +kernel
theorem dX9_most_0 : decode cX9_most 0 = .ok (.aload_n 0, 1) := by decide +kernel
theorem dX9_most_1 : decode cX9_most 1 = .ok (.getfield 40, 3) := by decide +kernel
theorem dX9_most_4 : decode cX9_most 4 = .ok (.iconst 4, 1) := by decide +kernel
theorem dX9_most_5 : decode cX9_most 5 = .ok (.iload_n 1, 1) := by decide +kernel
theorem dX9_most_6 : decode cX9_most 6 = .ok (.invokevirtual 61, 3) := by decide +kernel
theorem dX9_most_9 : decode cX9_most 9 = .ok (.ifCond .eq 16, 3) := by decide +kernel
theorem dX9_most_12 : decode cX9_most 12 = .ok (.aload_n 0, 1) := by decide +kernel
theorem dX9_most_13 : decode cX9_most 13 = .ok (.getfield 40, 3) := by decide +kernel
theorem dX9_most_16 : decode cX9_most 16 = .ok (.bipush 8, 2) := by decide +kernel
theorem dX9_most_18 : decode cX9_most 18 = .ok (.iload_n 2, 1) := by decide +kernel
theorem dX9_most_19 : decode cX9_most 19 = .ok (.invokevirtual 61, 3) := by decide +kernel
theorem dX9_most_22 : decode cX9_most 22 = .ok (.ifCond .ne 5, 3) := by decide +kernel
theorem dX9_most_25 : decode cX9_most 25 = .ok (.iconst 0, 1) := by decide +kernel
theorem dX9_most_26 : decode cX9_most 26 = .ok (.ireturn, 1) := by decide +kernel
theorem dX9_most_27 : decode cX9_most 27 = .ok (.aload_n 0, 1) := by decide +kernel
theorem dX9_most_28 : decode cX9_most 28 = .ok (.getfield 40, 3) := by decide +kernel
theorem dX9_most_31 : decode cX9_most 31 = .ok (.iload_n 1, 1) := by decide +kernel
theorem dX9_most_32 : decode cX9_most 32 = .ok (.iconst 4, 1) := by decide +kernel
theorem dX9_most_33 : decode cX9_most 33 = .ok (.iload_n 2, 1) := by decide +kernel
theorem dX9_most_34 : decode cX9_most 34 = .ok (.invokevirtual 90, 3) := by decide +kernel
theorem dX9_most_37 : decode cX9_most 37 = .ok (.aload_n 0, 1) := by decide +kernel
theorem dX9_most_38 : decode cX9_most 38 = .ok (.invokevirtual 69, 3) := by decide +kernel
theorem dX9_most_41 : decode cX9_most 41 = .ok (.iconst 1, 1) := by decide +kernel
theorem dX9_most_42 : decode cX9_most 42 = .ok (.ireturn, 1) := by decide +kernel
theorem dX9_call_0 : decode cX9_call 0 = .ok (.aload_n 0, 1) := by decide +kernel
theorem dX9_call_1 : decode cX9_call 1 = .ok (.getfield 40, 3) := by decide +kernel
theorem dX9_call_4 : decode cX9_call 4 = .ok (.iconst 4, 1) := by decide +kernel
theorem dX9_call_5 : decode cX9_call 5 = .ok (.iload_n 1, 1) := by decide +kernel
theorem dX9_call_6 : decode cX9_call 6 = .ok (.invokevirtual 61, 3) := by decide +kernel
theorem dX9_call_9 : decode cX9_call 9 = .ok (.ifCond .eq 33, 3) := by decide +kernel
theorem dX9_call_12 : decode cX9_call 12 = .ok (.iload_n 2, 1) := by decide +kernel
theorem dX9_call_13 : decode cX9_call 13 = .ok (.ifCond .lt 29, 3) := by decide +kernel
theorem dX9_call_16 : decode cX9_call 16 = .ok (.iload_n 2, 1) := by decide +kernel
theorem dX9_call_17 : decode cX9_call 17 = .ok (.aload_n 0, 1) := by decide +kernel
theorem dX9_call_18 : decode cX9_call 18 = .ok (.getfield 40, 3) := by decide +kernel
theorem dX9_call_21 : decode cX9_call 21 = .ok (.iload_n 1, 1) := by decide +kernel
theorem dX9_call_22 : decode cX9_call 22 = .ok (.iconst 2, 1) := by decide +kernel
theorem dX9_call_23 : decode cX9_call 23 = .ok (.invokevirtual 94, 3) := by decide +kernel
theorem dX9_call_26 : decode cX9_call 26 = .ok (.if_icmp .ge 16, 3) := by decide +kernel
theorem dX9_call_29 : decode cX9_call 29 = .ok (.iload_n 2, 1) := by decide +kernel
theorem dX9_call_30 : decode cX9_call 30 = .ok (.aload_n 0, 1) := by decide +kernel
theorem dX9_call_31 : decode cX9_call 31 = .ok (.getfield 40, 3) := by decide +kernel
theorem dX9_call_34 : decode cX9_call 34 = .ok (.iload_n 1, 1) := by decide +kernel
theorem dX9_call_35 : decode cX9_call 35 = .ok (.iconst 5, 1) := by decide +kernel
theorem dX9_call_36 : decode cX9_call 36 = .ok (.invokevirtual 94, 3) := by decide +kernel
theorem dX9_call_39 : decode cX9_call 39 = .ok (.if_icmp .ne 5, 3) := by decide +kernel
theorem dX9_call_42 : decode cX9_call 42 = .ok (.iconst 0, 1) := by decide +kernel
theorem dX9_call_43 : decode cX9_call 43 = .ok (.ireturn, 1) := by decide +kernel
theorem dX9_call_44 : decode cX9_call 44 = .ok (.aload_n 0, 1) := by decide +kernel
theorem dX9_call_45 : decode cX9_call 45 = .ok (.getfield 40, 3) := by decide +kernel
theorem dX9_call_48 : decode cX9_call 48 = .ok (.iload_n 1, 1) := by decide +kernel
theorem dX9_call_49 : decode cX9_call 49 = .ok (.iconst 5, 1) := by decide +kernel
theorem dX9_call_50 : decode cX9_call 50 = .ok (.iload_n 2, 1) := by decide +kernel
theorem dX9_call_51 : decode cX9_call 51 = .ok (.invokevirtual 90, 3) := by decide +kernel
theorem dX9_call_54 : decode cX9_call 54 = .ok (.aload_n 0, 1) := by decide +kernel
theorem dX9_call_55 : decode cX9_call 55 = .ok (.invokevirtual 69, 3) := by decide +kernel
theorem dX9_call_58 : decode cX9_call 58 = .ok (.iconst 1, 1) := by decide +kernel
theorem dX9_call_59 : decode cX9_call 59 = .ok (.ireturn, 1) := by decide +kernel
theorem dX9_drop_0 : decode cX9_drop 0 = .ok (.aload_n 0, 1) := by decide +kernel
theorem dX9_drop_1 : decode cX9_drop 1 = .ok (.getfield 40, 3) := by decide +kernel
theorem dX9_drop_4 : decode cX9_drop 4 = .ok (.iconst 4, 1) := by decide +kernel
theorem dX9_drop_5 : decode cX9_drop 5 = .ok (.iload_n 1, 1) := by decide +kernel
theorem dX9_drop_6 : decode cX9_drop 6 = .ok (.invokevirtual 61, 3) := by decide +kernel
theorem dX9_drop_9 : decode cX9_drop 9 = .ok (.ifCond .ne 5, 3) := by decide +kernel
theorem dX9_drop_12 : decode cX9_drop 12 = .ok (.iconst (-1), 1) := by decide +kernel
theorem dX9_drop_13 : decode cX9_drop 13 = .ok (.ireturn, 1) := by decide +kernel
theorem dX9_drop_14 : decode cX9_drop 14 = .ok (.aload_n 0, 1) := by decide +kernel
theorem dX9_drop_15 : decode cX9_drop 15 = .ok (.getfield 40, 3) := by decide +kernel
theorem dX9_drop_18 : decode cX9_drop 18 = .ok (.iload_n 1, 1) := by decide +kernel
theorem dX9_drop_19 : decode cX9_drop 19 = .ok (.invokevirtual 98, 3) := by decide +kernel
theorem dX9_drop_22 : decode cX9_drop 22 = .ok (.aload_n 0, 1) := by decide +kernel
theorem dX9_drop_23 : decode cX9_drop 23 = .ok (.invokevirtual 69, 3) := by decide +kernel
theorem dX9_drop_26 : decode cX9_drop 26 = .ok (.aload_n 0, 1) := by decide +kernel
theorem dX9_drop_27 : decode cX9_drop 27 = .ok (.getfield 40, 3) := by decide +kernel
theorem dX9_drop_30 : decode cX9_drop 30 = .ok (.getfield 87, 3) := by decide +kernel
theorem dX9_drop_33 : decode cX9_drop 33 = .ok (.ireturn, 1) := by decide +kernel
theorem dX9_feed_0 : decode cX9_feed 0 = .ok (.aload_n 0, 1) := by decide +kernel
theorem dX9_feed_1 : decode cX9_feed 1 = .ok (.getfield 12, 3) := by decide +kernel
theorem dX9_feed_4 : decode cX9_feed 4 = .ok (.bipush 20, 2) := by decide +kernel
theorem dX9_feed_6 : decode cX9_feed 6 = .ok (.invokevirtual 101, 3) := by decide +kernel
theorem dX9_feed_9 : decode cX9_feed 9 = .ok (.ifCond .ne 5, 3) := by decide +kernel
theorem dX9_feed_12 : decode cX9_feed 12 = .ok (.iconst (-1), 1) := by decide +kernel
theorem dX9_feed_13 : decode cX9_feed 13 = .ok (.ireturn, 1) := by decide +kernel
theorem dX9_feed_14 : decode cX9_feed 14 = .ok (.aload_n 0, 1) := by decide +kernel
theorem dX9_feed_15 : decode cX9_feed 15 = .ok (.getfield 12, 3) := by decide +kernel
theorem dX9_feed_18 : decode cX9_feed 18 = .ok (.iload_n 1, 1) := by decide +kernel
theorem dX9_feed_19 : decode cX9_feed 19 = .ok (.invokevirtual 105, 3) := by decide +kernel
theorem dX9_feed_22 : decode cX9_feed 22 = .ok (.aload_n 0, 1) := by decide +kernel
theorem dX9_feed_23 : decode cX9_feed 23 = .ok (.getfield 12, 3) := by decide +kernel
theorem dX9_feed_26 : decode cX9_feed 26 = .ok (.iload_n 2, 1) := by decide +kernel
theorem dX9_feed_27 : decode cX9_feed 27 = .ok (.invokevirtual 105, 3) := by decide +kernel
theorem dX9_feed_30 : decode cX9_feed 30 = .ok (.aload_n 0, 1) := by decide +kernel
theorem dX9_feed_31 : decode cX9_feed 31 = .ok (.getfield 12, 3) := by decide +kernel
theorem dX9_feed_34 : decode cX9_feed 34 = .ok (.iload_n 3, 1) := by decide +kernel
theorem dX9_feed_35 : decode cX9_feed 35 = .ok (.invokevirtual 105, 3) := by decide +kernel
theorem dX9_feed_38 : decode cX9_feed 38 = .ok (.aload_n 0, 1) := by decide +kernel
theorem dX9_feed_39 : decode cX9_feed 39 = .ok (.getfield 12, 3) := by decide +kernel
theorem dX9_feed_42 : decode cX9_feed 42 = .ok (.iload 4, 2) := by decide +kernel
theorem dX9_feed_44 : decode cX9_feed 44 = .ok (.invokevirtual 105, 3) := by decide +kernel
theorem dX9_feed_47 : decode cX9_feed 47 = .ok (.aload_n 0, 1) := by decide +kernel
theorem dX9_feed_48 : decode cX9_feed 48 = .ok (.getfield 12, 3) := by decide +kernel
theorem dX9_feed_51 : decode cX9_feed 51 = .ok (.iload 5, 2) := by decide +kernel
theorem dX9_feed_53 : decode cX9_feed 53 = .ok (.invokevirtual 105, 3) := by decide +kernel
theorem dX9_feed_56 : decode cX9_feed 56 = .ok (.aload_n 0, 1) := by decide +kernel
theorem dX9_feed_57 : decode cX9_feed 57 = .ok (.getfield 12, 3) := by decide +kernel
theorem dX9_feed_60 : decode cX9_feed 60 = .ok (.getfield 108, 3) := by decide +kernel
theorem dX9_feed_63 : decode cX9_feed 63 = .ok (.ireturn, 1) := by decide +kernel
theorem dX9_end_0 : decode cX9_end 0 = .ok (.iload_n 1, 1) := by decide +kernel
theorem dX9_end_1 : decode cX9_end 1 = .ok (.ifCond .lt 14, 3) := by decide +kernel
theorem dX9_end_4 : decode cX9_end 4 = .ok (.iload_n 1, 1) := by decide +kernel
theorem dX9_end_5 : decode cX9_end 5 = .ok (.aload_n 0, 1) := by decide +kernel
theorem dX9_end_6 : decode cX9_end 6 = .ok (.getfield 12, 3) := by decide +kernel
theorem dX9_end_9 : decode cX9_end 9 = .ok (.getfield 108, 3) := by decide +kernel
theorem dX9_end_12 : decode cX9_end 12 = .ok (.if_icmp .le 5, 3) := by decide +kernel
theorem dX9_end_15 : decode cX9_end 15 = .ok (.iconst 0, 1) := by decide +kernel
theorem dX9_end_16 : decode cX9_end 16 = .ok (.ireturn, 1) := by decide +kernel
theorem dX9_end_17 : decode cX9_end 17 = .ok (.aload_n 0, 1) := by decide +kernel
theorem dX9_end_18 : decode cX9_end 18 = .ok (.getfield 12, 3) := by decide +kernel
theorem dX9_end_21 : decode cX9_end 21 = .ok (.iload_n 1, 1) := by decide +kernel
theorem dX9_end_22 : decode cX9_end 22 = .ok (.putfield 108, 3) := by decide +kernel
theorem dX9_end_25 : decode cX9_end 25 = .ok (.iconst 1, 1) := by decide +kernel
theorem dX9_end_26 : decode cX9_end 26 = .ok (.ireturn, 1) := by decide +kernel
theorem dX9_tell_0 : decode cX9_tell 0 = .ok (.aload_n 0, 1) := by decide +kernel
theorem dX9_tell_1 : decode cX9_tell 1 = .ok (.getfield 44, 3) := by decide +kernel
theorem dX9_tell_4 : decode cX9_tell 4 = .ok (.aload_n 0, 1) := by decide +kernel
theorem dX9_tell_5 : decode cX9_tell 5 = .ok (.getfield 40, 3) := by decide +kernel
theorem dX9_tell_8 : decode cX9_tell 8 = .ok (.invokevirtual 111, 3) := by decide +kernel
theorem dX9_tell_11 : decode cX9_tell 11 = .ok (.aload_n 0, 1) := by decide +kernel
theorem dX9_tell_12 : decode cX9_tell 12 = .ok (.getfield 12, 3) := by decide +kernel
theorem dX9_tell_15 : decode cX9_tell 15 = .ok (.aload_n 0, 1) := by decide +kernel
theorem dX9_tell_16 : decode cX9_tell 16 = .ok (.getfield 44, 3) := by decide +kernel
theorem dX9_tell_19 : decode cX9_tell 19 = .ok (.invokevirtual 115, 3) := by decide +kernel
theorem dX9_tell_22 : decode cX9_tell 22 = .ok (.istore_n 1, 1) := by decide +kernel
theorem dX9_tell_23 : decode cX9_tell 23 = .ok (.aload_n 0, 1) := by decide +kernel
theorem dX9_tell_24 : decode cX9_tell 24 = .ok (.aload_n 0, 1) := by decide +kernel
theorem dX9_tell_25 : decode cX9_tell 25 = .ok (.getfield 12, 3) := by decide +kernel
theorem dX9_tell_28 : decode cX9_tell 28 = .ok (.getfield 119, 3) := by decide +kernel
theorem dX9_tell_31 : decode cX9_tell 31 = .ok (.putfield 51, 3) := by decide +kernel
theorem dX9_tell_34 : decode cX9_tell 34 = .ok (.aload_n 0, 1) := by decide +kernel
theorem dX9_tell_35 : decode cX9_tell 35 = .ok (.getfield 12, 3) := by decide +kernel
theorem dX9_tell_38 : decode cX9_tell 38 = .ok (.iconst 0, 1) := by decide +kernel
theorem dX9_tell_39 : decode cX9_tell 39 = .ok (.putfield 108, 3) := by decide +kernel
theorem dX9_tell_42 : decode cX9_tell 42 = .ok (.iload_n 1, 1) := by decide +kernel
theorem dX9_tell_43 : decode cX9_tell 43 = .ok (.iconst (-1), 1) := by decide +kernel
theorem dX9_tell_44 : decode cX9_tell 44 = .ok (.if_icmp .eq 25, 3) := by decide +kernel
theorem dX9_tell_47 : decode cX9_tell 47 = .ok (.aload_n 0, 1) := by decide +kernel
theorem dX9_tell_48 : decode cX9_tell 48 = .ok (.getfield 40, 3) := by decide +kernel
theorem dX9_tell_51 : decode cX9_tell 51 = .ok (.astore_n 2, 1) := by decide +kernel
theorem dX9_tell_52 : decode cX9_tell 52 = .ok (.aload_n 0, 1) := by decide +kernel
theorem dX9_tell_53 : decode cX9_tell 53 = .ok (.aload_n 0, 1) := by decide +kernel
theorem dX9_tell_54 : decode cX9_tell 54 = .ok (.getfield 44, 3) := by decide +kernel
theorem dX9_tell_57 : decode cX9_tell 57 = .ok (.putfield 40, 3) := by decide +kernel
theorem dX9_tell_60 : decode cX9_tell 60 = .ok (.aload_n 0, 1) := by decide +kernel
theorem dX9_tell_61 : decode cX9_tell 61 = .ok (.aload_n 2, 1) := by decide +kernel
theorem dX9_tell_62 : decode cX9_tell 62 = .ok (.putfield 44, 3) := by decide +kernel
theorem dX9_tell_65 : decode cX9_tell 65 = .ok (.aload_n 0, 1) := by decide +kernel
theorem dX9_tell_66 : decode cX9_tell 66 = .ok (.invokevirtual 69, 3) := by decide +kernel
theorem dX9_tell_69 : decode cX9_tell 69 = .ok (.iload_n 1, 1) := by decide +kernel
theorem dX9_tell_70 : decode cX9_tell 70 = .ok (.ireturn, 1) := by decide +kernel
theorem dX9_fault_0 : decode cX9_fault 0 = .ok (.aload_n 0, 1) := by decide +kernel
theorem dX9_fault_1 : decode cX9_fault 1 = .ok (.getfield 51, 3) := by decide +kernel
theorem dX9_fault_4 : decode cX9_fault 4 = .ok (.ireturn, 1) := by decide +kernel
theorem dX9_count_0 : decode cX9_count 0 = .ok (.iload_n 1, 1) := by decide +kernel
theorem dX9_count_1 : decode cX9_count 1 = .ok (.tableswitch 60 0 3 #[31, 39, 47, 55], 31) := by decide +kernel
theorem dX9_count_32 : decode cX9_count 32 = .ok (.aload_n 0, 1) := by decide +kernel
theorem dX9_count_33 : decode cX9_count 33 = .ok (.getfield 40, 3) := by decide +kernel
theorem dX9_count_36 : decode cX9_count 36 = .ok (.getfield 122, 3) := by decide +kernel
theorem dX9_count_39 : decode cX9_count 39 = .ok (.ireturn, 1) := by decide +kernel
theorem dX9_count_40 : decode cX9_count 40 = .ok (.aload_n 0, 1) := by decide +kernel
theorem dX9_count_41 : decode cX9_count 41 = .ok (.getfield 40, 3) := by decide +kernel
theorem dX9_count_44 : decode cX9_count 44 = .ok (.getfield 87, 3) := by decide +kernel
theorem dX9_count_47 : decode cX9_count 47 = .ok (.ireturn, 1) := by decide +kernel
theorem dX9_count_48 : decode cX9_count 48 = .ok (.aload_n 0, 1) := by decide +kernel
theorem dX9_count_49 : decode cX9_count 49 = .ok (.getfield 12, 3) := by decide +kernel
theorem dX9_count_52 : decode cX9_count 52 = .ok (.getfield 108, 3) := by decide +kernel
theorem dX9_count_55 : decode cX9_count 55 = .ok (.ireturn, 1) := by decide +kernel
theorem dX9_count_56 : decode cX9_count 56 = .ok (.aload_n 0, 1) := by decide +kernel
theorem dX9_count_57 : decode cX9_count 57 = .ok (.getfield 47, 3) := by decide +kernel
theorem dX9_count_60 : decode cX9_count 60 = .ok (.ireturn, 1) := by decide +kernel
theorem dX9_count_61 : decode cX9_count 61 = .ok (.iconst (-1), 1) := by decide +kernel
theorem dX9_count_62 : decode cX9_count 62 = .ok (.ireturn, 1) := by decide +kernel
theorem dX9_date_0 : decode cX9_date 0 = .ok (.aload_n 0, 1) := by decide +kernel
theorem dX9_date_1 : decode cX9_date 1 = .ok (.getfield 40, 3) := by decide +kernel
theorem dX9_date_4 : decode cX9_date 4 = .ok (.iconst 1, 1) := by decide +kernel
theorem dX9_date_5 : decode cX9_date 5 = .ok (.iload_n 1, 1) := by decide +kernel
theorem dX9_date_6 : decode cX9_date 6 = .ok (.invokevirtual 61, 3) := by decide +kernel
theorem dX9_date_9 : decode cX9_date 9 = .ok (.ifCond .ne 5, 3) := by decide +kernel
theorem dX9_date_12 : decode cX9_date 12 = .ok (.iconst (-1), 1) := by decide +kernel
theorem dX9_date_13 : decode cX9_date 13 = .ok (.ireturn, 1) := by decide +kernel
theorem dX9_date_14 : decode cX9_date 14 = .ok (.iload_n 2, 1) := by decide +kernel
theorem dX9_date_15 : decode cX9_date 15 = .ok (.ifCond .ne 12, 3) := by decide +kernel
theorem dX9_date_18 : decode cX9_date 18 = .ok (.aload_n 0, 1) := by decide +kernel
theorem dX9_date_19 : decode cX9_date 19 = .ok (.getfield 40, 3) := by decide +kernel
theorem dX9_date_22 : decode cX9_date 22 = .ok (.iload_n 1, 1) := by decide +kernel
theorem dX9_date_23 : decode cX9_date 23 = .ok (.invokevirtual 125, 3) := by decide +kernel
theorem dX9_date_26 : decode cX9_date 26 = .ok (.ireturn, 1) := by decide +kernel
theorem dX9_date_27 : decode cX9_date 27 = .ok (.iload_n 2, 1) := by decide +kernel
theorem dX9_date_28 : decode cX9_date 28 = .ok (.iconst 1, 1) := by decide +kernel
theorem dX9_date_29 : decode cX9_date 29 = .ok (.if_icmp .ne 14, 3) := by decide +kernel
theorem dX9_date_32 : decode cX9_date 32 = .ok (.aload_n 0, 1) := by decide +kernel
theorem dX9_date_33 : decode cX9_date 33 = .ok (.getfield 40, 3) := by decide +kernel
theorem dX9_date_36 : decode cX9_date 36 = .ok (.iload_n 1, 1) := by decide +kernel
theorem dX9_date_37 : decode cX9_date 37 = .ok (.invokevirtual 129, 3) := by decide +kernel
theorem dX9_date_40 : decode cX9_date 40 = .ok (.goto 4, 3) := by decide +kernel
theorem dX9_date_43 : decode cX9_date 43 = .ok (.iconst (-1), 1) := by decide +kernel
theorem dX9_date_44 : decode cX9_date 44 = .ok (.ireturn, 1) := by decide +kernel
theorem dX9_told_0 : decode cX9_told 0 = .ok (.aload_n 0, 1) := by decide +kernel
theorem dX9_told_1 : decode cX9_told 1 = .ok (.getfield 40, 3) := by decide +kernel
theorem dX9_told_4 : decode cX9_told 4 = .ok (.iconst 4, 1) := by decide +kernel
theorem dX9_told_5 : decode cX9_told 5 = .ok (.iload_n 1, 1) := by decide +kernel
theorem dX9_told_6 : decode cX9_told 6 = .ok (.invokevirtual 61, 3) := by decide +kernel
theorem dX9_told_9 : decode cX9_told 9 = .ok (.ifCond .ne 13, 3) := by decide +kernel
theorem dX9_told_12 : decode cX9_told 12 = .ok (.new 132, 3) := by decide +kernel
theorem dX9_told_15 : decode cX9_told 15 = .ok (.dup, 1) := by decide +kernel
theorem dX9_told_16 : decode cX9_told 16 = .ok (.ldc 134, 2) := by decide +kernel
theorem dX9_told_18 : decode cX9_told 18 = .ok (.invokespecial 136, 3) := by decide +kernel
theorem dX9_told_21 : decode cX9_told 21 = .ok (.athrow, 1) := by decide +kernel
theorem dX9_told_22 : decode cX9_told 22 = .ok (.iload_n 2, 1) := by decide +kernel
theorem dX9_told_23 : decode cX9_told 23 = .ok (.ifCond .lt 19, 3) := by decide +kernel
theorem dX9_told_26 : decode cX9_told 26 = .ok (.iload_n 2, 1) := by decide +kernel
theorem dX9_told_27 : decode cX9_told 27 = .ok (.bipush 7, 2) := by decide +kernel
theorem dX9_told_29 : decode cX9_told 29 = .ok (.if_icmp .ge 13, 3) := by decide +kernel
theorem dX9_told_32 : decode cX9_told 32 = .ok (.aload_n 0, 1) := by decide +kernel
theorem dX9_told_33 : decode cX9_told 33 = .ok (.getfield 40, 3) := by decide +kernel
theorem dX9_told_36 : decode cX9_told 36 = .ok (.iload_n 1, 1) := by decide +kernel
theorem dX9_told_37 : decode cX9_told 37 = .ok (.iload_n 2, 1) := by decide +kernel
theorem dX9_told_38 : decode cX9_told 38 = .ok (.invokevirtual 94, 3) := by decide +kernel
theorem dX9_told_41 : decode cX9_told 41 = .ok (.ireturn, 1) := by decide +kernel
theorem dX9_told_42 : decode cX9_told 42 = .ok (.iload_n 2, 1) := by decide +kernel
theorem dX9_told_43 : decode cX9_told 43 = .ok (.bipush 10, 2) := by decide +kernel
theorem dX9_told_45 : decode cX9_told 45 = .ok (.if_icmp .le 17, 3) := by decide +kernel
theorem dX9_told_48 : decode cX9_told 48 = .ok (.iload_n 2, 1) := by decide +kernel
theorem dX9_told_49 : decode cX9_told 49 = .ok (.bipush 10, 2) := by decide +kernel
theorem dX9_told_51 : decode cX9_told 51 = .ok (.aload_n 0, 1) := by decide +kernel
theorem dX9_told_52 : decode cX9_told 52 = .ok (.getfield 40, 3) := by decide +kernel
theorem dX9_told_55 : decode cX9_told 55 = .ok (.getfield 122, 3) := by decide +kernel
theorem dX9_told_58 : decode cX9_told 58 = .ok (.iadd, 1) := by decide +kernel
theorem dX9_told_59 : decode cX9_told 59 = .ok (.if_icmp .le 13, 3) := by decide +kernel
theorem dX9_told_62 : decode cX9_told 62 = .ok (.new 132, 3) := by decide +kernel
theorem dX9_told_65 : decode cX9_told 65 = .ok (.dup, 1) := by decide +kernel
theorem dX9_told_66 : decode cX9_told 66 = .ok (.ldc 139, 2) := by decide +kernel
theorem dX9_told_68 : decode cX9_told 68 = .ok (.invokespecial 136, 3) := by decide +kernel
theorem dX9_told_71 : decode cX9_told 71 = .ok (.athrow, 1) := by decide +kernel
theorem dX9_told_72 : decode cX9_told 72 = .ok (.aload_n 0, 1) := by decide +kernel
theorem dX9_told_73 : decode cX9_told 73 = .ok (.getfield 40, 3) := by decide +kernel
theorem dX9_told_76 : decode cX9_told 76 = .ok (.iload_n 1, 1) := by decide +kernel
theorem dX9_told_77 : decode cX9_told 77 = .ok (.iload_n 2, 1) := by decide +kernel
theorem dX9_told_78 : decode cX9_told 78 = .ok (.bipush 10, 2) := by decide +kernel
theorem dX9_told_80 : decode cX9_told 80 = .ok (.isub, 1) := by decide +kernel
theorem dX9_told_81 : decode cX9_told 81 = .ok (.invokevirtual 141, 3) := by decide +kernel
theorem dX9_told_84 : decode cX9_told 84 = .ok (.ireturn, 1) := by decide +kernel
theorem dX9_cost_0 : decode cX9_cost 0 = .ok (.aload_n 0, 1) := by decide +kernel
theorem dX9_cost_1 : decode cX9_cost 1 = .ok (.invokevirtual 144, 3) := by decide +kernel
theorem dX9_cost_4 : decode cX9_cost 4 = .ok (.aload_n 0, 1) := by decide +kernel
theorem dX9_cost_5 : decode cX9_cost 5 = .ok (.getfield 19, 3) := by decide +kernel
theorem dX9_cost_8 : decode cX9_cost 8 = .ok (.getfield 147, 3) := by decide +kernel
theorem dX9_cost_11 : decode cX9_cost 11 = .ok (.getfield 151, 3) := by decide +kernel
theorem dX9_cost_14 : decode cX9_cost 14 = .ok (.aload_n 0, 1) := by decide +kernel
theorem dX9_cost_15 : decode cX9_cost 15 = .ok (.getfield 19, 3) := by decide +kernel
theorem dX9_cost_18 : decode cX9_cost 18 = .ok (.getfield 147, 3) := by decide +kernel
theorem dX9_cost_21 : decode cX9_cost 21 = .ok (.getfield 157, 3) := by decide +kernel
theorem dX9_cost_24 : decode cX9_cost 24 = .ok (.iload_n 1, 1) := by decide +kernel
theorem dX9_cost_25 : decode cX9_cost 25 = .ok (.invokestatic 160, 3) := by decide +kernel
theorem dX9_cost_28 : decode cX9_cost 28 = .ok (.lreturn, 1) := by decide +kernel
theorem dX9_part_0 : decode cX9_part 0 = .ok (.aload_n 0, 1) := by decide +kernel
theorem dX9_part_1 : decode cX9_part 1 = .ok (.getfield 40, 3) := by decide +kernel
theorem dX9_part_4 : decode cX9_part 4 = .ok (.iconst 4, 1) := by decide +kernel
theorem dX9_part_5 : decode cX9_part 5 = .ok (.iload_n 1, 1) := by decide +kernel
theorem dX9_part_6 : decode cX9_part 6 = .ok (.invokevirtual 61, 3) := by decide +kernel
theorem dX9_part_9 : decode cX9_part 9 = .ok (.ifCond .ne 7, 3) := by decide +kernel
theorem dX9_part_12 : decode cX9_part 12 = .ok (.ldc2_w 164, 3) := by decide +kernel
theorem dX9_part_15 : decode cX9_part 15 = .ok (.lreturn, 1) := by decide +kernel
theorem dX9_part_16 : decode cX9_part 16 = .ok (.aload_n 0, 1) := by decide +kernel
theorem dX9_part_17 : decode cX9_part 17 = .ok (.invokevirtual 144, 3) := by decide +kernel
theorem dX9_part_20 : decode cX9_part 20 = .ok (.aload_n 0, 1) := by decide +kernel
theorem dX9_part_21 : decode cX9_part 21 = .ok (.getfield 19, 3) := by decide +kernel
theorem dX9_part_24 : decode cX9_part 24 = .ok (.getfield 147, 3) := by decide +kernel
theorem dX9_part_27 : decode cX9_part 27 = .ok (.getfield 166, 3) := by decide +kernel
theorem dX9_part_30 : decode cX9_part 30 = .ok (.iload_n 1, 1) := by decide +kernel
theorem dX9_part_31 : decode cX9_part 31 = .ok (.laload, 1) := by decide +kernel
theorem dX9_part_32 : decode cX9_part 32 = .ok (.aload_n 0, 1) := by decide +kernel
theorem dX9_part_33 : decode cX9_part 33 = .ok (.getfield 19, 3) := by decide +kernel
theorem dX9_part_36 : decode cX9_part 36 = .ok (.getfield 147, 3) := by decide +kernel
theorem dX9_part_39 : decode cX9_part 39 = .ok (.getfield 157, 3) := by decide +kernel
theorem dX9_part_42 : decode cX9_part 42 = .ok (.iload_n 2, 1) := by decide +kernel
theorem dX9_part_43 : decode cX9_part 43 = .ok (.invokestatic 160, 3) := by decide +kernel
theorem dX9_part_46 : decode cX9_part 46 = .ok (.lreturn, 1) := by decide +kernel
theorem dX9_surplus_0 : decode cX9_surplus 0 = .ok (.iload_n 1, 1) := by decide +kernel
theorem dX9_surplus_1 : decode cX9_surplus 1 = .ok (.ifCond .eq 19, 3) := by decide +kernel
theorem dX9_surplus_4 : decode cX9_surplus 4 = .ok (.aload_n 0, 1) := by decide +kernel
theorem dX9_surplus_5 : decode cX9_surplus 5 = .ok (.getfield 40, 3) := by decide +kernel
theorem dX9_surplus_8 : decode cX9_surplus 8 = .ok (.iconst 1, 1) := by decide +kernel
theorem dX9_surplus_9 : decode cX9_surplus 9 = .ok (.iload_n 1, 1) := by decide +kernel
theorem dX9_surplus_10 : decode cX9_surplus 10 = .ok (.invokevirtual 61, 3) := by decide +kernel
theorem dX9_surplus_13 : decode cX9_surplus 13 = .ok (.ifCond .ne 7, 3) := by decide +kernel
theorem dX9_surplus_16 : decode cX9_surplus 16 = .ok (.ldc2_w 164, 3) := by decide +kernel
theorem dX9_surplus_19 : decode cX9_surplus 19 = .ok (.lreturn, 1) := by decide +kernel
theorem dX9_surplus_20 : decode cX9_surplus 20 = .ok (.aload_n 0, 1) := by decide +kernel
theorem dX9_surplus_21 : decode cX9_surplus 21 = .ok (.invokevirtual 144, 3) := by decide +kernel
theorem dX9_surplus_24 : decode cX9_surplus 24 = .ok (.ldc2_w 170, 3) := by decide +kernel
theorem dX9_surplus_27 : decode cX9_surplus 27 = .ok (.aload_n 0, 1) := by decide +kernel
theorem dX9_surplus_28 : decode cX9_surplus 28 = .ok (.getfield 19, 3) := by decide +kernel
theorem dX9_surplus_31 : decode cX9_surplus 31 = .ok (.getfield 147, 3) := by decide +kernel
theorem dX9_surplus_34 : decode cX9_surplus 34 = .ok (.getfield 166, 3) := by decide +kernel
theorem dX9_surplus_37 : decode cX9_surplus 37 = .ok (.aload_n 0, 1) := by decide +kernel
theorem dX9_surplus_38 : decode cX9_surplus 38 = .ok (.getfield 40, 3) := by decide +kernel
theorem dX9_surplus_41 : decode cX9_surplus 41 = .ok (.getfield 87, 3) := by decide +kernel
theorem dX9_surplus_44 : decode cX9_surplus 44 = .ok (.iload_n 1, 1) := by decide +kernel
theorem dX9_surplus_45 : decode cX9_surplus 45 = .ok (.iadd, 1) := by decide +kernel
theorem dX9_surplus_46 : decode cX9_surplus 46 = .ok (.laload, 1) := by decide +kernel
theorem dX9_surplus_47 : decode cX9_surplus 47 = .ok (.lmul, 1) := by decide +kernel
theorem dX9_surplus_48 : decode cX9_surplus 48 = .ok (.aload_n 0, 1) := by decide +kernel
theorem dX9_surplus_49 : decode cX9_surplus 49 = .ok (.getfield 19, 3) := by decide +kernel
theorem dX9_surplus_52 : decode cX9_surplus 52 = .ok (.getfield 147, 3) := by decide +kernel
theorem dX9_surplus_55 : decode cX9_surplus 55 = .ok (.getfield 157, 3) := by decide +kernel
theorem dX9_surplus_58 : decode cX9_surplus 58 = .ok (.iload_n 2, 1) := by decide +kernel
theorem dX9_surplus_59 : decode cX9_surplus 59 = .ok (.invokestatic 160, 3) := by decide +kernel
theorem dX9_surplus_62 : decode cX9_surplus 62 = .ok (.lreturn, 1) := by decide +kernel
theorem dX9_multiplier_0 : decode cX9_multiplier 0 = .ok (.aload_n 0, 1) := by decide +kernel
theorem dX9_multiplier_1 : decode cX9_multiplier 1 = .ok (.getfield 40, 3) := by decide +kernel
theorem dX9_multiplier_4 : decode cX9_multiplier 4 = .ok (.iconst 1, 1) := by decide +kernel
theorem dX9_multiplier_5 : decode cX9_multiplier 5 = .ok (.iload_n 1, 1) := by decide +kernel
theorem dX9_multiplier_6 : decode cX9_multiplier 6 = .ok (.invokevirtual 61, 3) := by decide +kernel
theorem dX9_multiplier_9 : decode cX9_multiplier 9 = .ok (.ifCond .ne 7, 3) := by decide +kernel
theorem dX9_multiplier_12 : decode cX9_multiplier 12 = .ok (.ldc2_w 164, 3) := by decide +kernel
theorem dX9_multiplier_15 : decode cX9_multiplier 15 = .ok (.lreturn, 1) := by decide +kernel
theorem dX9_multiplier_16 : decode cX9_multiplier 16 = .ok (.aload_n 0, 1) := by decide +kernel
theorem dX9_multiplier_17 : decode cX9_multiplier 17 = .ok (.invokevirtual 144, 3) := by decide +kernel
theorem dX9_multiplier_20 : decode cX9_multiplier 20 = .ok (.aload_n 0, 1) := by decide +kernel
theorem dX9_multiplier_21 : decode cX9_multiplier 21 = .ok (.getfield 19, 3) := by decide +kernel
theorem dX9_multiplier_24 : decode cX9_multiplier 24 = .ok (.getfield 172, 3) := by decide +kernel
theorem dX9_multiplier_27 : decode cX9_multiplier 27 = .ok (.getfield 176, 3) := by decide +kernel
theorem dX9_multiplier_30 : decode cX9_multiplier 30 = .ok (.iload_n 1, 1) := by decide +kernel
theorem dX9_multiplier_31 : decode cX9_multiplier 31 = .ok (.laload, 1) := by decide +kernel
theorem dX9_multiplier_32 : decode cX9_multiplier 32 = .ok (.aload_n 0, 1) := by decide +kernel
theorem dX9_multiplier_33 : decode cX9_multiplier 33 = .ok (.getfield 19, 3) := by decide +kernel
theorem dX9_multiplier_36 : decode cX9_multiplier 36 = .ok (.getfield 172, 3) := by decide +kernel
theorem dX9_multiplier_39 : decode cX9_multiplier 39 = .ok (.getfield 179, 3) := by decide +kernel
theorem dX9_multiplier_42 : decode cX9_multiplier 42 = .ok (.iload_n 2, 1) := by decide +kernel
theorem dX9_multiplier_43 : decode cX9_multiplier 43 = .ok (.invokestatic 160, 3) := by decide +kernel
theorem dX9_multiplier_46 : decode cX9_multiplier 46 = .ok (.lreturn, 1) := by decide +kernel
theorem dX9_dear_0 : decode cX9_dear 0 = .ok (.aload_n 0, 1) := by decide +kernel
theorem dX9_dear_1 : decode cX9_dear 1 = .ok (.getfield 40, 3) := by decide +kernel
theorem dX9_dear_4 : decode cX9_dear 4 = .ok (.iconst 4, 1) := by decide +kernel
theorem dX9_dear_5 : decode cX9_dear 5 = .ok (.iload_n 1, 1) := by decide +kernel
theorem dX9_dear_6 : decode cX9_dear 6 = .ok (.invokevirtual 61, 3) := by decide +kernel
theorem dX9_dear_9 : decode cX9_dear 9 = .ok (.ifCond .ne 7, 3) := by decide +kernel
theorem dX9_dear_12 : decode cX9_dear 12 = .ok (.ldc2_w 164, 3) := by decide +kernel
theorem dX9_dear_15 : decode cX9_dear 15 = .ok (.lreturn, 1) := by decide +kernel
theorem dX9_dear_16 : decode cX9_dear 16 = .ok (.aload_n 0, 1) := by decide +kernel
theorem dX9_dear_17 : decode cX9_dear 17 = .ok (.invokevirtual 144, 3) := by decide +kernel
theorem dX9_dear_20 : decode cX9_dear 20 = .ok (.aload_n 0, 1) := by decide +kernel
theorem dX9_dear_21 : decode cX9_dear 21 = .ok (.getfield 19, 3) := by decide +kernel
theorem dX9_dear_24 : decode cX9_dear 24 = .ok (.iload_n 1, 1) := by decide +kernel
theorem dX9_dear_25 : decode cX9_dear 25 = .ok (.invokevirtual 180, 3) := by decide +kernel
theorem dX9_dear_28 : decode cX9_dear 28 = .ok (.aload_n 0, 1) := by decide +kernel
theorem dX9_dear_29 : decode cX9_dear 29 = .ok (.getfield 19, 3) := by decide +kernel
theorem dX9_dear_32 : decode cX9_dear 32 = .ok (.getfield 172, 3) := by decide +kernel
theorem dX9_dear_35 : decode cX9_dear 35 = .ok (.getfield 179, 3) := by decide +kernel
theorem dX9_dear_38 : decode cX9_dear 38 = .ok (.iload_n 2, 1) := by decide +kernel
theorem dX9_dear_39 : decode cX9_dear 39 = .ok (.invokestatic 160, 3) := by decide +kernel
theorem dX9_dear_42 : decode cX9_dear 42 = .ok (.lreturn, 1) := by decide +kernel
theorem dX9_without_0 : decode cX9_without 0 = .ok (.aload_n 0, 1) := by decide +kernel
theorem dX9_without_1 : decode cX9_without 1 = .ok (.getfield 40, 3) := by decide +kernel
theorem dX9_without_4 : decode cX9_without 4 = .ok (.iconst 4, 1) := by decide +kernel
theorem dX9_without_5 : decode cX9_without 5 = .ok (.iload_n 1, 1) := by decide +kernel
theorem dX9_without_6 : decode cX9_without 6 = .ok (.invokevirtual 61, 3) := by decide +kernel
theorem dX9_without_9 : decode cX9_without 9 = .ok (.ifCond .ne 7, 3) := by decide +kernel
theorem dX9_without_12 : decode cX9_without 12 = .ok (.ldc2_w 164, 3) := by decide +kernel
theorem dX9_without_15 : decode cX9_without 15 = .ok (.lreturn, 1) := by decide +kernel
theorem dX9_without_16 : decode cX9_without 16 = .ok (.aload_n 0, 1) := by decide +kernel
theorem dX9_without_17 : decode cX9_without 17 = .ok (.invokevirtual 144, 3) := by decide +kernel
theorem dX9_without_20 : decode cX9_without 20 = .ok (.aload_n 0, 1) := by decide +kernel
theorem dX9_without_21 : decode cX9_without 21 = .ok (.getfield 19, 3) := by decide +kernel
theorem dX9_without_24 : decode cX9_without 24 = .ok (.getfield 184, 3) := by decide +kernel
theorem dX9_without_27 : decode cX9_without 27 = .ok (.iload_n 1, 1) := by decide +kernel
theorem dX9_without_28 : decode cX9_without 28 = .ok (.laload, 1) := by decide +kernel
theorem dX9_without_29 : decode cX9_without 29 = .ok (.aload_n 0, 1) := by decide +kernel
theorem dX9_without_30 : decode cX9_without 30 = .ok (.getfield 19, 3) := by decide +kernel
theorem dX9_without_33 : decode cX9_without 33 = .ok (.getfield 187, 3) := by decide +kernel
theorem dX9_without_36 : decode cX9_without 36 = .ok (.iload_n 1, 1) := by decide +kernel
theorem dX9_without_37 : decode cX9_without 37 = .ok (.laload, 1) := by decide +kernel
theorem dX9_without_38 : decode cX9_without 38 = .ok (.iload_n 2, 1) := by decide +kernel
theorem dX9_without_39 : decode cX9_without 39 = .ok (.invokestatic 160, 3) := by decide +kernel
theorem dX9_without_42 : decode cX9_without 42 = .ok (.lreturn, 1) := by decide +kernel
theorem dX9_lots_0 : decode cX9_lots 0 = .ok (.aload_n 0, 1) := by decide +kernel
theorem dX9_lots_1 : decode cX9_lots 1 = .ok (.getfield 40, 3) := by decide +kernel
theorem dX9_lots_4 : decode cX9_lots 4 = .ok (.iconst 4, 1) := by decide +kernel
theorem dX9_lots_5 : decode cX9_lots 5 = .ok (.iload_n 1, 1) := by decide +kernel
theorem dX9_lots_6 : decode cX9_lots 6 = .ok (.invokevirtual 61, 3) := by decide +kernel
theorem dX9_lots_9 : decode cX9_lots 9 = .ok (.ifCond .ne 5, 3) := by decide +kernel
theorem dX9_lots_12 : decode cX9_lots 12 = .ok (.iconst (-1), 1) := by decide +kernel
theorem dX9_lots_13 : decode cX9_lots 13 = .ok (.ireturn, 1) := by decide +kernel
theorem dX9_lots_14 : decode cX9_lots 14 = .ok (.aload_n 0, 1) := by decide +kernel
theorem dX9_lots_15 : decode cX9_lots 15 = .ok (.invokevirtual 190, 3) := by decide +kernel
theorem dX9_lots_18 : decode cX9_lots 18 = .ok (.aload_n 0, 1) := by decide +kernel
theorem dX9_lots_19 : decode cX9_lots 19 = .ok (.getfield 26, 3) := by decide +kernel
theorem dX9_lots_22 : decode cX9_lots 22 = .ok (.getfield 193, 3) := by decide +kernel
theorem dX9_lots_25 : decode cX9_lots 25 = .ok (.iload_n 1, 1) := by decide +kernel
theorem dX9_lots_26 : decode cX9_lots 26 = .ok (.iaload, 1) := by decide +kernel
theorem dX9_lots_27 : decode cX9_lots 27 = .ok (.ireturn, 1) := by decide +kernel
theorem dX9_lotsCost_0 : decode cX9_lotsCost 0 = .ok (.iload_n 1, 1) := by decide +kernel
theorem dX9_lotsCost_1 : decode cX9_lotsCost 1 = .ok (.ifCond .eq 12, 3) := by decide +kernel
theorem dX9_lotsCost_4 : decode cX9_lotsCost 4 = .ok (.iload_n 1, 1) := by decide +kernel
theorem dX9_lotsCost_5 : decode cX9_lotsCost 5 = .ok (.iconst 1, 1) := by decide +kernel
theorem dX9_lotsCost_6 : decode cX9_lotsCost 6 = .ok (.if_icmp .eq 7, 3) := by decide +kernel
theorem dX9_lotsCost_9 : decode cX9_lotsCost 9 = .ok (.ldc2_w 164, 3) := by decide +kernel
theorem dX9_lotsCost_12 : decode cX9_lotsCost 12 = .ok (.lreturn, 1) := by decide +kernel
theorem dX9_lotsCost_13 : decode cX9_lotsCost 13 = .ok (.aload_n 0, 1) := by decide +kernel
theorem dX9_lotsCost_14 : decode cX9_lotsCost 14 = .ok (.invokevirtual 190, 3) := by decide +kernel
theorem dX9_lotsCost_17 : decode cX9_lotsCost 17 = .ok (.iload_n 1, 1) := by decide +kernel
theorem dX9_lotsCost_18 : decode cX9_lotsCost 18 = .ok (.ifCond .ne 13, 3) := by decide +kernel
theorem dX9_lotsCost_21 : decode cX9_lotsCost 21 = .ok (.aload_n 0, 1) := by decide +kernel
theorem dX9_lotsCost_22 : decode cX9_lotsCost 22 = .ok (.getfield 26, 3) := by decide +kernel
theorem dX9_lotsCost_25 : decode cX9_lotsCost 25 = .ok (.getfield 197, 3) := by decide +kernel
theorem dX9_lotsCost_28 : decode cX9_lotsCost 28 = .ok (.goto 10, 3) := by decide +kernel
theorem dX9_lotsCost_31 : decode cX9_lotsCost 31 = .ok (.aload_n 0, 1) := by decide +kernel
theorem dX9_lotsCost_32 : decode cX9_lotsCost 32 = .ok (.getfield 26, 3) := by decide +kernel
theorem dX9_lotsCost_35 : decode cX9_lotsCost 35 = .ok (.getfield 200, 3) := by decide +kernel
theorem dX9_lotsCost_38 : decode cX9_lotsCost 38 = .ok (.aload_n 0, 1) := by decide +kernel
theorem dX9_lotsCost_39 : decode cX9_lotsCost 39 = .ok (.getfield 26, 3) := by decide +kernel
theorem dX9_lotsCost_42 : decode cX9_lotsCost 42 = .ok (.getfield 203, 3) := by decide +kernel
theorem dX9_lotsCost_45 : decode cX9_lotsCost 45 = .ok (.iload_n 2, 1) := by decide +kernel
theorem dX9_lotsCost_46 : decode cX9_lotsCost 46 = .ok (.invokestatic 160, 3) := by decide +kernel
theorem dX9_lotsCost_49 : decode cX9_lotsCost 49 = .ok (.lreturn, 1) := by decide +kernel
theorem dX9_hold_0 : decode cX9_hold 0 = .ok (.aload_n 0, 1) := by decide +kernel
theorem dX9_hold_1 : decode cX9_hold 1 = .ok (.getfield 40, 3) := by decide +kernel
theorem dX9_hold_4 : decode cX9_hold 4 = .ok (.iconst 4, 1) := by decide +kernel
theorem dX9_hold_5 : decode cX9_hold 5 = .ok (.iload_n 1, 1) := by decide +kernel
theorem dX9_hold_6 : decode cX9_hold 6 = .ok (.invokevirtual 61, 3) := by decide +kernel
theorem dX9_hold_9 : decode cX9_hold 9 = .ok (.ifCond .eq 16, 3) := by decide +kernel
theorem dX9_hold_12 : decode cX9_hold 12 = .ok (.aload_n 0, 1) := by decide +kernel
theorem dX9_hold_13 : decode cX9_hold 13 = .ok (.getfield 40, 3) := by decide +kernel
theorem dX9_hold_16 : decode cX9_hold 16 = .ok (.bipush 9, 2) := by decide +kernel
theorem dX9_hold_18 : decode cX9_hold 18 = .ok (.iload_n 2, 1) := by decide +kernel
theorem dX9_hold_19 : decode cX9_hold 19 = .ok (.invokevirtual 61, 3) := by decide +kernel
theorem dX9_hold_22 : decode cX9_hold 22 = .ok (.ifCond .ne 5, 3) := by decide +kernel
theorem dX9_hold_25 : decode cX9_hold 25 = .ok (.iconst 0, 1) := by decide +kernel
theorem dX9_hold_26 : decode cX9_hold 26 = .ok (.ireturn, 1) := by decide +kernel
theorem dX9_hold_27 : decode cX9_hold 27 = .ok (.aload_n 0, 1) := by decide +kernel
theorem dX9_hold_28 : decode cX9_hold 28 = .ok (.getfield 40, 3) := by decide +kernel
theorem dX9_hold_31 : decode cX9_hold 31 = .ok (.iload_n 1, 1) := by decide +kernel
theorem dX9_hold_32 : decode cX9_hold 32 = .ok (.bipush 6, 2) := by decide +kernel
theorem dX9_hold_34 : decode cX9_hold 34 = .ok (.iload_n 2, 1) := by decide +kernel
theorem dX9_hold_35 : decode cX9_hold 35 = .ok (.invokevirtual 90, 3) := by decide +kernel
theorem dX9_hold_38 : decode cX9_hold 38 = .ok (.iconst 1, 1) := by decide +kernel
theorem dX9_hold_39 : decode cX9_hold 39 = .ok (.ireturn, 1) := by decide +kernel
theorem dX9_cash_0 : decode cX9_cash 0 = .ok (.aload_n 0, 1) := by decide +kernel
theorem dX9_cash_1 : decode cX9_cash 1 = .ok (.getfield 40, 3) := by decide +kernel
theorem dX9_cash_4 : decode cX9_cash 4 = .ok (.bipush 10, 2) := by decide +kernel
theorem dX9_cash_6 : decode cX9_cash 6 = .ok (.iload_n 1, 1) := by decide +kernel
theorem dX9_cash_7 : decode cX9_cash 7 = .ok (.invokevirtual 61, 3) := by decide +kernel
theorem dX9_cash_10 : decode cX9_cash 10 = .ok (.ifCond .ne 5, 3) := by decide +kernel
theorem dX9_cash_13 : decode cX9_cash 13 = .ok (.iconst 0, 1) := by decide +kernel
theorem dX9_cash_14 : decode cX9_cash 14 = .ok (.ireturn, 1) := by decide +kernel
theorem dX9_cash_15 : decode cX9_cash 15 = .ok (.aload_n 0, 1) := by decide +kernel
theorem dX9_cash_16 : decode cX9_cash 16 = .ok (.iload_n 1, 1) := by decide +kernel
theorem dX9_cash_17 : decode cX9_cash 17 = .ok (.putfield 47, 3) := by decide +kernel
theorem dX9_cash_20 : decode cX9_cash 20 = .ok (.iconst 1, 1) := by decide +kernel
theorem dX9_cash_21 : decode cX9_cash 21 = .ok (.ireturn, 1) := by decide +kernel
theorem dX9_take_0 : decode cX9_take 0 = .ok (.aload_n 0, 1) := by decide +kernel
theorem dX9_take_1 : decode cX9_take 1 = .ok (.invokevirtual 190, 3) := by decide +kernel
theorem dX9_take_4 : decode cX9_take 4 = .ok (.iconst 0, 1) := by decide +kernel
theorem dX9_take_5 : decode cX9_take 5 = .ok (.istore_n 1, 1) := by decide +kernel
theorem dX9_take_6 : decode cX9_take 6 = .ok (.iload_n 1, 1) := by decide +kernel
theorem dX9_take_7 : decode cX9_take 7 = .ok (.aload_n 0, 1) := by decide +kernel
theorem dX9_take_8 : decode cX9_take 8 = .ok (.getfield 40, 3) := by decide +kernel
theorem dX9_take_11 : decode cX9_take 11 = .ok (.getfield 87, 3) := by decide +kernel
theorem dX9_take_14 : decode cX9_take 14 = .ok (.if_icmp .ge 28, 3) := by decide +kernel
theorem dX9_take_17 : decode cX9_take 17 = .ok (.aload_n 0, 1) := by decide +kernel
theorem dX9_take_18 : decode cX9_take 18 = .ok (.getfield 40, 3) := by decide +kernel
theorem dX9_take_21 : decode cX9_take 21 = .ok (.iload_n 1, 1) := by decide +kernel
theorem dX9_take_22 : decode cX9_take 22 = .ok (.bipush 6, 2) := by decide +kernel
theorem dX9_take_24 : decode cX9_take 24 = .ok (.aload_n 0, 1) := by decide +kernel
theorem dX9_take_25 : decode cX9_take 25 = .ok (.getfield 26, 3) := by decide +kernel
theorem dX9_take_28 : decode cX9_take 28 = .ok (.getfield 193, 3) := by decide +kernel
theorem dX9_take_31 : decode cX9_take 31 = .ok (.iload_n 1, 1) := by decide +kernel
theorem dX9_take_32 : decode cX9_take 32 = .ok (.iaload, 1) := by decide +kernel
theorem dX9_take_33 : decode cX9_take 33 = .ok (.invokevirtual 90, 3) := by decide +kernel
theorem dX9_take_36 : decode cX9_take 36 = .ok (.iinc 1 1, 3) := by decide +kernel
theorem dX9_take_39 : decode cX9_take 39 = .ok (.goto (-33), 3) := by decide +kernel
theorem dX9_take_42 : decode cX9_take 42 = .ok (.aload_n 0, 1) := by decide +kernel
theorem dX9_take_43 : decode cX9_take 43 = .ok (.aload_n 0, 1) := by decide +kernel
theorem dX9_take_44 : decode cX9_take 44 = .ok (.getfield 26, 3) := by decide +kernel
theorem dX9_take_47 : decode cX9_take 47 = .ok (.invokevirtual 206, 3) := by decide +kernel
theorem dX9_take_50 : decode cX9_take 50 = .ok (.putfield 47, 3) := by decide +kernel
theorem dX9_take_53 : decode cX9_take 53 = .ok (.aload_n 0, 1) := by decide +kernel
theorem dX9_take_54 : decode cX9_take 54 = .ok (.getfield 47, 3) := by decide +kernel
theorem dX9_take_57 : decode cX9_take 57 = .ok (.ireturn, 1) := by decide +kernel
theorem dX9_fails_0 : decode cX9_fails 0 = .ok (.aload_n 0, 1) := by decide +kernel
theorem dX9_fails_1 : decode cX9_fails 1 = .ok (.getfield 33, 3) := by decide +kernel
theorem dX9_fails_4 : decode cX9_fails 4 = .ok (.aload_n 0, 1) := by decide +kernel
theorem dX9_fails_5 : decode cX9_fails 5 = .ok (.getfield 40, 3) := by decide +kernel
theorem dX9_fails_8 : decode cX9_fails 8 = .ok (.aload_n 0, 1) := by decide +kernel
theorem dX9_fails_9 : decode cX9_fails 9 = .ok (.getfield 47, 3) := by decide +kernel
theorem dX9_fails_12 : decode cX9_fails 12 = .ok (.invokevirtual 210, 3) := by decide +kernel
theorem dX9_fails_15 : decode cX9_fails 15 = .ok (.aload_n 0, 1) := by decide +kernel
theorem dX9_fails_16 : decode cX9_fails 16 = .ok (.getfield 33, 3) := by decide +kernel
theorem dX9_fails_19 : decode cX9_fails 19 = .ok (.getfield 214, 3) := by decide +kernel
theorem dX9_fails_22 : decode cX9_fails 22 = .ok (.ireturn, 1) := by decide +kernel
theorem dX9_balance_0 : decode cX9_balance 0 = .ok (.iload_n 1, 1) := by decide +kernel
theorem dX9_balance_1 : decode cX9_balance 1 = .ok (.ifCond .eq 19, 3) := by decide +kernel
theorem dX9_balance_4 : decode cX9_balance 4 = .ok (.aload_n 0, 1) := by decide +kernel
theorem dX9_balance_5 : decode cX9_balance 5 = .ok (.getfield 40, 3) := by decide +kernel
theorem dX9_balance_8 : decode cX9_balance 8 = .ok (.iconst 1, 1) := by decide +kernel
theorem dX9_balance_9 : decode cX9_balance 9 = .ok (.iload_n 1, 1) := by decide +kernel
theorem dX9_balance_10 : decode cX9_balance 10 = .ok (.invokevirtual 61, 3) := by decide +kernel
theorem dX9_balance_13 : decode cX9_balance 13 = .ok (.ifCond .ne 7, 3) := by decide +kernel
theorem dX9_balance_16 : decode cX9_balance 16 = .ok (.ldc2_w 164, 3) := by decide +kernel
theorem dX9_balance_19 : decode cX9_balance 19 = .ok (.lreturn, 1) := by decide +kernel
theorem dX9_balance_20 : decode cX9_balance 20 = .ok (.aload_n 0, 1) := by decide +kernel
theorem dX9_balance_21 : decode cX9_balance 21 = .ok (.getfield 33, 3) := by decide +kernel
theorem dX9_balance_24 : decode cX9_balance 24 = .ok (.aload_n 0, 1) := by decide +kernel
theorem dX9_balance_25 : decode cX9_balance 25 = .ok (.getfield 40, 3) := by decide +kernel
theorem dX9_balance_28 : decode cX9_balance 28 = .ok (.aload_n 0, 1) := by decide +kernel
theorem dX9_balance_29 : decode cX9_balance 29 = .ok (.getfield 47, 3) := by decide +kernel
theorem dX9_balance_32 : decode cX9_balance 32 = .ok (.invokevirtual 210, 3) := by decide +kernel
theorem dX9_balance_35 : decode cX9_balance 35 = .ok (.aload_n 0, 1) := by decide +kernel
theorem dX9_balance_36 : decode cX9_balance 36 = .ok (.getfield 33, 3) := by decide +kernel
theorem dX9_balance_39 : decode cX9_balance 39 = .ok (.getfield 214, 3) := by decide +kernel
theorem dX9_balance_42 : decode cX9_balance 42 = .ok (.ifCond .eq 18, 3) := by decide +kernel
theorem dX9_balance_45 : decode cX9_balance 45 = .ok (.aload_n 0, 1) := by decide +kernel
theorem dX9_balance_46 : decode cX9_balance 46 = .ok (.getfield 33, 3) := by decide +kernel
theorem dX9_balance_49 : decode cX9_balance 49 = .ok (.getfield 214, 3) := by decide +kernel
theorem dX9_balance_52 : decode cX9_balance 52 = .ok (.iload_n 1, 1) := by decide +kernel
theorem dX9_balance_53 : decode cX9_balance 53 = .ok (.if_icmp .gt 7, 3) := by decide +kernel
theorem dX9_balance_56 : decode cX9_balance 56 = .ok (.ldc2_w 164, 3) := by decide +kernel
theorem dX9_balance_59 : decode cX9_balance 59 = .ok (.lreturn, 1) := by decide +kernel
theorem dX9_balance_60 : decode cX9_balance 60 = .ok (.aload_n 0, 1) := by decide +kernel
theorem dX9_balance_61 : decode cX9_balance 61 = .ok (.getfield 33, 3) := by decide +kernel
theorem dX9_balance_64 : decode cX9_balance 64 = .ok (.getfield 217, 3) := by decide +kernel
theorem dX9_balance_67 : decode cX9_balance 67 = .ok (.iload_n 1, 1) := by decide +kernel
theorem dX9_balance_68 : decode cX9_balance 68 = .ok (.laload, 1) := by decide +kernel
theorem dX9_balance_69 : decode cX9_balance 69 = .ok (.aload_n 0, 1) := by decide +kernel
theorem dX9_balance_70 : decode cX9_balance 70 = .ok (.getfield 33, 3) := by decide +kernel
theorem dX9_balance_73 : decode cX9_balance 73 = .ok (.getfield 220, 3) := by decide +kernel
theorem dX9_balance_76 : decode cX9_balance 76 = .ok (.iload_n 1, 1) := by decide +kernel
theorem dX9_balance_77 : decode cX9_balance 77 = .ok (.laload, 1) := by decide +kernel
theorem dX9_balance_78 : decode cX9_balance 78 = .ok (.iload_n 2, 1) := by decide +kernel
theorem dX9_balance_79 : decode cX9_balance 79 = .ok (.invokestatic 160, 3) := by decide +kernel
theorem dX9_balance_82 : decode cX9_balance 82 = .ok (.lreturn, 1) := by decide +kernel
theorem dX9_need_0 : decode cX9_need 0 = .ok (.aload_n 0, 1) := by decide +kernel
theorem dX9_need_1 : decode cX9_need 1 = .ok (.getfield 33, 3) := by decide +kernel
theorem dX9_need_4 : decode cX9_need 4 = .ok (.aload_n 0, 1) := by decide +kernel
theorem dX9_need_5 : decode cX9_need 5 = .ok (.getfield 40, 3) := by decide +kernel
theorem dX9_need_8 : decode cX9_need 8 = .ok (.iconst 0, 1) := by decide +kernel
theorem dX9_need_9 : decode cX9_need 9 = .ok (.invokevirtual 210, 3) := by decide +kernel
theorem dX9_need_12 : decode cX9_need 12 = .ok (.aload_n 0, 1) := by decide +kernel
theorem dX9_need_13 : decode cX9_need 13 = .ok (.getfield 33, 3) := by decide +kernel
theorem dX9_need_16 : decode cX9_need 16 = .ok (.aload_n 0, 1) := by decide +kernel
theorem dX9_need_17 : decode cX9_need 17 = .ok (.getfield 40, 3) := by decide +kernel
theorem dX9_need_20 : decode cX9_need 20 = .ok (.iconst 0, 1) := by decide +kernel
theorem dX9_need_21 : decode cX9_need 21 = .ok (.invokevirtual 223, 3) := by decide +kernel
theorem dX9_need_24 : decode cX9_need 24 = .ok (.aload_n 0, 1) := by decide +kernel
theorem dX9_need_25 : decode cX9_need 25 = .ok (.getfield 33, 3) := by decide +kernel
theorem dX9_need_28 : decode cX9_need 28 = .ok (.getfield 226, 3) := by decide +kernel
theorem dX9_need_31 : decode cX9_need 31 = .ok (.aload_n 0, 1) := by decide +kernel
theorem dX9_need_32 : decode cX9_need 32 = .ok (.getfield 33, 3) := by decide +kernel
theorem dX9_need_35 : decode cX9_need 35 = .ok (.getfield 229, 3) := by decide +kernel
theorem dX9_need_38 : decode cX9_need 38 = .ok (.iload_n 1, 1) := by decide +kernel
theorem dX9_need_39 : decode cX9_need 39 = .ok (.invokestatic 160, 3) := by decide +kernel
theorem dX9_need_42 : decode cX9_need 42 = .ok (.lreturn, 1) := by decide +kernel
theorem dX9_lack_0 : decode cX9_lack 0 = .ok (.iload_n 1, 1) := by decide +kernel
theorem dX9_lack_1 : decode cX9_lack 1 = .ok (.ifCond .eq 19, 3) := by decide +kernel
theorem dX9_lack_4 : decode cX9_lack 4 = .ok (.aload_n 0, 1) := by decide +kernel
theorem dX9_lack_5 : decode cX9_lack 5 = .ok (.getfield 40, 3) := by decide +kernel
theorem dX9_lack_8 : decode cX9_lack 8 = .ok (.iconst 1, 1) := by decide +kernel
theorem dX9_lack_9 : decode cX9_lack 9 = .ok (.iload_n 1, 1) := by decide +kernel
theorem dX9_lack_10 : decode cX9_lack 10 = .ok (.invokevirtual 61, 3) := by decide +kernel
theorem dX9_lack_13 : decode cX9_lack 13 = .ok (.ifCond .ne 7, 3) := by decide +kernel
theorem dX9_lack_16 : decode cX9_lack 16 = .ok (.ldc2_w 164, 3) := by decide +kernel
theorem dX9_lack_19 : decode cX9_lack 19 = .ok (.lreturn, 1) := by decide +kernel
theorem dX9_lack_20 : decode cX9_lack 20 = .ok (.aload_n 0, 1) := by decide +kernel
theorem dX9_lack_21 : decode cX9_lack 21 = .ok (.getfield 33, 3) := by decide +kernel
theorem dX9_lack_24 : decode cX9_lack 24 = .ok (.aload_n 0, 1) := by decide +kernel
theorem dX9_lack_25 : decode cX9_lack 25 = .ok (.getfield 40, 3) := by decide +kernel
theorem dX9_lack_28 : decode cX9_lack 28 = .ok (.aload_n 0, 1) := by decide +kernel
theorem dX9_lack_29 : decode cX9_lack 29 = .ok (.getfield 47, 3) := by decide +kernel
theorem dX9_lack_32 : decode cX9_lack 32 = .ok (.invokevirtual 210, 3) := by decide +kernel
theorem dX9_lack_35 : decode cX9_lack 35 = .ok (.aload_n 0, 1) := by decide +kernel
theorem dX9_lack_36 : decode cX9_lack 36 = .ok (.getfield 33, 3) := by decide +kernel
theorem dX9_lack_39 : decode cX9_lack 39 = .ok (.getfield 214, 3) := by decide +kernel
theorem dX9_lack_42 : decode cX9_lack 42 = .ok (.ifCond .eq 18, 3) := by decide +kernel
theorem dX9_lack_45 : decode cX9_lack 45 = .ok (.aload_n 0, 1) := by decide +kernel
theorem dX9_lack_46 : decode cX9_lack 46 = .ok (.getfield 33, 3) := by decide +kernel
theorem dX9_lack_49 : decode cX9_lack 49 = .ok (.getfield 214, 3) := by decide +kernel
theorem dX9_lack_52 : decode cX9_lack 52 = .ok (.iload_n 1, 1) := by decide +kernel
theorem dX9_lack_53 : decode cX9_lack 53 = .ok (.if_icmp .ge 7, 3) := by decide +kernel
theorem dX9_lack_56 : decode cX9_lack 56 = .ok (.ldc2_w 164, 3) := by decide +kernel
theorem dX9_lack_59 : decode cX9_lack 59 = .ok (.lreturn, 1) := by decide +kernel
theorem dX9_lack_60 : decode cX9_lack 60 = .ok (.aload_n 0, 1) := by decide +kernel
theorem dX9_lack_61 : decode cX9_lack 61 = .ok (.getfield 33, 3) := by decide +kernel
theorem dX9_lack_64 : decode cX9_lack 64 = .ok (.aload_n 0, 1) := by decide +kernel
theorem dX9_lack_65 : decode cX9_lack 65 = .ok (.getfield 40, 3) := by decide +kernel
theorem dX9_lack_68 : decode cX9_lack 68 = .ok (.iload_n 1, 1) := by decide +kernel
theorem dX9_lack_69 : decode cX9_lack 69 = .ok (.invokevirtual 223, 3) := by decide +kernel
theorem dX9_lack_72 : decode cX9_lack 72 = .ok (.aload_n 0, 1) := by decide +kernel
theorem dX9_lack_73 : decode cX9_lack 73 = .ok (.getfield 33, 3) := by decide +kernel
theorem dX9_lack_76 : decode cX9_lack 76 = .ok (.getfield 226, 3) := by decide +kernel
theorem dX9_lack_79 : decode cX9_lack 79 = .ok (.aload_n 0, 1) := by decide +kernel
theorem dX9_lack_80 : decode cX9_lack 80 = .ok (.getfield 33, 3) := by decide +kernel
theorem dX9_lack_83 : decode cX9_lack 83 = .ok (.getfield 229, 3) := by decide +kernel
theorem dX9_lack_86 : decode cX9_lack 86 = .ok (.iload_n 2, 1) := by decide +kernel
theorem dX9_lack_87 : decode cX9_lack 87 = .ok (.invokestatic 160, 3) := by decide +kernel
theorem dX9_lack_90 : decode cX9_lack 90 = .ok (.lreturn, 1) := by decide +kernel
theorem dX9_forgetAnswers_0 : decode cX9_forgetAnswers 0 = .ok (.aload_n 0, 1) := by decide +kernel
theorem dX9_forgetAnswers_1 : decode cX9_forgetAnswers 1 = .ok (.iconst 0, 1) := by decide +kernel
theorem dX9_forgetAnswers_2 : decode cX9_forgetAnswers 2 = .ok (.putfield 54, 3) := by decide +kernel
theorem dX9_forgetAnswers_5 : decode cX9_forgetAnswers 5 = .ok (.aload_n 0, 1) := by decide +kernel
theorem dX9_forgetAnswers_6 : decode cX9_forgetAnswers 6 = .ok (.iconst 0, 1) := by decide +kernel
theorem dX9_forgetAnswers_7 : decode cX9_forgetAnswers 7 = .ok (.putfield 58, 3) := by decide +kernel
theorem dX9_forgetAnswers_10 : decode cX9_forgetAnswers 10 = .ok (.return_, 1) := by decide +kernel
theorem dX9_findBest_0 : decode cX9_findBest 0 = .ok (.aload_n 0, 1) := by decide +kernel
theorem dX9_findBest_1 : decode cX9_findBest 1 = .ok (.getfield 54, 3) := by decide +kernel
theorem dX9_findBest_4 : decode cX9_findBest 4 = .ok (.ifCond .ne 19, 3) := by decide +kernel
theorem dX9_findBest_7 : decode cX9_findBest 7 = .ok (.aload_n 0, 1) := by decide +kernel
theorem dX9_findBest_8 : decode cX9_findBest 8 = .ok (.getfield 19, 3) := by decide +kernel
theorem dX9_findBest_11 : decode cX9_findBest 11 = .ok (.aload_n 0, 1) := by decide +kernel
theorem dX9_findBest_12 : decode cX9_findBest 12 = .ok (.getfield 40, 3) := by decide +kernel
theorem dX9_findBest_15 : decode cX9_findBest 15 = .ok (.invokevirtual 232, 3) := by decide +kernel
theorem dX9_findBest_18 : decode cX9_findBest 18 = .ok (.aload_n 0, 1) := by decide +kernel
theorem dX9_findBest_19 : decode cX9_findBest 19 = .ok (.iconst 1, 1) := by decide +kernel
theorem dX9_findBest_20 : decode cX9_findBest 20 = .ok (.putfield 54, 3) := by decide +kernel
theorem dX9_findBest_23 : decode cX9_findBest 23 = .ok (.return_, 1) := by decide +kernel
theorem dX9_findLots_0 : decode cX9_findLots 0 = .ok (.aload_n 0, 1) := by decide +kernel
theorem dX9_findLots_1 : decode cX9_findLots 1 = .ok (.getfield 58, 3) := by decide +kernel
theorem dX9_findLots_4 : decode cX9_findLots 4 = .ok (.ifCond .ne 19, 3) := by decide +kernel
theorem dX9_findLots_7 : decode cX9_findLots 7 = .ok (.aload_n 0, 1) := by decide +kernel
theorem dX9_findLots_8 : decode cX9_findLots 8 = .ok (.getfield 26, 3) := by decide +kernel
theorem dX9_findLots_11 : decode cX9_findLots 11 = .ok (.aload_n 0, 1) := by decide +kernel
theorem dX9_findLots_12 : decode cX9_findLots 12 = .ok (.getfield 40, 3) := by decide +kernel
theorem dX9_findLots_15 : decode cX9_findLots 15 = .ok (.invokevirtual 235, 3) := by decide +kernel
theorem dX9_findLots_18 : decode cX9_findLots 18 = .ok (.aload_n 0, 1) := by decide +kernel
theorem dX9_findLots_19 : decode cX9_findLots 19 = .ok (.iconst 1, 1) := by decide +kernel
theorem dX9_findLots_20 : decode cX9_findLots 20 = .ok (.putfield 58, 3) := by decide +kernel
theorem dX9_findLots_23 : decode cX9_findLots 23 = .ok (.return_, 1) := by decide +kernel
theorem dX9_inLeastTerms_0 : decode cX9_inLeastTerms 0 = .ok (.lload_n 0, 1) := by decide +kernel
theorem dX9_inLeastTerms_1 : decode cX9_inLeastTerms 1 = .ok (.lload_n 2, 1) := by decide +kernel
theorem dX9_inLeastTerms_2 : decode cX9_inLeastTerms 2 = .ok (.invokestatic 236, 3) := by decide +kernel
theorem dX9_inLeastTerms_5 : decode cX9_inLeastTerms 5 = .ok (.lstore 5, 2) := by decide +kernel
theorem dX9_inLeastTerms_7 : decode cX9_inLeastTerms 7 = .ok (.lload 5, 2) := by decide +kernel
theorem dX9_inLeastTerms_9 : decode cX9_inLeastTerms 9 = .ok (.lconst 0, 1) := by decide +kernel
theorem dX9_inLeastTerms_10 : decode cX9_inLeastTerms 10 = .ok (.lcmp, 1) := by decide +kernel
theorem dX9_inLeastTerms_11 : decode cX9_inLeastTerms 11 = .ok (.ifCond .ne 5, 3) := by decide +kernel
theorem dX9_inLeastTerms_14 : decode cX9_inLeastTerms 14 = .ok (.lconst 0, 1) := by decide +kernel
theorem dX9_inLeastTerms_15 : decode cX9_inLeastTerms 15 = .ok (.lreturn, 1) := by decide +kernel
theorem dX9_inLeastTerms_16 : decode cX9_inLeastTerms 16 = .ok (.iload 4, 2) := by decide +kernel
theorem dX9_inLeastTerms_18 : decode cX9_inLeastTerms 18 = .ok (.ifCond .eq 7, 3) := by decide +kernel
theorem dX9_inLeastTerms_21 : decode cX9_inLeastTerms 21 = .ok (.lload_n 2, 1) := by decide +kernel
theorem dX9_inLeastTerms_22 : decode cX9_inLeastTerms 22 = .ok (.goto 4, 3) := by decide +kernel
theorem dX9_inLeastTerms_25 : decode cX9_inLeastTerms 25 = .ok (.lload_n 0, 1) := by decide +kernel
theorem dX9_inLeastTerms_26 : decode cX9_inLeastTerms 26 = .ok (.lload 5, 2) := by decide +kernel
theorem dX9_inLeastTerms_28 : decode cX9_inLeastTerms 28 = .ok (.ldiv, 1) := by decide +kernel
theorem dX9_inLeastTerms_29 : decode cX9_inLeastTerms 29 = .ok (.lreturn, 1) := by decide +kernel
theorem dX9_commonDivisor_0 : decode cX9_commonDivisor 0 = .ok (.lload_n 0, 1) := by decide +kernel
theorem dX9_commonDivisor_1 : decode cX9_commonDivisor 1 = .ok (.lstore 4, 2) := by decide +kernel
theorem dX9_commonDivisor_3 : decode cX9_commonDivisor 3 = .ok (.lload_n 2, 1) := by decide +kernel
theorem dX9_commonDivisor_4 : decode cX9_commonDivisor 4 = .ok (.lstore 6, 2) := by decide +kernel
theorem dX9_commonDivisor_6 : decode cX9_commonDivisor 6 = .ok (.iconst 0, 1) := by decide +kernel
theorem dX9_commonDivisor_7 : decode cX9_commonDivisor 7 = .ok (.istore 8, 2) := by decide +kernel
theorem dX9_commonDivisor_9 : decode cX9_commonDivisor 9 = .ok (.iload 8, 2) := by decide +kernel
theorem dX9_commonDivisor_11 : decode cX9_commonDivisor 11 = .ok (.bipush 100, 2) := by decide +kernel
theorem dX9_commonDivisor_13 : decode cX9_commonDivisor 13 = .ok (.if_icmp .ge 31, 3) := by decide +kernel
theorem dX9_commonDivisor_16 : decode cX9_commonDivisor 16 = .ok (.lload 6, 2) := by decide +kernel
theorem dX9_commonDivisor_18 : decode cX9_commonDivisor 18 = .ok (.lconst 0, 1) := by decide +kernel
theorem dX9_commonDivisor_19 : decode cX9_commonDivisor 19 = .ok (.lcmp, 1) := by decide +kernel
theorem dX9_commonDivisor_20 : decode cX9_commonDivisor 20 = .ok (.ifCond .eq 24, 3) := by decide +kernel
theorem dX9_commonDivisor_23 : decode cX9_commonDivisor 23 = .ok (.lload 4, 2) := by decide +kernel
theorem dX9_commonDivisor_25 : decode cX9_commonDivisor 25 = .ok (.lload 6, 2) := by decide +kernel
theorem dX9_commonDivisor_27 : decode cX9_commonDivisor 27 = .ok (.lrem, 1) := by decide +kernel
theorem dX9_commonDivisor_28 : decode cX9_commonDivisor 28 = .ok (.lstore 9, 2) := by decide +kernel
theorem dX9_commonDivisor_30 : decode cX9_commonDivisor 30 = .ok (.lload 6, 2) := by decide +kernel
theorem dX9_commonDivisor_32 : decode cX9_commonDivisor 32 = .ok (.lstore 4, 2) := by decide +kernel
theorem dX9_commonDivisor_34 : decode cX9_commonDivisor 34 = .ok (.lload 9, 2) := by decide +kernel
theorem dX9_commonDivisor_36 : decode cX9_commonDivisor 36 = .ok (.lstore 6, 2) := by decide +kernel
theorem dX9_commonDivisor_38 : decode cX9_commonDivisor 38 = .ok (.iinc 8 1, 3) := by decide +kernel
theorem dX9_commonDivisor_41 : decode cX9_commonDivisor 41 = .ok (.goto (-32), 3) := by decide +kernel
theorem dX9_commonDivisor_44 : decode cX9_commonDivisor 44 = .ok (.lload 4, 2) := by decide +kernel
theorem dX9_commonDivisor_46 : decode cX9_commonDivisor 46 = .ok (.lreturn, 1) := by decide +kernel
theorem dX10_init_0 : decode cX10_init 0 = .ok (.aload_n 0, 1) := by decide +kernel
theorem dX10_init_1 : decode cX10_init 1 = .ok (.invokespecial 1, 3) := by decide +kernel
theorem dX10_init_4 : decode cX10_init 4 = .ok (.aload_n 0, 1) := by decide +kernel
theorem dX10_init_5 : decode cX10_init 5 = .ok (.bipush 47, 2) := by decide +kernel
theorem dX10_init_7 : decode cX10_init 7 = .ok (.newarray .int, 2) := by decide +kernel
theorem dX10_init_9 : decode cX10_init 9 = .ok (.putfield 7, 3) := by decide +kernel
theorem dX10_init_12 : decode cX10_init 12 = .ok (.aload_n 0, 1) := by decide +kernel
theorem dX10_init_13 : decode cX10_init 13 = .ok (.bipush 47, 2) := by decide +kernel
theorem dX10_init_15 : decode cX10_init 15 = .ok (.newarray .int, 2) := by decide +kernel
theorem dX10_init_17 : decode cX10_init 17 = .ok (.putfield 13, 3) := by decide +kernel
theorem dX10_init_20 : decode cX10_init 20 = .ok (.aload_n 0, 1) := by decide +kernel
theorem dX10_init_21 : decode cX10_init 21 = .ok (.sipush 300, 3) := by decide +kernel
theorem dX10_init_24 : decode cX10_init 24 = .ok (.newarray .int, 2) := by decide +kernel
theorem dX10_init_26 : decode cX10_init 26 = .ok (.putfield 16, 3) := by decide +kernel
theorem dX10_init_29 : decode cX10_init 29 = .ok (.aload_n 0, 1) := by decide +kernel
theorem dX10_init_30 : decode cX10_init 30 = .ok (.iconst 4, 1) := by decide +kernel
theorem dX10_init_31 : decode cX10_init 31 = .ok (.newarray .int, 2) := by decide +kernel
theorem dX10_init_33 : decode cX10_init 33 = .ok (.putfield 19, 3) := by decide +kernel
theorem dX10_init_36 : decode cX10_init 36 = .ok (.aload_n 0, 1) := by decide +kernel
theorem dX10_init_37 : decode cX10_init 37 = .ok (.bipush 16, 2) := by decide +kernel
theorem dX10_init_39 : decode cX10_init 39 = .ok (.newarray .long, 2) := by decide +kernel
theorem dX10_init_41 : decode cX10_init 41 = .ok (.putfield 22, 3) := by decide +kernel
theorem dX10_init_44 : decode cX10_init 44 = .ok (.aload_n 0, 1) := by decide +kernel
theorem dX10_init_45 : decode cX10_init 45 = .ok (.bipush 40, 2) := by decide +kernel
theorem dX10_init_47 : decode cX10_init 47 = .ok (.newarray .long, 2) := by decide +kernel
theorem dX10_init_49 : decode cX10_init 49 = .ok (.putfield 26, 3) := by decide +kernel
theorem dX10_init_52 : decode cX10_init 52 = .ok (.aload_n 0, 1) := by decide +kernel
theorem dX10_init_53 : decode cX10_init 53 = .ok (.bipush 10, 2) := by decide +kernel
theorem dX10_init_55 : decode cX10_init 55 = .ok (.newarray .long, 2) := by decide +kernel
theorem dX10_init_57 : decode cX10_init 57 = .ok (.putfield 29, 3) := by decide +kernel
theorem dX10_init_60 : decode cX10_init 60 = .ok (.aload_n 0, 1) := by decide +kernel
theorem dX10_init_61 : decode cX10_init 61 = .ok (.iconst 4, 1) := by decide +kernel
theorem dX10_init_62 : decode cX10_init 62 = .ok (.newarray .int, 2) := by decide +kernel
theorem dX10_init_64 : decode cX10_init 64 = .ok (.putfield 32, 3) := by decide +kernel
theorem dX10_init_67 : decode cX10_init 67 = .ok (.aload_n 0, 1) := by decide +kernel
theorem dX10_init_68 : decode cX10_init 68 = .ok (.iconst 4, 1) := by decide +kernel
theorem dX10_init_69 : decode cX10_init 69 = .ok (.newarray .long, 2) := by decide +kernel
theorem dX10_init_71 : decode cX10_init 71 = .ok (.putfield 35, 3) := by decide +kernel
theorem dX10_init_74 : decode cX10_init 74 = .ok (.aload_n 0, 1) := by decide +kernel
theorem dX10_init_75 : decode cX10_init 75 = .ok (.bipush 10, 2) := by decide +kernel
theorem dX10_init_77 : decode cX10_init 77 = .ok (.newarray .long, 2) := by decide +kernel
theorem dX10_init_79 : decode cX10_init 79 = .ok (.putfield 38, 3) := by decide +kernel
theorem dX10_init_82 : decode cX10_init 82 = .ok (.aload_n 0, 1) := by decide +kernel
theorem dX10_init_83 : decode cX10_init 83 = .ok (.bipush 10, 2) := by decide +kernel
theorem dX10_init_85 : decode cX10_init 85 = .ok (.newarray .long, 2) := by decide +kernel
theorem dX10_init_87 : decode cX10_init 87 = .ok (.putfield 41, 3) := by decide +kernel
theorem dX10_init_90 : decode cX10_init 90 = .ok (.aload_n 0, 1) := by decide +kernel
theorem dX10_init_91 : decode cX10_init 91 = .ok (.bipush 40, 2) := by decide +kernel
theorem dX10_init_93 : decode cX10_init 93 = .ok (.newarray .long, 2) := by decide +kernel
theorem dX10_init_95 : decode cX10_init 95 = .ok (.putfield 44, 3) := by decide +kernel
theorem dX10_init_98 : decode cX10_init 98 = .ok (.aload_n 0, 1) := by decide +kernel
theorem dX10_init_99 : decode cX10_init 99 = .ok (.bipush 10, 2) := by decide +kernel
theorem dX10_init_101 : decode cX10_init 101 = .ok (.newarray .long, 2) := by decide +kernel
theorem dX10_init_103 : decode cX10_init 103 = .ok (.putfield 47, 3) := by decide +kernel
theorem dX10_init_106 : decode cX10_init 106 = .ok (.aload_n 0, 1) := by decide +kernel
theorem dX10_init_107 : decode cX10_init 107 = .ok (.iconst 4, 1) := by decide +kernel
theorem dX10_init_108 : decode cX10_init 108 = .ok (.newarray .long, 2) := by decide +kernel
theorem dX10_init_110 : decode cX10_init 110 = .ok (.putfield 50, 3) := by decide +kernel
theorem dX10_init_113 : decode cX10_init 113 = .ok (.aload_n 0, 1) := by decide +kernel
theorem dX10_init_114 : decode cX10_init 114 = .ok (.iconst 4, 1) := by decide +kernel
theorem dX10_init_115 : decode cX10_init 115 = .ok (.newarray .int, 2) := by decide +kernel
theorem dX10_init_117 : decode cX10_init 117 = .ok (.putfield 53, 3) := by decide +kernel
theorem dX10_init_120 : decode cX10_init 120 = .ok (.aload_n 0, 1) := by decide +kernel
theorem dX10_init_121 : decode cX10_init 121 = .ok (.iconst 5, 1) := by decide +kernel
theorem dX10_init_122 : decode cX10_init 122 = .ok (.newarray .int, 2) := by decide +kernel
theorem dX10_init_124 : decode cX10_init 124 = .ok (.putfield 56, 3) := by decide +kernel
theorem dX10_init_127 : decode cX10_init 127 = .ok (.aload_n 0, 1) := by decide +kernel
theorem dX10_init_128 : decode cX10_init 128 = .ok (.iconst 5, 1) := by decide +kernel
theorem dX10_init_129 : decode cX10_init 129 = .ok (.newarray .int, 2) := by decide +kernel
theorem dX10_init_131 : decode cX10_init 131 = .ok (.putfield 59, 3) := by decide +kernel
theorem dX10_init_134 : decode cX10_init 134 = .ok (.aload_n 0, 1) := by decide +kernel
theorem dX10_init_135 : decode cX10_init 135 = .ok (.iconst 5, 1) := by decide +kernel
theorem dX10_init_136 : decode cX10_init 136 = .ok (.newarray .long, 2) := by decide +kernel
theorem dX10_init_138 : decode cX10_init 138 = .ok (.putfield 62, 3) := by decide +kernel
theorem dX10_init_141 : decode cX10_init 141 = .ok (.aload_n 0, 1) := by decide +kernel
theorem dX10_init_142 : decode cX10_init 142 = .ok (.getfield 7, 3) := by decide +kernel
theorem dX10_init_145 : decode cX10_init 145 = .ok (.iconst 0, 1) := by decide +kernel
theorem dX10_init_146 : decode cX10_init 146 = .ok (.iconst 1, 1) := by decide +kernel
theorem dX10_init_147 : decode cX10_init 147 = .ok (.iastore, 1) := by decide +kernel
theorem dX10_init_148 : decode cX10_init 148 = .ok (.return_, 1) := by decide +kernel
theorem dX10_thrown_0 : decode cX10_thrown 0 = .ok (.aload_n 0, 1) := by decide +kernel
theorem dX10_thrown_1 : decode cX10_thrown 1 = .ok (.getfield 65, 3) := by decide +kernel
theorem dX10_thrown_4 : decode cX10_thrown 4 = .ok (.ireturn, 1) := by decide +kernel
theorem dX10_in_0 : decode cX10_in 0 = .ok (.iload_n 0, 1) := by decide +kernel
theorem dX10_in_1 : decode cX10_in 1 = .ok (.iload_n 1, 1) := by decide +kernel
theorem dX10_in_2 : decode cX10_in 2 = .ok (.if_icmp .lt 12, 3) := by decide +kernel
theorem dX10_in_5 : decode cX10_in 5 = .ok (.iload_n 0, 1) := by decide +kernel
theorem dX10_in_6 : decode cX10_in 6 = .ok (.iload_n 2, 1) := by decide +kernel
theorem dX10_in_7 : decode cX10_in 7 = .ok (.if_icmp .gt 7, 3) := by decide +kernel
theorem dX10_in_10 : decode cX10_in 10 = .ok (.iconst 1, 1) := by decide +kernel
theorem dX10_in_11 : decode cX10_in 11 = .ok (.goto 4, 3) := by decide +kernel
theorem dX10_in_14 : decode cX10_in 14 = .ok (.iconst 0, 1) := by decide +kernel
theorem dX10_in_15 : decode cX10_in 15 = .ok (.ireturn, 1) := by decide +kernel
theorem dX10_drafts_0 : decode cX10_drafts 0 = .ok (.iconst 0, 1) := by decide +kernel
theorem dX10_drafts_1 : decode cX10_drafts 1 = .ok (.istore_n 1, 1) := by decide +kernel
theorem dX10_drafts_2 : decode cX10_drafts 2 = .ok (.iload_n 1, 1) := by decide +kernel
theorem dX10_drafts_3 : decode cX10_drafts 3 = .ok (.bipush 47, 2) := by decide +kernel
theorem dX10_drafts_5 : decode cX10_drafts 5 = .ok (.if_icmp .ge 21, 3) := by decide +kernel
theorem dX10_drafts_8 : decode cX10_drafts 8 = .ok (.aload_n 0, 1) := by decide +kernel
theorem dX10_drafts_9 : decode cX10_drafts 9 = .ok (.getfield 13, 3) := by decide +kernel
theorem dX10_drafts_12 : decode cX10_drafts 12 = .ok (.iload_n 1, 1) := by decide +kernel
theorem dX10_drafts_13 : decode cX10_drafts 13 = .ok (.aload_n 0, 1) := by decide +kernel
theorem dX10_drafts_14 : decode cX10_drafts 14 = .ok (.getfield 7, 3) := by decide +kernel
theorem dX10_drafts_17 : decode cX10_drafts 17 = .ok (.iload_n 1, 1) := by decide +kernel
theorem dX10_drafts_18 : decode cX10_drafts 18 = .ok (.iaload, 1) := by decide +kernel
theorem dX10_drafts_19 : decode cX10_drafts 19 = .ok (.iastore, 1) := by decide +kernel
theorem dX10_drafts_20 : decode cX10_drafts 20 = .ok (.iinc 1 1, 3) := by decide +kernel
theorem dX10_drafts_23 : decode cX10_drafts 23 = .ok (.goto (-21), 3) := by decide +kernel
theorem dX10_drafts_26 : decode cX10_drafts 26 = .ok (.return_, 1) := by decide +kernel
theorem dX10_takes_0 : decode cX10_takes 0 = .ok (.iconst 0, 1) := by decide +kernel
theorem dX10_takes_1 : decode cX10_takes 1 = .ok (.istore_n 2, 1) := by decide +kernel
theorem dX10_takes_2 : decode cX10_takes 2 = .ok (.iload_n 2, 1) := by decide +kernel
theorem dX10_takes_3 : decode cX10_takes 3 = .ok (.bipush 47, 2) := by decide +kernel
theorem dX10_takes_5 : decode cX10_takes 5 = .ok (.if_icmp .ge 25, 3) := by decide +kernel
theorem dX10_takes_8 : decode cX10_takes 8 = .ok (.iload_n 1, 1) := by decide +kernel
theorem dX10_takes_9 : decode cX10_takes 9 = .ok (.ifCond .eq 21, 3) := by decide +kernel
theorem dX10_takes_12 : decode cX10_takes 12 = .ok (.aload_n 0, 1) := by decide +kernel
theorem dX10_takes_13 : decode cX10_takes 13 = .ok (.getfield 7, 3) := by decide +kernel
theorem dX10_takes_16 : decode cX10_takes 16 = .ok (.iload_n 2, 1) := by decide +kernel
theorem dX10_takes_17 : decode cX10_takes 17 = .ok (.aload_n 0, 1) := by decide +kernel
theorem dX10_takes_18 : decode cX10_takes 18 = .ok (.getfield 13, 3) := by decide +kernel
theorem dX10_takes_21 : decode cX10_takes 21 = .ok (.iload_n 2, 1) := by decide +kernel
theorem dX10_takes_22 : decode cX10_takes 22 = .ok (.iaload, 1) := by decide +kernel
theorem dX10_takes_23 : decode cX10_takes 23 = .ok (.iastore, 1) := by decide +kernel
theorem dX10_takes_24 : decode cX10_takes 24 = .ok (.iinc 2 1, 3) := by decide +kernel
theorem dX10_takes_27 : decode cX10_takes 27 = .ok (.goto (-25), 3) := by decide +kernel
theorem dX10_takes_30 : decode cX10_takes 30 = .ok (.iload_n 1, 1) := by decide +kernel
theorem dX10_takes_31 : decode cX10_takes 31 = .ok (.ireturn, 1) := by decide +kernel
theorem dX10_lays_0 : decode cX10_lays 0 = .ok (.iload_n 3, 1) := by decide +kernel
theorem dX10_lays_1 : decode cX10_lays 1 = .ok (.ifCond .eq 10, 3) := by decide +kernel
theorem dX10_lays_4 : decode cX10_lays 4 = .ok (.aload_n 0, 1) := by decide +kernel
theorem dX10_lays_5 : decode cX10_lays 5 = .ok (.getfield 13, 3) := by decide +kernel
theorem dX10_lays_8 : decode cX10_lays 8 = .ok (.iload_n 1, 1) := by decide +kernel
theorem dX10_lays_9 : decode cX10_lays 9 = .ok (.iload_n 2, 1) := by decide +kernel
theorem dX10_lays_10 : decode cX10_lays 10 = .ok (.iastore, 1) := by decide +kernel
theorem dX10_lays_11 : decode cX10_lays 11 = .ok (.iload_n 3, 1) := by decide +kernel
theorem dX10_lays_12 : decode cX10_lays 12 = .ok (.ireturn, 1) := by decide +kernel
theorem dX10_laysDates_0 : decode cX10_laysDates 0 = .ok (.iconst 0, 1) := by decide +kernel
theorem dX10_laysDates_1 : decode cX10_laysDates 1 = .ok (.istore_n 2, 1) := by decide +kernel
theorem dX10_laysDates_2 : decode cX10_laysDates 2 = .ok (.iload_n 2, 1) := by decide +kernel
theorem dX10_laysDates_3 : decode cX10_laysDates 3 = .ok (.bipush 47, 2) := by decide +kernel
theorem dX10_laysDates_5 : decode cX10_laysDates 5 = .ok (.if_icmp .ge 16, 3) := by decide +kernel
theorem dX10_laysDates_8 : decode cX10_laysDates 8 = .ok (.aload_n 0, 1) := by decide +kernel
theorem dX10_laysDates_9 : decode cX10_laysDates 9 = .ok (.getfield 13, 3) := by decide +kernel
theorem dX10_laysDates_12 : decode cX10_laysDates 12 = .ok (.iload_n 2, 1) := by decide +kernel
theorem dX10_laysDates_13 : decode cX10_laysDates 13 = .ok (.iconst 0, 1) := by decide +kernel
theorem dX10_laysDates_14 : decode cX10_laysDates 14 = .ok (.iastore, 1) := by decide +kernel
theorem dX10_laysDates_15 : decode cX10_laysDates 15 = .ok (.iinc 2 1, 3) := by decide +kernel
theorem dX10_laysDates_18 : decode cX10_laysDates 18 = .ok (.goto (-16), 3) := by decide +kernel
theorem dX10_laysDates_21 : decode cX10_laysDates 21 = .ok (.aload_n 0, 1) := by decide +kernel
theorem dX10_laysDates_22 : decode cX10_laysDates 22 = .ok (.getfield 13, 3) := by decide +kernel
theorem dX10_laysDates_25 : decode cX10_laysDates 25 = .ok (.iconst 0, 1) := by decide +kernel
theorem dX10_laysDates_26 : decode cX10_laysDates 26 = .ok (.iload_n 1, 1) := by decide +kernel
theorem dX10_laysDates_27 : decode cX10_laysDates 27 = .ok (.iastore, 1) := by decide +kernel
theorem dX10_laysDates_28 : decode cX10_laysDates 28 = .ok (.return_, 1) := by decide +kernel
theorem dX10_isDate_0 : decode cX10_isDate 0 = .ok (.iload_n 1, 1) := by decide +kernel
theorem dX10_isDate_1 : decode cX10_isDate 1 = .ok (.iconst 1, 1) := by decide +kernel
theorem dX10_isDate_2 : decode cX10_isDate 2 = .ok (.aload_n 0, 1) := by decide +kernel
theorem dX10_isDate_3 : decode cX10_isDate 3 = .ok (.getfield 13, 3) := by decide +kernel
theorem dX10_isDate_6 : decode cX10_isDate 6 = .ok (.iconst 0, 1) := by decide +kernel
theorem dX10_isDate_7 : decode cX10_isDate 7 = .ok (.iaload, 1) := by decide +kernel
theorem dX10_isDate_8 : decode cX10_isDate 8 = .ok (.invokestatic 69, 3) := by decide +kernel
theorem dX10_isDate_11 : decode cX10_isDate 11 = .ok (.ireturn, 1) := by decide +kernel
theorem dX10_isBond_0 : decode cX10_isBond 0 = .ok (.iload_n 1, 1) := by decide +kernel
theorem dX10_isBond_1 : decode cX10_isBond 1 = .ok (.iconst 0, 1) := by decide +kernel
theorem dX10_isBond_2 : decode cX10_isBond 2 = .ok (.aload_n 0, 1) := by decide +kernel
theorem dX10_isBond_3 : decode cX10_isBond 3 = .ok (.getfield 13, 3) := by decide +kernel
theorem dX10_isBond_6 : decode cX10_isBond 6 = .ok (.iconst 1, 1) := by decide +kernel
theorem dX10_isBond_7 : decode cX10_isBond 7 = .ok (.iaload, 1) := by decide +kernel
theorem dX10_isBond_8 : decode cX10_isBond 8 = .ok (.iconst 1, 1) := by decide +kernel
theorem dX10_isBond_9 : decode cX10_isBond 9 = .ok (.isub, 1) := by decide +kernel
theorem dX10_isBond_10 : decode cX10_isBond 10 = .ok (.invokestatic 69, 3) := by decide +kernel
theorem dX10_isBond_13 : decode cX10_isBond 13 = .ok (.ireturn, 1) := by decide +kernel
theorem dX10_laysBond_0 : decode cX10_laysBond 0 = .ok (.aload_n 0, 1) := by decide +kernel
theorem dX10_laysBond_1 : decode cX10_laysBond 1 = .ok (.getfield 13, 3) := by decide +kernel
theorem dX10_laysBond_4 : decode cX10_laysBond 4 = .ok (.iconst 1, 1) := by decide +kernel
theorem dX10_laysBond_5 : decode cX10_laysBond 5 = .ok (.iaload, 1) := by decide +kernel
theorem dX10_laysBond_6 : decode cX10_laysBond 6 = .ok (.istore 5, 2) := by decide +kernel
theorem dX10_laysBond_8 : decode cX10_laysBond 8 = .ok (.aload_n 0, 1) := by decide +kernel
theorem dX10_laysBond_9 : decode cX10_laysBond 9 = .ok (.getfield 13, 3) := by decide +kernel
theorem dX10_laysBond_12 : decode cX10_laysBond 12 = .ok (.bipush 12, 2) := by decide +kernel
theorem dX10_laysBond_14 : decode cX10_laysBond 14 = .ok (.iload 5, 2) := by decide +kernel
theorem dX10_laysBond_16 : decode cX10_laysBond 16 = .ok (.iadd, 1) := by decide +kernel
theorem dX10_laysBond_17 : decode cX10_laysBond 17 = .ok (.iload_n 1, 1) := by decide +kernel
theorem dX10_laysBond_18 : decode cX10_laysBond 18 = .ok (.iastore, 1) := by decide +kernel
theorem dX10_laysBond_19 : decode cX10_laysBond 19 = .ok (.aload_n 0, 1) := by decide +kernel
theorem dX10_laysBond_20 : decode cX10_laysBond 20 = .ok (.getfield 13, 3) := by decide +kernel
theorem dX10_laysBond_23 : decode cX10_laysBond 23 = .ok (.bipush 17, 2) := by decide +kernel
theorem dX10_laysBond_25 : decode cX10_laysBond 25 = .ok (.iload 5, 2) := by decide +kernel
theorem dX10_laysBond_27 : decode cX10_laysBond 27 = .ok (.iadd, 1) := by decide +kernel
theorem dX10_laysBond_28 : decode cX10_laysBond 28 = .ok (.iload_n 2, 1) := by decide +kernel
theorem dX10_laysBond_29 : decode cX10_laysBond 29 = .ok (.iastore, 1) := by decide +kernel
theorem dX10_laysBond_30 : decode cX10_laysBond 30 = .ok (.aload_n 0, 1) := by decide +kernel
theorem dX10_laysBond_31 : decode cX10_laysBond 31 = .ok (.getfield 13, 3) := by decide +kernel
theorem dX10_laysBond_34 : decode cX10_laysBond 34 = .ok (.bipush 22, 2) := by decide +kernel
theorem dX10_laysBond_36 : decode cX10_laysBond 36 = .ok (.iload 5, 2) := by decide +kernel
theorem dX10_laysBond_38 : decode cX10_laysBond 38 = .ok (.iadd, 1) := by decide +kernel
theorem dX10_laysBond_39 : decode cX10_laysBond 39 = .ok (.iload_n 3, 1) := by decide +kernel
theorem dX10_laysBond_40 : decode cX10_laysBond 40 = .ok (.iastore, 1) := by decide +kernel
theorem dX10_laysBond_41 : decode cX10_laysBond 41 = .ok (.aload_n 0, 1) := by decide +kernel
theorem dX10_laysBond_42 : decode cX10_laysBond 42 = .ok (.getfield 13, 3) := by decide +kernel
theorem dX10_laysBond_45 : decode cX10_laysBond 45 = .ok (.bipush 27, 2) := by decide +kernel
theorem dX10_laysBond_47 : decode cX10_laysBond 47 = .ok (.iload 5, 2) := by decide +kernel
theorem dX10_laysBond_49 : decode cX10_laysBond 49 = .ok (.iadd, 1) := by decide +kernel
theorem dX10_laysBond_50 : decode cX10_laysBond 50 = .ok (.iload 4, 2) := by decide +kernel
theorem dX10_laysBond_52 : decode cX10_laysBond 52 = .ok (.iastore, 1) := by decide +kernel
theorem dX10_laysBond_53 : decode cX10_laysBond 53 = .ok (.aload_n 0, 1) := by decide +kernel
theorem dX10_laysBond_54 : decode cX10_laysBond 54 = .ok (.getfield 13, 3) := by decide +kernel
theorem dX10_laysBond_57 : decode cX10_laysBond 57 = .ok (.bipush 32, 2) := by decide +kernel
theorem dX10_laysBond_59 : decode cX10_laysBond 59 = .ok (.iload 5, 2) := by decide +kernel
theorem dX10_laysBond_61 : decode cX10_laysBond 61 = .ok (.iadd, 1) := by decide +kernel
theorem dX10_laysBond_62 : decode cX10_laysBond 62 = .ok (.bipush 10, 2) := by decide +kernel
theorem dX10_laysBond_64 : decode cX10_laysBond 64 = .ok (.iastore, 1) := by decide +kernel
theorem dX10_laysBond_65 : decode cX10_laysBond 65 = .ok (.aload_n 0, 1) := by decide +kernel
theorem dX10_laysBond_66 : decode cX10_laysBond 66 = .ok (.getfield 13, 3) := by decide +kernel
theorem dX10_laysBond_69 : decode cX10_laysBond 69 = .ok (.bipush 37, 2) := by decide +kernel
theorem dX10_laysBond_71 : decode cX10_laysBond 71 = .ok (.iload 5, 2) := by decide +kernel
theorem dX10_laysBond_73 : decode cX10_laysBond 73 = .ok (.iadd, 1) := by decide +kernel
theorem dX10_laysBond_74 : decode cX10_laysBond 74 = .ok (.iconst 0, 1) := by decide +kernel
theorem dX10_laysBond_75 : decode cX10_laysBond 75 = .ok (.iastore, 1) := by decide +kernel
theorem dX10_laysBond_76 : decode cX10_laysBond 76 = .ok (.aload_n 0, 1) := by decide +kernel
theorem dX10_laysBond_77 : decode cX10_laysBond 77 = .ok (.getfield 13, 3) := by decide +kernel
theorem dX10_laysBond_80 : decode cX10_laysBond 80 = .ok (.bipush 42, 2) := by decide +kernel
theorem dX10_laysBond_82 : decode cX10_laysBond 82 = .ok (.iload 5, 2) := by decide +kernel
theorem dX10_laysBond_84 : decode cX10_laysBond 84 = .ok (.iadd, 1) := by decide +kernel
theorem dX10_laysBond_85 : decode cX10_laysBond 85 = .ok (.iconst 0, 1) := by decide +kernel
theorem dX10_laysBond_86 : decode cX10_laysBond 86 = .ok (.iastore, 1) := by decide +kernel
theorem dX10_laysBond_87 : decode cX10_laysBond 87 = .ok (.aload_n 0, 1) := by decide +kernel
theorem dX10_laysBond_88 : decode cX10_laysBond 88 = .ok (.getfield 13, 3) := by decide +kernel
theorem dX10_laysBond_91 : decode cX10_laysBond 91 = .ok (.iconst 1, 1) := by decide +kernel
theorem dX10_laysBond_92 : decode cX10_laysBond 92 = .ok (.dup2, 1) := by decide +kernel
theorem dX10_laysBond_93 : decode cX10_laysBond 93 = .ok (.iaload, 1) := by decide +kernel
theorem dX10_laysBond_94 : decode cX10_laysBond 94 = .ok (.iconst 1, 1) := by decide +kernel
theorem dX10_laysBond_95 : decode cX10_laysBond 95 = .ok (.iadd, 1) := by decide +kernel
theorem dX10_laysBond_96 : decode cX10_laysBond 96 = .ok (.iastore, 1) := by decide +kernel
theorem dX10_laysBond_97 : decode cX10_laysBond 97 = .ok (.return_, 1) := by decide +kernel
theorem dX10_dates_0 : decode cX10_dates 0 = .ok (.aload_n 0, 1) := by decide +kernel
theorem dX10_dates_1 : decode cX10_dates 1 = .ok (.iconst 0, 1) := by decide +kernel
theorem dX10_dates_2 : decode cX10_dates 2 = .ok (.putfield 65, 3) := by decide +kernel
theorem dX10_dates_5 : decode cX10_dates 5 = .ok (.iload_n 1, 1) := by decide +kernel
theorem dX10_dates_6 : decode cX10_dates 6 = .ok (.iconst 1, 1) := by decide +kernel
theorem dX10_dates_7 : decode cX10_dates 7 = .ok (.iconst 4, 1) := by decide +kernel
theorem dX10_dates_8 : decode cX10_dates 8 = .ok (.invokestatic 69, 3) := by decide +kernel
theorem dX10_dates_11 : decode cX10_dates 11 = .ok (.ifCond .ne 5, 3) := by decide +kernel
theorem dX10_dates_14 : decode cX10_dates 14 = .ok (.iconst 0, 1) := by decide +kernel
theorem dX10_dates_15 : decode cX10_dates 15 = .ok (.ireturn, 1) := by decide +kernel
theorem dX10_dates_16 : decode cX10_dates 16 = .ok (.aload_n 0, 1) := by decide +kernel
theorem dX10_dates_17 : decode cX10_dates 17 = .ok (.iload_n 1, 1) := by decide +kernel
theorem dX10_dates_18 : decode cX10_dates 18 = .ok (.invokevirtual 73, 3) := by decide +kernel
theorem dX10_dates_21 : decode cX10_dates 21 = .ok (.aload_n 0, 1) := by decide +kernel
theorem dX10_dates_22 : decode cX10_dates 22 = .ok (.iconst 1, 1) := by decide +kernel
theorem dX10_dates_23 : decode cX10_dates 23 = .ok (.invokevirtual 77, 3) := by decide +kernel
theorem dX10_dates_26 : decode cX10_dates 26 = .ok (.ireturn, 1) := by decide +kernel
theorem dX10_pay_0 : decode cX10_pay 0 = .ok (.aload_n 0, 1) := by decide +kernel
theorem dX10_pay_1 : decode cX10_pay 1 = .ok (.iconst 0, 1) := by decide +kernel
theorem dX10_pay_2 : decode cX10_pay 2 = .ok (.putfield 65, 3) := by decide +kernel
theorem dX10_pay_5 : decode cX10_pay 5 = .ok (.aload_n 0, 1) := by decide +kernel
theorem dX10_pay_6 : decode cX10_pay 6 = .ok (.invokevirtual 81, 3) := by decide +kernel
theorem dX10_pay_9 : decode cX10_pay 9 = .ok (.aload_n 0, 1) := by decide +kernel
theorem dX10_pay_10 : decode cX10_pay 10 = .ok (.aload_n 0, 1) := by decide +kernel
theorem dX10_pay_11 : decode cX10_pay 11 = .ok (.iconst 2, 1) := by decide +kernel
theorem dX10_pay_12 : decode cX10_pay 12 = .ok (.iload_n 1, 1) := by decide +kernel
theorem dX10_pay_13 : decode cX10_pay 13 = .ok (.iadd, 1) := by decide +kernel
theorem dX10_pay_14 : decode cX10_pay 14 = .ok (.iload_n 2, 1) := by decide +kernel
theorem dX10_pay_15 : decode cX10_pay 15 = .ok (.aload_n 0, 1) := by decide +kernel
theorem dX10_pay_16 : decode cX10_pay 16 = .ok (.iload_n 1, 1) := by decide +kernel
theorem dX10_pay_17 : decode cX10_pay 17 = .ok (.invokevirtual 84, 3) := by decide +kernel
theorem dX10_pay_20 : decode cX10_pay 20 = .ok (.ifCond .eq 18, 3) := by decide +kernel
theorem dX10_pay_23 : decode cX10_pay 23 = .ok (.iload_n 2, 1) := by decide +kernel
theorem dX10_pay_24 : decode cX10_pay 24 = .ok (.iconst 0, 1) := by decide +kernel
theorem dX10_pay_25 : decode cX10_pay 25 = .ok (.sipush 200, 3) := by decide +kernel
theorem dX10_pay_28 : decode cX10_pay 28 = .ok (.invokestatic 69, 3) := by decide +kernel
theorem dX10_pay_31 : decode cX10_pay 31 = .ok (.ifCond .eq 7, 3) := by decide +kernel
theorem dX10_pay_34 : decode cX10_pay 34 = .ok (.iconst 1, 1) := by decide +kernel
theorem dX10_pay_35 : decode cX10_pay 35 = .ok (.goto 4, 3) := by decide +kernel
theorem dX10_pay_38 : decode cX10_pay 38 = .ok (.iconst 0, 1) := by decide +kernel
theorem dX10_pay_39 : decode cX10_pay 39 = .ok (.invokevirtual 88, 3) := by decide +kernel
theorem dX10_pay_42 : decode cX10_pay 42 = .ok (.invokevirtual 77, 3) := by decide +kernel
theorem dX10_pay_45 : decode cX10_pay 45 = .ok (.ireturn, 1) := by decide +kernel
theorem dX10_rate_0 : decode cX10_rate 0 = .ok (.aload_n 0, 1) := by decide +kernel
theorem dX10_rate_1 : decode cX10_rate 1 = .ok (.iconst 0, 1) := by decide +kernel
theorem dX10_rate_2 : decode cX10_rate 2 = .ok (.putfield 65, 3) := by decide +kernel
theorem dX10_rate_5 : decode cX10_rate 5 = .ok (.aload_n 0, 1) := by decide +kernel
theorem dX10_rate_6 : decode cX10_rate 6 = .ok (.invokevirtual 81, 3) := by decide +kernel
theorem dX10_rate_9 : decode cX10_rate 9 = .ok (.aload_n 0, 1) := by decide +kernel
theorem dX10_rate_10 : decode cX10_rate 10 = .ok (.aload_n 0, 1) := by decide +kernel
theorem dX10_rate_11 : decode cX10_rate 11 = .ok (.bipush 7, 2) := by decide +kernel
theorem dX10_rate_13 : decode cX10_rate 13 = .ok (.iload_n 1, 1) := by decide +kernel
theorem dX10_rate_14 : decode cX10_rate 14 = .ok (.iadd, 1) := by decide +kernel
theorem dX10_rate_15 : decode cX10_rate 15 = .ok (.iload_n 2, 1) := by decide +kernel
theorem dX10_rate_16 : decode cX10_rate 16 = .ok (.aload_n 0, 1) := by decide +kernel
theorem dX10_rate_17 : decode cX10_rate 17 = .ok (.iload_n 1, 1) := by decide +kernel
theorem dX10_rate_18 : decode cX10_rate 18 = .ok (.invokevirtual 84, 3) := by decide +kernel
theorem dX10_rate_21 : decode cX10_rate 21 = .ok (.ifCond .eq 17, 3) := by decide +kernel
theorem dX10_rate_24 : decode cX10_rate 24 = .ok (.iload_n 2, 1) := by decide +kernel
theorem dX10_rate_25 : decode cX10_rate 25 = .ok (.iconst 0, 1) := by decide +kernel
theorem dX10_rate_26 : decode cX10_rate 26 = .ok (.bipush 6, 2) := by decide +kernel
theorem dX10_rate_28 : decode cX10_rate 28 = .ok (.invokestatic 69, 3) := by decide +kernel
theorem dX10_rate_31 : decode cX10_rate 31 = .ok (.ifCond .eq 7, 3) := by decide +kernel
theorem dX10_rate_34 : decode cX10_rate 34 = .ok (.iconst 1, 1) := by decide +kernel
theorem dX10_rate_35 : decode cX10_rate 35 = .ok (.goto 4, 3) := by decide +kernel
theorem dX10_rate_38 : decode cX10_rate 38 = .ok (.iconst 0, 1) := by decide +kernel
theorem dX10_rate_39 : decode cX10_rate 39 = .ok (.invokevirtual 88, 3) := by decide +kernel
theorem dX10_rate_42 : decode cX10_rate 42 = .ok (.invokevirtual 77, 3) := by decide +kernel
theorem dX10_rate_45 : decode cX10_rate 45 = .ok (.ireturn, 1) := by decide +kernel
theorem dX10_bond_0 : decode cX10_bond 0 = .ok (.aload_n 0, 1) := by decide +kernel
theorem dX10_bond_1 : decode cX10_bond 1 = .ok (.iconst 0, 1) := by decide +kernel
theorem dX10_bond_2 : decode cX10_bond 2 = .ok (.putfield 65, 3) := by decide +kernel
theorem dX10_bond_5 : decode cX10_bond 5 = .ok (.aload_n 0, 1) := by decide +kernel
theorem dX10_bond_6 : decode cX10_bond 6 = .ok (.invokevirtual 81, 3) := by decide +kernel
theorem dX10_bond_9 : decode cX10_bond 9 = .ok (.iload_n 1, 1) := by decide +kernel
theorem dX10_bond_10 : decode cX10_bond 10 = .ok (.iconst 0, 1) := by decide +kernel
theorem dX10_bond_11 : decode cX10_bond 11 = .ok (.bipush 20, 2) := by decide +kernel
theorem dX10_bond_13 : decode cX10_bond 13 = .ok (.invokestatic 69, 3) := by decide +kernel
theorem dX10_bond_16 : decode cX10_bond 16 = .ok (.ifCond .eq 33, 3) := by decide +kernel
theorem dX10_bond_19 : decode cX10_bond 19 = .ok (.iload_n 2, 1) := by decide +kernel
theorem dX10_bond_20 : decode cX10_bond 20 = .ok (.iconst 1, 1) := by decide +kernel
theorem dX10_bond_21 : decode cX10_bond 21 = .ok (.bipush 40, 2) := by decide +kernel
theorem dX10_bond_23 : decode cX10_bond 23 = .ok (.invokestatic 69, 3) := by decide +kernel
theorem dX10_bond_26 : decode cX10_bond 26 = .ok (.ifCond .eq 23, 3) := by decide +kernel
theorem dX10_bond_29 : decode cX10_bond 29 = .ok (.aload_n 0, 1) := by decide +kernel
theorem dX10_bond_30 : decode cX10_bond 30 = .ok (.iload_n 3, 1) := by decide +kernel
theorem dX10_bond_31 : decode cX10_bond 31 = .ok (.invokevirtual 84, 3) := by decide +kernel
theorem dX10_bond_34 : decode cX10_bond 34 = .ok (.ifCond .eq 15, 3) := by decide +kernel
theorem dX10_bond_37 : decode cX10_bond 37 = .ok (.iload 4, 2) := by decide +kernel
theorem dX10_bond_39 : decode cX10_bond 39 = .ok (.iconst 1, 1) := by decide +kernel
theorem dX10_bond_40 : decode cX10_bond 40 = .ok (.sipush 200, 3) := by decide +kernel
theorem dX10_bond_43 : decode cX10_bond 43 = .ok (.invokestatic 69, 3) := by decide +kernel
theorem dX10_bond_46 : decode cX10_bond 46 = .ok (.ifCond .ne 5, 3) := by decide +kernel
theorem dX10_bond_49 : decode cX10_bond 49 = .ok (.iconst (-1), 1) := by decide +kernel
theorem dX10_bond_50 : decode cX10_bond 50 = .ok (.ireturn, 1) := by decide +kernel
theorem dX10_bond_51 : decode cX10_bond 51 = .ok (.aload_n 0, 1) := by decide +kernel
theorem dX10_bond_52 : decode cX10_bond 52 = .ok (.getfield 13, 3) := by decide +kernel
theorem dX10_bond_55 : decode cX10_bond 55 = .ok (.iconst 1, 1) := by decide +kernel
theorem dX10_bond_56 : decode cX10_bond 56 = .ok (.iaload, 1) := by decide +kernel
theorem dX10_bond_57 : decode cX10_bond 57 = .ok (.iconst 5, 1) := by decide +kernel
theorem dX10_bond_58 : decode cX10_bond 58 = .ok (.if_icmp .ne 6, 3) := by decide +kernel
theorem dX10_bond_61 : decode cX10_bond 61 = .ok (.bipush (-2), 2) := by decide +kernel
theorem dX10_bond_63 : decode cX10_bond 63 = .ok (.ireturn, 1) := by decide +kernel
theorem dX10_bond_64 : decode cX10_bond 64 = .ok (.aload_n 0, 1) := by decide +kernel
theorem dX10_bond_65 : decode cX10_bond 65 = .ok (.iload_n 1, 1) := by decide +kernel
theorem dX10_bond_66 : decode cX10_bond 66 = .ok (.iload_n 2, 1) := by decide +kernel
theorem dX10_bond_67 : decode cX10_bond 67 = .ok (.iload_n 3, 1) := by decide +kernel
theorem dX10_bond_68 : decode cX10_bond 68 = .ok (.iload 4, 2) := by decide +kernel
theorem dX10_bond_70 : decode cX10_bond 70 = .ok (.invokevirtual 92, 3) := by decide +kernel
theorem dX10_bond_73 : decode cX10_bond 73 = .ok (.aload_n 0, 1) := by decide +kernel
theorem dX10_bond_74 : decode cX10_bond 74 = .ok (.iconst 1, 1) := by decide +kernel
theorem dX10_bond_75 : decode cX10_bond 75 = .ok (.invokevirtual 77, 3) := by decide +kernel
theorem dX10_bond_78 : decode cX10_bond 78 = .ok (.pop, 1) := by decide +kernel
theorem dX10_bond_79 : decode cX10_bond 79 = .ok (.aload_n 0, 1) := by decide +kernel
theorem dX10_bond_80 : decode cX10_bond 80 = .ok (.getfield 7, 3) := by decide +kernel
theorem dX10_bond_83 : decode cX10_bond 83 = .ok (.iconst 1, 1) := by decide +kernel
theorem dX10_bond_84 : decode cX10_bond 84 = .ok (.iaload, 1) := by decide +kernel
theorem dX10_bond_85 : decode cX10_bond 85 = .ok (.iconst 1, 1) := by decide +kernel
theorem dX10_bond_86 : decode cX10_bond 86 = .ok (.isub, 1) := by decide +kernel
theorem dX10_bond_87 : decode cX10_bond 87 = .ok (.ireturn, 1) := by decide +kernel
theorem dX10_most_0 : decode cX10_most 0 = .ok (.aload_n 0, 1) := by decide +kernel
theorem dX10_most_1 : decode cX10_most 1 = .ok (.iconst 0, 1) := by decide +kernel
theorem dX10_most_2 : decode cX10_most 2 = .ok (.putfield 65, 3) := by decide +kernel
theorem dX10_most_5 : decode cX10_most 5 = .ok (.aload_n 0, 1) := by decide +kernel
theorem dX10_most_6 : decode cX10_most 6 = .ok (.invokevirtual 81, 3) := by decide +kernel
theorem dX10_most_9 : decode cX10_most 9 = .ok (.aload_n 0, 1) := by decide +kernel
theorem dX10_most_10 : decode cX10_most 10 = .ok (.aload_n 0, 1) := by decide +kernel
theorem dX10_most_11 : decode cX10_most 11 = .ok (.bipush 32, 2) := by decide +kernel
theorem dX10_most_13 : decode cX10_most 13 = .ok (.iload_n 1, 1) := by decide +kernel
theorem dX10_most_14 : decode cX10_most 14 = .ok (.iadd, 1) := by decide +kernel
theorem dX10_most_15 : decode cX10_most 15 = .ok (.iload_n 2, 1) := by decide +kernel
theorem dX10_most_16 : decode cX10_most 16 = .ok (.aload_n 0, 1) := by decide +kernel
theorem dX10_most_17 : decode cX10_most 17 = .ok (.iload_n 1, 1) := by decide +kernel
theorem dX10_most_18 : decode cX10_most 18 = .ok (.invokevirtual 96, 3) := by decide +kernel
theorem dX10_most_21 : decode cX10_most 21 = .ok (.ifCond .eq 17, 3) := by decide +kernel
theorem dX10_most_24 : decode cX10_most 24 = .ok (.iload_n 2, 1) := by decide +kernel
theorem dX10_most_25 : decode cX10_most 25 = .ok (.iconst 0, 1) := by decide +kernel
theorem dX10_most_26 : decode cX10_most 26 = .ok (.bipush 12, 2) := by decide +kernel
theorem dX10_most_28 : decode cX10_most 28 = .ok (.invokestatic 69, 3) := by decide +kernel
theorem dX10_most_31 : decode cX10_most 31 = .ok (.ifCond .eq 7, 3) := by decide +kernel
theorem dX10_most_34 : decode cX10_most 34 = .ok (.iconst 1, 1) := by decide +kernel
theorem dX10_most_35 : decode cX10_most 35 = .ok (.goto 4, 3) := by decide +kernel
theorem dX10_most_38 : decode cX10_most 38 = .ok (.iconst 0, 1) := by decide +kernel
theorem dX10_most_39 : decode cX10_most 39 = .ok (.invokevirtual 88, 3) := by decide +kernel
theorem dX10_most_42 : decode cX10_most 42 = .ok (.invokevirtual 77, 3) := by decide +kernel
theorem dX10_most_45 : decode cX10_most 45 = .ok (.ireturn, 1) := by decide +kernel
theorem dX10_call_0 : decode cX10_call 0 = .ok (.aload_n 0, 1) := by decide +kernel
theorem dX10_call_1 : decode cX10_call 1 = .ok (.iconst 0, 1) := by decide +kernel
theorem dX10_call_2 : decode cX10_call 2 = .ok (.putfield 65, 3) := by decide +kernel
theorem dX10_call_5 : decode cX10_call 5 = .ok (.aload_n 0, 1) := by decide +kernel
theorem dX10_call_6 : decode cX10_call 6 = .ok (.invokevirtual 81, 3) := by decide +kernel
theorem dX10_call_9 : decode cX10_call 9 = .ok (.aload_n 0, 1) := by decide +kernel
theorem dX10_call_10 : decode cX10_call 10 = .ok (.aload_n 0, 1) := by decide +kernel
theorem dX10_call_11 : decode cX10_call 11 = .ok (.bipush 37, 2) := by decide +kernel
theorem dX10_call_13 : decode cX10_call 13 = .ok (.iload_n 1, 1) := by decide +kernel
theorem dX10_call_14 : decode cX10_call 14 = .ok (.iadd, 1) := by decide +kernel
theorem dX10_call_15 : decode cX10_call 15 = .ok (.iload_n 2, 1) := by decide +kernel
theorem dX10_call_16 : decode cX10_call 16 = .ok (.aload_n 0, 1) := by decide +kernel
theorem dX10_call_17 : decode cX10_call 17 = .ok (.iload_n 1, 1) := by decide +kernel
theorem dX10_call_18 : decode cX10_call 18 = .ok (.invokevirtual 96, 3) := by decide +kernel
theorem dX10_call_21 : decode cX10_call 21 = .ok (.ifCond .eq 51, 3) := by decide +kernel
theorem dX10_call_24 : decode cX10_call 24 = .ok (.iload_n 2, 1) := by decide +kernel
theorem dX10_call_25 : decode cX10_call 25 = .ok (.iconst 0, 1) := by decide +kernel
theorem dX10_call_26 : decode cX10_call 26 = .ok (.aload_n 0, 1) := by decide +kernel
theorem dX10_call_27 : decode cX10_call 27 = .ok (.getfield 7, 3) := by decide +kernel
theorem dX10_call_30 : decode cX10_call 30 = .ok (.bipush 22, 2) := by decide +kernel
theorem dX10_call_32 : decode cX10_call 32 = .ok (.aload_n 0, 1) := by decide +kernel
theorem dX10_call_33 : decode cX10_call 33 = .ok (.iload_n 1, 1) := by decide +kernel
theorem dX10_call_34 : decode cX10_call 34 = .ok (.invokevirtual 96, 3) := by decide +kernel
theorem dX10_call_37 : decode cX10_call 37 = .ok (.ifCond .eq 7, 3) := by decide +kernel
theorem dX10_call_40 : decode cX10_call 40 = .ok (.iload_n 1, 1) := by decide +kernel
theorem dX10_call_41 : decode cX10_call 41 = .ok (.goto 4, 3) := by decide +kernel
theorem dX10_call_44 : decode cX10_call 44 = .ok (.iconst 0, 1) := by decide +kernel
theorem dX10_call_45 : decode cX10_call 45 = .ok (.iadd, 1) := by decide +kernel
theorem dX10_call_46 : decode cX10_call 46 = .ok (.iaload, 1) := by decide +kernel
theorem dX10_call_47 : decode cX10_call 47 = .ok (.iconst 1, 1) := by decide +kernel
theorem dX10_call_48 : decode cX10_call 48 = .ok (.isub, 1) := by decide +kernel
theorem dX10_call_49 : decode cX10_call 49 = .ok (.invokestatic 69, 3) := by decide +kernel
theorem dX10_call_52 : decode cX10_call 52 = .ok (.ifCond .eq 20, 3) := by decide +kernel
theorem dX10_call_55 : decode cX10_call 55 = .ok (.aload_n 0, 1) := by decide +kernel
theorem dX10_call_56 : decode cX10_call 56 = .ok (.getfield 7, 3) := by decide +kernel
theorem dX10_call_59 : decode cX10_call 59 = .ok (.bipush 37, 2) := by decide +kernel
theorem dX10_call_61 : decode cX10_call 61 = .ok (.iload_n 1, 1) := by decide +kernel
theorem dX10_call_62 : decode cX10_call 62 = .ok (.iadd, 1) := by decide +kernel
theorem dX10_call_63 : decode cX10_call 63 = .ok (.iaload, 1) := by decide +kernel
theorem dX10_call_64 : decode cX10_call 64 = .ok (.iload_n 2, 1) := by decide +kernel
theorem dX10_call_65 : decode cX10_call 65 = .ok (.if_icmp .eq 7, 3) := by decide +kernel
theorem dX10_call_68 : decode cX10_call 68 = .ok (.iconst 1, 1) := by decide +kernel
theorem dX10_call_69 : decode cX10_call 69 = .ok (.goto 4, 3) := by decide +kernel
theorem dX10_call_72 : decode cX10_call 72 = .ok (.iconst 0, 1) := by decide +kernel
theorem dX10_call_73 : decode cX10_call 73 = .ok (.invokevirtual 88, 3) := by decide +kernel
theorem dX10_call_76 : decode cX10_call 76 = .ok (.invokevirtual 77, 3) := by decide +kernel
theorem dX10_call_79 : decode cX10_call 79 = .ok (.ireturn, 1) := by decide +kernel
theorem dX10_hold_0 : decode cX10_hold 0 = .ok (.aload_n 0, 1) := by decide +kernel
theorem dX10_hold_1 : decode cX10_hold 1 = .ok (.iconst 0, 1) := by decide +kernel
theorem dX10_hold_2 : decode cX10_hold 2 = .ok (.putfield 65, 3) := by decide +kernel
theorem dX10_hold_5 : decode cX10_hold 5 = .ok (.aload_n 0, 1) := by decide +kernel
theorem dX10_hold_6 : decode cX10_hold 6 = .ok (.invokevirtual 81, 3) := by decide +kernel
theorem dX10_hold_9 : decode cX10_hold 9 = .ok (.aload_n 0, 1) := by decide +kernel
theorem dX10_hold_10 : decode cX10_hold 10 = .ok (.aload_n 0, 1) := by decide +kernel
theorem dX10_hold_11 : decode cX10_hold 11 = .ok (.bipush 42, 2) := by decide +kernel
theorem dX10_hold_13 : decode cX10_hold 13 = .ok (.iload_n 1, 1) := by decide +kernel
theorem dX10_hold_14 : decode cX10_hold 14 = .ok (.iadd, 1) := by decide +kernel
theorem dX10_hold_15 : decode cX10_hold 15 = .ok (.iload_n 2, 1) := by decide +kernel
theorem dX10_hold_16 : decode cX10_hold 16 = .ok (.aload_n 0, 1) := by decide +kernel
theorem dX10_hold_17 : decode cX10_hold 17 = .ok (.iload_n 1, 1) := by decide +kernel
theorem dX10_hold_18 : decode cX10_hold 18 = .ok (.invokevirtual 96, 3) := by decide +kernel
theorem dX10_hold_21 : decode cX10_hold 21 = .ok (.ifCond .eq 17, 3) := by decide +kernel
theorem dX10_hold_24 : decode cX10_hold 24 = .ok (.iload_n 2, 1) := by decide +kernel
theorem dX10_hold_25 : decode cX10_hold 25 = .ok (.iconst 0, 1) := by decide +kernel
theorem dX10_hold_26 : decode cX10_hold 26 = .ok (.bipush 99, 2) := by decide +kernel
theorem dX10_hold_28 : decode cX10_hold 28 = .ok (.invokestatic 69, 3) := by decide +kernel
theorem dX10_hold_31 : decode cX10_hold 31 = .ok (.ifCond .eq 7, 3) := by decide +kernel
theorem dX10_hold_34 : decode cX10_hold 34 = .ok (.iconst 1, 1) := by decide +kernel
theorem dX10_hold_35 : decode cX10_hold 35 = .ok (.goto 4, 3) := by decide +kernel
theorem dX10_hold_38 : decode cX10_hold 38 = .ok (.iconst 0, 1) := by decide +kernel
theorem dX10_hold_39 : decode cX10_hold 39 = .ok (.invokevirtual 88, 3) := by decide +kernel
theorem dX10_hold_42 : decode cX10_hold 42 = .ok (.invokevirtual 77, 3) := by decide +kernel
theorem dX10_hold_45 : decode cX10_hold 45 = .ok (.ireturn, 1) := by decide +kernel
theorem dX10_cash_0 : decode cX10_cash 0 = .ok (.aload_n 0, 1) := by decide +kernel
theorem dX10_cash_1 : decode cX10_cash 1 = .ok (.iconst 0, 1) := by decide +kernel
theorem dX10_cash_2 : decode cX10_cash 2 = .ok (.putfield 65, 3) := by decide +kernel
theorem dX10_cash_5 : decode cX10_cash 5 = .ok (.iload_n 1, 1) := by decide +kernel
theorem dX10_cash_6 : decode cX10_cash 6 = .ok (.iconst 0, 1) := by decide +kernel
theorem dX10_cash_7 : decode cX10_cash 7 = .ok (.sipush 9999, 3) := by decide +kernel
theorem dX10_cash_10 : decode cX10_cash 10 = .ok (.invokestatic 69, 3) := by decide +kernel
theorem dX10_cash_13 : decode cX10_cash 13 = .ok (.ifCond .ne 5, 3) := by decide +kernel
theorem dX10_cash_16 : decode cX10_cash 16 = .ok (.iconst 0, 1) := by decide +kernel
theorem dX10_cash_17 : decode cX10_cash 17 = .ok (.ireturn, 1) := by decide +kernel
theorem dX10_cash_18 : decode cX10_cash 18 = .ok (.aload_n 0, 1) := by decide +kernel
theorem dX10_cash_19 : decode cX10_cash 19 = .ok (.iload_n 1, 1) := by decide +kernel
theorem dX10_cash_20 : decode cX10_cash 20 = .ok (.putfield 99, 3) := by decide +kernel
theorem dX10_cash_23 : decode cX10_cash 23 = .ok (.iconst 1, 1) := by decide +kernel
theorem dX10_cash_24 : decode cX10_cash 24 = .ok (.ireturn, 1) := by decide +kernel
theorem dX10_drop_0 : decode cX10_drop 0 = .ok (.aload_n 0, 1) := by decide +kernel
theorem dX10_drop_1 : decode cX10_drop 1 = .ok (.iconst 0, 1) := by decide +kernel
theorem dX10_drop_2 : decode cX10_drop 2 = .ok (.putfield 65, 3) := by decide +kernel
theorem dX10_drop_5 : decode cX10_drop 5 = .ok (.aload_n 0, 1) := by decide +kernel
theorem dX10_drop_6 : decode cX10_drop 6 = .ok (.invokevirtual 81, 3) := by decide +kernel
theorem dX10_drop_9 : decode cX10_drop 9 = .ok (.aload_n 0, 1) := by decide +kernel
theorem dX10_drop_10 : decode cX10_drop 10 = .ok (.iload_n 1, 1) := by decide +kernel
theorem dX10_drop_11 : decode cX10_drop 11 = .ok (.invokevirtual 96, 3) := by decide +kernel
theorem dX10_drop_14 : decode cX10_drop 14 = .ok (.ifCond .ne 5, 3) := by decide +kernel
theorem dX10_drop_17 : decode cX10_drop 17 = .ok (.iconst (-1), 1) := by decide +kernel
theorem dX10_drop_18 : decode cX10_drop 18 = .ok (.ireturn, 1) := by decide +kernel
theorem dX10_drop_19 : decode cX10_drop 19 = .ok (.iload_n 1, 1) := by decide +kernel
theorem dX10_drop_20 : decode cX10_drop 20 = .ok (.istore_n 2, 1) := by decide +kernel
theorem dX10_drop_21 : decode cX10_drop 21 = .ok (.iload_n 2, 1) := by decide +kernel
theorem dX10_drop_22 : decode cX10_drop 22 = .ok (.iconst 1, 1) := by decide +kernel
theorem dX10_drop_23 : decode cX10_drop 23 = .ok (.iadd, 1) := by decide +kernel
theorem dX10_drop_24 : decode cX10_drop 24 = .ok (.aload_n 0, 1) := by decide +kernel
theorem dX10_drop_25 : decode cX10_drop 25 = .ok (.getfield 7, 3) := by decide +kernel
theorem dX10_drop_28 : decode cX10_drop 28 = .ok (.iconst 1, 1) := by decide +kernel
theorem dX10_drop_29 : decode cX10_drop 29 = .ok (.iaload, 1) := by decide +kernel
theorem dX10_drop_30 : decode cX10_drop 30 = .ok (.if_icmp .ge 42, 3) := by decide +kernel
theorem dX10_drop_33 : decode cX10_drop 33 = .ok (.bipush 12, 2) := by decide +kernel
theorem dX10_drop_35 : decode cX10_drop 35 = .ok (.istore_n 3, 1) := by decide +kernel
theorem dX10_drop_36 : decode cX10_drop 36 = .ok (.iload_n 3, 1) := by decide +kernel
theorem dX10_drop_37 : decode cX10_drop 37 = .ok (.bipush 42, 2) := by decide +kernel
theorem dX10_drop_39 : decode cX10_drop 39 = .ok (.if_icmp .gt 27, 3) := by decide +kernel
theorem dX10_drop_42 : decode cX10_drop 42 = .ok (.aload_n 0, 1) := by decide +kernel
theorem dX10_drop_43 : decode cX10_drop 43 = .ok (.getfield 7, 3) := by decide +kernel
theorem dX10_drop_46 : decode cX10_drop 46 = .ok (.iload_n 3, 1) := by decide +kernel
theorem dX10_drop_47 : decode cX10_drop 47 = .ok (.iload_n 2, 1) := by decide +kernel
theorem dX10_drop_48 : decode cX10_drop 48 = .ok (.iadd, 1) := by decide +kernel
theorem dX10_drop_49 : decode cX10_drop 49 = .ok (.aload_n 0, 1) := by decide +kernel
theorem dX10_drop_50 : decode cX10_drop 50 = .ok (.getfield 7, 3) := by decide +kernel
theorem dX10_drop_53 : decode cX10_drop 53 = .ok (.iload_n 3, 1) := by decide +kernel
theorem dX10_drop_54 : decode cX10_drop 54 = .ok (.iload_n 2, 1) := by decide +kernel
theorem dX10_drop_55 : decode cX10_drop 55 = .ok (.iadd, 1) := by decide +kernel
theorem dX10_drop_56 : decode cX10_drop 56 = .ok (.iconst 1, 1) := by decide +kernel
theorem dX10_drop_57 : decode cX10_drop 57 = .ok (.iadd, 1) := by decide +kernel
theorem dX10_drop_58 : decode cX10_drop 58 = .ok (.iaload, 1) := by decide +kernel
theorem dX10_drop_59 : decode cX10_drop 59 = .ok (.iastore, 1) := by decide +kernel
theorem dX10_drop_60 : decode cX10_drop 60 = .ok (.iinc 3 5, 3) := by decide +kernel
theorem dX10_drop_63 : decode cX10_drop 63 = .ok (.goto (-27), 3) := by decide +kernel
theorem dX10_drop_66 : decode cX10_drop 66 = .ok (.iinc 2 1, 3) := by decide +kernel
theorem dX10_drop_69 : decode cX10_drop 69 = .ok (.goto (-48), 3) := by decide +kernel
theorem dX10_drop_72 : decode cX10_drop 72 = .ok (.aload_n 0, 1) := by decide +kernel
theorem dX10_drop_73 : decode cX10_drop 73 = .ok (.getfield 7, 3) := by decide +kernel
theorem dX10_drop_76 : decode cX10_drop 76 = .ok (.iconst 1, 1) := by decide +kernel
theorem dX10_drop_77 : decode cX10_drop 77 = .ok (.dup2, 1) := by decide +kernel
theorem dX10_drop_78 : decode cX10_drop 78 = .ok (.iaload, 1) := by decide +kernel
theorem dX10_drop_79 : decode cX10_drop 79 = .ok (.iconst 1, 1) := by decide +kernel
theorem dX10_drop_80 : decode cX10_drop 80 = .ok (.isub, 1) := by decide +kernel
theorem dX10_drop_81 : decode cX10_drop 81 = .ok (.iastore, 1) := by decide +kernel
theorem dX10_drop_82 : decode cX10_drop 82 = .ok (.aload_n 0, 1) := by decide +kernel
theorem dX10_drop_83 : decode cX10_drop 83 = .ok (.getfield 7, 3) := by decide +kernel
theorem dX10_drop_86 : decode cX10_drop 86 = .ok (.iconst 1, 1) := by decide +kernel
theorem dX10_drop_87 : decode cX10_drop 87 = .ok (.iaload, 1) := by decide +kernel
theorem dX10_drop_88 : decode cX10_drop 88 = .ok (.ireturn, 1) := by decide +kernel
theorem dX10_four_0 : decode cX10_four 0 = .ok (.bipush 24, 2) := by decide +kernel
theorem dX10_four_2 : decode cX10_four 2 = .ok (.istore_n 2, 1) := by decide +kernel
theorem dX10_four_3 : decode cX10_four 3 = .ok (.iload_n 2, 1) := by decide +kernel
theorem dX10_four_4 : decode cX10_four 4 = .ok (.ifCond .lt 35, 3) := by decide +kernel
theorem dX10_four_7 : decode cX10_four 7 = .ok (.aload_n 0, 1) := by decide +kernel
theorem dX10_four_8 : decode cX10_four 8 = .ok (.getfield 16, 3) := by decide +kernel
theorem dX10_four_11 : decode cX10_four 11 = .ok (.aload_n 0, 1) := by decide +kernel
theorem dX10_four_12 : decode cX10_four 12 = .ok (.getfield 102, 3) := by decide +kernel
theorem dX10_four_15 : decode cX10_four 15 = .ok (.iload_n 1, 1) := by decide +kernel
theorem dX10_four_16 : decode cX10_four 16 = .ok (.iload_n 2, 1) := by decide +kernel
theorem dX10_four_17 : decode cX10_four 17 = .ok (.ishr, 1) := by decide +kernel
theorem dX10_four_18 : decode cX10_four 18 = .ok (.sipush 255, 3) := by decide +kernel
theorem dX10_four_21 : decode cX10_four 21 = .ok (.iand, 1) := by decide +kernel
theorem dX10_four_22 : decode cX10_four 22 = .ok (.iastore, 1) := by decide +kernel
theorem dX10_four_23 : decode cX10_four 23 = .ok (.aload_n 0, 1) := by decide +kernel
theorem dX10_four_24 : decode cX10_four 24 = .ok (.dup, 1) := by decide +kernel
theorem dX10_four_25 : decode cX10_four 25 = .ok (.getfield 102, 3) := by decide +kernel
theorem dX10_four_28 : decode cX10_four 28 = .ok (.iconst 1, 1) := by decide +kernel
theorem dX10_four_29 : decode cX10_four 29 = .ok (.iadd, 1) := by decide +kernel
theorem dX10_four_30 : decode cX10_four 30 = .ok (.putfield 102, 3) := by decide +kernel
theorem dX10_four_33 : decode cX10_four 33 = .ok (.iinc 2 (-8), 3) := by decide +kernel
theorem dX10_four_36 : decode cX10_four 36 = .ok (.goto (-33), 3) := by decide +kernel
theorem dX10_four_39 : decode cX10_four 39 = .ok (.return_, 1) := by decide +kernel
theorem dX10_feed_0 : decode cX10_feed 0 = .ok (.aload_n 0, 1) := by decide +kernel
theorem dX10_feed_1 : decode cX10_feed 1 = .ok (.iconst 0, 1) := by decide +kernel
theorem dX10_feed_2 : decode cX10_feed 2 = .ok (.putfield 65, 3) := by decide +kernel
theorem dX10_feed_5 : decode cX10_feed 5 = .ok (.aload_n 0, 1) := by decide +kernel
theorem dX10_feed_6 : decode cX10_feed 6 = .ok (.getfield 102, 3) := by decide +kernel
theorem dX10_feed_9 : decode cX10_feed 9 = .ok (.bipush 20, 2) := by decide +kernel
theorem dX10_feed_11 : decode cX10_feed 11 = .ok (.iadd, 1) := by decide +kernel
theorem dX10_feed_12 : decode cX10_feed 12 = .ok (.sipush 300, 3) := by decide +kernel
theorem dX10_feed_15 : decode cX10_feed 15 = .ok (.if_icmp .le 5, 3) := by decide +kernel
theorem dX10_feed_18 : decode cX10_feed 18 = .ok (.iconst (-1), 1) := by decide +kernel
theorem dX10_feed_19 : decode cX10_feed 19 = .ok (.ireturn, 1) := by decide +kernel
theorem dX10_feed_20 : decode cX10_feed 20 = .ok (.aload_n 0, 1) := by decide +kernel
theorem dX10_feed_21 : decode cX10_feed 21 = .ok (.iload_n 1, 1) := by decide +kernel
theorem dX10_feed_22 : decode cX10_feed 22 = .ok (.invokevirtual 105, 3) := by decide +kernel
theorem dX10_feed_25 : decode cX10_feed 25 = .ok (.aload_n 0, 1) := by decide +kernel
theorem dX10_feed_26 : decode cX10_feed 26 = .ok (.iload_n 2, 1) := by decide +kernel
theorem dX10_feed_27 : decode cX10_feed 27 = .ok (.invokevirtual 105, 3) := by decide +kernel
theorem dX10_feed_30 : decode cX10_feed 30 = .ok (.aload_n 0, 1) := by decide +kernel
theorem dX10_feed_31 : decode cX10_feed 31 = .ok (.iload_n 3, 1) := by decide +kernel
theorem dX10_feed_32 : decode cX10_feed 32 = .ok (.invokevirtual 105, 3) := by decide +kernel
theorem dX10_feed_35 : decode cX10_feed 35 = .ok (.aload_n 0, 1) := by decide +kernel
theorem dX10_feed_36 : decode cX10_feed 36 = .ok (.iload 4, 2) := by decide +kernel
theorem dX10_feed_38 : decode cX10_feed 38 = .ok (.invokevirtual 105, 3) := by decide +kernel
theorem dX10_feed_41 : decode cX10_feed 41 = .ok (.aload_n 0, 1) := by decide +kernel
theorem dX10_feed_42 : decode cX10_feed 42 = .ok (.iload 5, 2) := by decide +kernel
theorem dX10_feed_44 : decode cX10_feed 44 = .ok (.invokevirtual 105, 3) := by decide +kernel
theorem dX10_feed_47 : decode cX10_feed 47 = .ok (.aload_n 0, 1) := by decide +kernel
theorem dX10_feed_48 : decode cX10_feed 48 = .ok (.getfield 102, 3) := by decide +kernel
theorem dX10_feed_51 : decode cX10_feed 51 = .ok (.ireturn, 1) := by decide +kernel
theorem dX10_end_0 : decode cX10_end 0 = .ok (.aload_n 0, 1) := by decide +kernel
theorem dX10_end_1 : decode cX10_end 1 = .ok (.iconst 0, 1) := by decide +kernel
theorem dX10_end_2 : decode cX10_end 2 = .ok (.putfield 65, 3) := by decide +kernel
theorem dX10_end_5 : decode cX10_end 5 = .ok (.iload_n 1, 1) := by decide +kernel
theorem dX10_end_6 : decode cX10_end 6 = .ok (.iconst 0, 1) := by decide +kernel
theorem dX10_end_7 : decode cX10_end 7 = .ok (.aload_n 0, 1) := by decide +kernel
theorem dX10_end_8 : decode cX10_end 8 = .ok (.getfield 102, 3) := by decide +kernel
theorem dX10_end_11 : decode cX10_end 11 = .ok (.invokestatic 69, 3) := by decide +kernel
theorem dX10_end_14 : decode cX10_end 14 = .ok (.ifCond .ne 5, 3) := by decide +kernel
theorem dX10_end_17 : decode cX10_end 17 = .ok (.iconst 0, 1) := by decide +kernel
theorem dX10_end_18 : decode cX10_end 18 = .ok (.ireturn, 1) := by decide +kernel
theorem dX10_end_19 : decode cX10_end 19 = .ok (.aload_n 0, 1) := by decide +kernel
theorem dX10_end_20 : decode cX10_end 20 = .ok (.iload_n 1, 1) := by decide +kernel
theorem dX10_end_21 : decode cX10_end 21 = .ok (.putfield 102, 3) := by decide +kernel
theorem dX10_end_24 : decode cX10_end 24 = .ok (.iconst 1, 1) := by decide +kernel
theorem dX10_end_25 : decode cX10_end 25 = .ok (.ireturn, 1) := by decide +kernel
theorem dX10_here_0 : decode cX10_here 0 = .ok (.aload_n 0, 1) := by decide +kernel
theorem dX10_here_1 : decode cX10_here 1 = .ok (.getfield 108, 3) := by decide +kernel
theorem dX10_here_4 : decode cX10_here 4 = .ok (.aload_n 0, 1) := by decide +kernel
theorem dX10_here_5 : decode cX10_here 5 = .ok (.getfield 102, 3) := by decide +kernel
theorem dX10_here_8 : decode cX10_here 8 = .ok (.if_icmp .ge 44, 3) := by decide +kernel
theorem dX10_here_11 : decode cX10_here 11 = .ok (.aload_n 0, 1) := by decide +kernel
theorem dX10_here_12 : decode cX10_here 12 = .ok (.getfield 16, 3) := by decide +kernel
theorem dX10_here_15 : decode cX10_here 15 = .ok (.aload_n 0, 1) := by decide +kernel
theorem dX10_here_16 : decode cX10_here 16 = .ok (.getfield 108, 3) := by decide +kernel
theorem dX10_here_19 : decode cX10_here 19 = .ok (.iaload, 1) := by decide +kernel
theorem dX10_here_20 : decode cX10_here 20 = .ok (.bipush 32, 2) := by decide +kernel
theorem dX10_here_22 : decode cX10_here 22 = .ok (.if_icmp .eq 17, 3) := by decide +kernel
theorem dX10_here_25 : decode cX10_here 25 = .ok (.aload_n 0, 1) := by decide +kernel
theorem dX10_here_26 : decode cX10_here 26 = .ok (.getfield 16, 3) := by decide +kernel
theorem dX10_here_29 : decode cX10_here 29 = .ok (.aload_n 0, 1) := by decide +kernel
theorem dX10_here_30 : decode cX10_here 30 = .ok (.getfield 108, 3) := by decide +kernel
theorem dX10_here_33 : decode cX10_here 33 = .ok (.iaload, 1) := by decide +kernel
theorem dX10_here_34 : decode cX10_here 34 = .ok (.bipush 10, 2) := by decide +kernel
theorem dX10_here_36 : decode cX10_here 36 = .ok (.if_icmp .ne 16, 3) := by decide +kernel
theorem dX10_here_39 : decode cX10_here 39 = .ok (.aload_n 0, 1) := by decide +kernel
theorem dX10_here_40 : decode cX10_here 40 = .ok (.dup, 1) := by decide +kernel
theorem dX10_here_41 : decode cX10_here 41 = .ok (.getfield 108, 3) := by decide +kernel
theorem dX10_here_44 : decode cX10_here 44 = .ok (.iconst 1, 1) := by decide +kernel
theorem dX10_here_45 : decode cX10_here 45 = .ok (.iadd, 1) := by decide +kernel
theorem dX10_here_46 : decode cX10_here 46 = .ok (.putfield 108, 3) := by decide +kernel
theorem dX10_here_49 : decode cX10_here 49 = .ok (.goto (-49), 3) := by decide +kernel
theorem dX10_here_52 : decode cX10_here 52 = .ok (.aload_n 0, 1) := by decide +kernel
theorem dX10_here_53 : decode cX10_here 53 = .ok (.getfield 108, 3) := by decide +kernel
theorem dX10_here_56 : decode cX10_here 56 = .ok (.aload_n 0, 1) := by decide +kernel
theorem dX10_here_57 : decode cX10_here 57 = .ok (.getfield 102, 3) := by decide +kernel
theorem dX10_here_60 : decode cX10_here 60 = .ok (.if_icmp .ge 15, 3) := by decide +kernel
theorem dX10_here_63 : decode cX10_here 63 = .ok (.aload_n 0, 1) := by decide +kernel
theorem dX10_here_64 : decode cX10_here 64 = .ok (.getfield 16, 3) := by decide +kernel
theorem dX10_here_67 : decode cX10_here 67 = .ok (.aload_n 0, 1) := by decide +kernel
theorem dX10_here_68 : decode cX10_here 68 = .ok (.getfield 108, 3) := by decide +kernel
theorem dX10_here_71 : decode cX10_here 71 = .ok (.iaload, 1) := by decide +kernel
theorem dX10_here_72 : decode cX10_here 72 = .ok (.goto 4, 3) := by decide +kernel
theorem dX10_here_75 : decode cX10_here 75 = .ok (.iconst (-1), 1) := by decide +kernel
theorem dX10_here_76 : decode cX10_here 76 = .ok (.ireturn, 1) := by decide +kernel
theorem dX10_fails_0 : decode cX10_fails 0 = .ok (.aload_n 0, 1) := by decide +kernel
theorem dX10_fails_1 : decode cX10_fails 1 = .ok (.iload_n 1, 1) := by decide +kernel
theorem dX10_fails_2 : decode cX10_fails 2 = .ok (.bipush 8, 2) := by decide +kernel
theorem dX10_fails_4 : decode cX10_fails 4 = .ok (.iload_n 2, 1) := by decide +kernel
theorem dX10_fails_5 : decode cX10_fails 5 = .ok (.imul, 1) := by decide +kernel
theorem dX10_fails_6 : decode cX10_fails 6 = .ok (.iadd, 1) := by decide +kernel
theorem dX10_fails_7 : decode cX10_fails 7 = .ok (.putfield 111, 3) := by decide +kernel
theorem dX10_fails_10 : decode cX10_fails 10 = .ok (.iconst 0, 1) := by decide +kernel
theorem dX10_fails_11 : decode cX10_fails 11 = .ok (.ireturn, 1) := by decide +kernel
theorem dX10_readNumber_0 : decode cX10_readNumber 0 = .ok (.aload_n 0, 1) := by decide +kernel
theorem dX10_readNumber_1 : decode cX10_readNumber 1 = .ok (.invokevirtual 114, 3) := by decide +kernel
theorem dX10_readNumber_4 : decode cX10_readNumber 4 = .ok (.bipush 48, 2) := by decide +kernel
theorem dX10_readNumber_6 : decode cX10_readNumber 6 = .ok (.bipush 57, 2) := by decide +kernel
theorem dX10_readNumber_8 : decode cX10_readNumber 8 = .ok (.invokestatic 69, 3) := by decide +kernel
theorem dX10_readNumber_11 : decode cX10_readNumber 11 = .ok (.ifCond .ne 13, 3) := by decide +kernel
theorem dX10_readNumber_14 : decode cX10_readNumber 14 = .ok (.aload_n 0, 1) := by decide +kernel
theorem dX10_readNumber_15 : decode cX10_readNumber 15 = .ok (.iconst 1, 1) := by decide +kernel
theorem dX10_readNumber_16 : decode cX10_readNumber 16 = .ok (.aload_n 0, 1) := by decide +kernel
theorem dX10_readNumber_17 : decode cX10_readNumber 17 = .ok (.getfield 108, 3) := by decide +kernel
theorem dX10_readNumber_20 : decode cX10_readNumber 20 = .ok (.invokevirtual 118, 3) := by decide +kernel
theorem dX10_readNumber_23 : decode cX10_readNumber 23 = .ok (.ireturn, 1) := by decide +kernel
theorem dX10_readNumber_24 : decode cX10_readNumber 24 = .ok (.aload_n 0, 1) := by decide +kernel
theorem dX10_readNumber_25 : decode cX10_readNumber 25 = .ok (.getfield 108, 3) := by decide +kernel
theorem dX10_readNumber_28 : decode cX10_readNumber 28 = .ok (.istore_n 3, 1) := by decide +kernel
theorem dX10_readNumber_29 : decode cX10_readNumber 29 = .ok (.aload_n 0, 1) := by decide +kernel
theorem dX10_readNumber_30 : decode cX10_readNumber 30 = .ok (.iconst 0, 1) := by decide +kernel
theorem dX10_readNumber_31 : decode cX10_readNumber 31 = .ok (.putfield 122, 3) := by decide +kernel
theorem dX10_readNumber_34 : decode cX10_readNumber 34 = .ok (.aload_n 0, 1) := by decide +kernel
theorem dX10_readNumber_35 : decode cX10_readNumber 35 = .ok (.getfield 108, 3) := by decide +kernel
theorem dX10_readNumber_38 : decode cX10_readNumber 38 = .ok (.aload_n 0, 1) := by decide +kernel
theorem dX10_readNumber_39 : decode cX10_readNumber 39 = .ok (.getfield 102, 3) := by decide +kernel
theorem dX10_readNumber_42 : decode cX10_readNumber 42 = .ok (.if_icmp .ge 76, 3) := by decide +kernel
theorem dX10_readNumber_45 : decode cX10_readNumber 45 = .ok (.aload_n 0, 1) := by decide +kernel
theorem dX10_readNumber_46 : decode cX10_readNumber 46 = .ok (.getfield 16, 3) := by decide +kernel
theorem dX10_readNumber_49 : decode cX10_readNumber 49 = .ok (.aload_n 0, 1) := by decide +kernel
theorem dX10_readNumber_50 : decode cX10_readNumber 50 = .ok (.getfield 108, 3) := by decide +kernel
theorem dX10_readNumber_53 : decode cX10_readNumber 53 = .ok (.iaload, 1) := by decide +kernel
theorem dX10_readNumber_54 : decode cX10_readNumber 54 = .ok (.bipush 48, 2) := by decide +kernel
theorem dX10_readNumber_56 : decode cX10_readNumber 56 = .ok (.bipush 57, 2) := by decide +kernel
theorem dX10_readNumber_58 : decode cX10_readNumber 58 = .ok (.invokestatic 69, 3) := by decide +kernel
theorem dX10_readNumber_61 : decode cX10_readNumber 61 = .ok (.ifCond .eq 57, 3) := by decide +kernel
theorem dX10_readNumber_64 : decode cX10_readNumber 64 = .ok (.aload_n 0, 1) := by decide +kernel
theorem dX10_readNumber_65 : decode cX10_readNumber 65 = .ok (.aload_n 0, 1) := by decide +kernel
theorem dX10_readNumber_66 : decode cX10_readNumber 66 = .ok (.getfield 108, 3) := by decide +kernel
theorem dX10_readNumber_69 : decode cX10_readNumber 69 = .ok (.iload_n 3, 1) := by decide +kernel
theorem dX10_readNumber_70 : decode cX10_readNumber 70 = .ok (.isub, 1) := by decide +kernel
theorem dX10_readNumber_71 : decode cX10_readNumber 71 = .ok (.iconst 4, 1) := by decide +kernel
theorem dX10_readNumber_72 : decode cX10_readNumber 72 = .ok (.if_icmp .ge 26, 3) := by decide +kernel
theorem dX10_readNumber_75 : decode cX10_readNumber 75 = .ok (.bipush 10, 2) := by decide +kernel
theorem dX10_readNumber_77 : decode cX10_readNumber 77 = .ok (.aload_n 0, 1) := by decide +kernel
theorem dX10_readNumber_78 : decode cX10_readNumber 78 = .ok (.getfield 122, 3) := by decide +kernel
theorem dX10_readNumber_81 : decode cX10_readNumber 81 = .ok (.imul, 1) := by decide +kernel
theorem dX10_readNumber_82 : decode cX10_readNumber 82 = .ok (.aload_n 0, 1) := by decide +kernel
theorem dX10_readNumber_83 : decode cX10_readNumber 83 = .ok (.getfield 16, 3) := by decide +kernel
theorem dX10_readNumber_86 : decode cX10_readNumber 86 = .ok (.aload_n 0, 1) := by decide +kernel
theorem dX10_readNumber_87 : decode cX10_readNumber 87 = .ok (.getfield 108, 3) := by decide +kernel
theorem dX10_readNumber_90 : decode cX10_readNumber 90 = .ok (.iaload, 1) := by decide +kernel
theorem dX10_readNumber_91 : decode cX10_readNumber 91 = .ok (.iadd, 1) := by decide +kernel
theorem dX10_readNumber_92 : decode cX10_readNumber 92 = .ok (.bipush 48, 2) := by decide +kernel
theorem dX10_readNumber_94 : decode cX10_readNumber 94 = .ok (.isub, 1) := by decide +kernel
theorem dX10_readNumber_95 : decode cX10_readNumber 95 = .ok (.goto 7, 3) := by decide +kernel
theorem dX10_readNumber_98 : decode cX10_readNumber 98 = .ok (.aload_n 0, 1) := by decide +kernel
theorem dX10_readNumber_99 : decode cX10_readNumber 99 = .ok (.getfield 122, 3) := by decide +kernel
theorem dX10_readNumber_102 : decode cX10_readNumber 102 = .ok (.putfield 122, 3) := by decide +kernel
theorem dX10_readNumber_105 : decode cX10_readNumber 105 = .ok (.aload_n 0, 1) := by decide +kernel
theorem dX10_readNumber_106 : decode cX10_readNumber 106 = .ok (.dup, 1) := by decide +kernel
theorem dX10_readNumber_107 : decode cX10_readNumber 107 = .ok (.getfield 108, 3) := by decide +kernel
theorem dX10_readNumber_110 : decode cX10_readNumber 110 = .ok (.iconst 1, 1) := by decide +kernel
theorem dX10_readNumber_111 : decode cX10_readNumber 111 = .ok (.iadd, 1) := by decide +kernel
theorem dX10_readNumber_112 : decode cX10_readNumber 112 = .ok (.putfield 108, 3) := by decide +kernel
theorem dX10_readNumber_115 : decode cX10_readNumber 115 = .ok (.goto (-81), 3) := by decide +kernel
theorem dX10_readNumber_118 : decode cX10_readNumber 118 = .ok (.aload_n 0, 1) := by decide +kernel
theorem dX10_readNumber_119 : decode cX10_readNumber 119 = .ok (.getfield 108, 3) := by decide +kernel
theorem dX10_readNumber_122 : decode cX10_readNumber 122 = .ok (.iload_n 3, 1) := by decide +kernel
theorem dX10_readNumber_123 : decode cX10_readNumber 123 = .ok (.isub, 1) := by decide +kernel
theorem dX10_readNumber_124 : decode cX10_readNumber 124 = .ok (.iconst 4, 1) := by decide +kernel
theorem dX10_readNumber_125 : decode cX10_readNumber 125 = .ok (.if_icmp .le 10, 3) := by decide +kernel
theorem dX10_readNumber_128 : decode cX10_readNumber 128 = .ok (.aload_n 0, 1) := by decide +kernel
theorem dX10_readNumber_129 : decode cX10_readNumber 129 = .ok (.iconst 1, 1) := by decide +kernel
theorem dX10_readNumber_130 : decode cX10_readNumber 130 = .ok (.iload_n 3, 1) := by decide +kernel
theorem dX10_readNumber_131 : decode cX10_readNumber 131 = .ok (.invokevirtual 118, 3) := by decide +kernel
theorem dX10_readNumber_134 : decode cX10_readNumber 134 = .ok (.ireturn, 1) := by decide +kernel
theorem dX10_readNumber_135 : decode cX10_readNumber 135 = .ok (.aload_n 0, 1) := by decide +kernel
theorem dX10_readNumber_136 : decode cX10_readNumber 136 = .ok (.getfield 122, 3) := by decide +kernel
theorem dX10_readNumber_139 : decode cX10_readNumber 139 = .ok (.iload_n 1, 1) := by decide +kernel
theorem dX10_readNumber_140 : decode cX10_readNumber 140 = .ok (.iload_n 2, 1) := by decide +kernel
theorem dX10_readNumber_141 : decode cX10_readNumber 141 = .ok (.invokestatic 69, 3) := by decide +kernel
theorem dX10_readNumber_144 : decode cX10_readNumber 144 = .ok (.ifCond .ne 12, 3) := by decide +kernel
theorem dX10_readNumber_147 : decode cX10_readNumber 147 = .ok (.aload_n 0, 1) := by decide +kernel
theorem dX10_readNumber_148 : decode cX10_readNumber 148 = .ok (.iconst 2, 1) := by decide +kernel
theorem dX10_readNumber_149 : decode cX10_readNumber 149 = .ok (.iload_n 3, 1) := by decide +kernel
theorem dX10_readNumber_150 : decode cX10_readNumber 150 = .ok (.invokevirtual 118, 3) := by decide +kernel
theorem dX10_readNumber_153 : decode cX10_readNumber 153 = .ok (.ifCond .eq 7, 3) := by decide +kernel
theorem dX10_readNumber_156 : decode cX10_readNumber 156 = .ok (.iconst 1, 1) := by decide +kernel
theorem dX10_readNumber_157 : decode cX10_readNumber 157 = .ok (.goto 4, 3) := by decide +kernel
theorem dX10_readNumber_160 : decode cX10_readNumber 160 = .ok (.iconst 0, 1) := by decide +kernel
theorem dX10_readNumber_161 : decode cX10_readNumber 161 = .ok (.ireturn, 1) := by decide +kernel
theorem dX10_reads_0 : decode cX10_reads 0 = .ok (.aload_n 0, 1) := by decide +kernel
theorem dX10_reads_1 : decode cX10_reads 1 = .ok (.iload_n 2, 1) := by decide +kernel
theorem dX10_reads_2 : decode cX10_reads 2 = .ok (.iload_n 3, 1) := by decide +kernel
theorem dX10_reads_3 : decode cX10_reads 3 = .ok (.invokevirtual 125, 3) := by decide +kernel
theorem dX10_reads_6 : decode cX10_reads 6 = .ok (.istore 4, 2) := by decide +kernel
theorem dX10_reads_8 : decode cX10_reads 8 = .ok (.aload_n 0, 1) := by decide +kernel
theorem dX10_reads_9 : decode cX10_reads 9 = .ok (.getfield 19, 3) := by decide +kernel
theorem dX10_reads_12 : decode cX10_reads 12 = .ok (.iload_n 1, 1) := by decide +kernel
theorem dX10_reads_13 : decode cX10_reads 13 = .ok (.aload_n 0, 1) := by decide +kernel
theorem dX10_reads_14 : decode cX10_reads 14 = .ok (.getfield 122, 3) := by decide +kernel
theorem dX10_reads_17 : decode cX10_reads 17 = .ok (.iastore, 1) := by decide +kernel
theorem dX10_reads_18 : decode cX10_reads 18 = .ok (.iload 4, 2) := by decide +kernel
theorem dX10_reads_20 : decode cX10_reads 20 = .ok (.ireturn, 1) := by decide +kernel
theorem dX10_readWord_0 : decode cX10_readWord 0 = .ok (.lconst 0, 1) := by decide +kernel
theorem dX10_readWord_1 : decode cX10_readWord 1 = .ok (.lstore_n 1, 1) := by decide +kernel
theorem dX10_readWord_2 : decode cX10_readWord 2 = .ok (.iconst 0, 1) := by decide +kernel
theorem dX10_readWord_3 : decode cX10_readWord 3 = .ok (.istore_n 3, 1) := by decide +kernel
theorem dX10_readWord_4 : decode cX10_readWord 4 = .ok (.aload_n 0, 1) := by decide +kernel
theorem dX10_readWord_5 : decode cX10_readWord 5 = .ok (.aload_n 0, 1) := by decide +kernel
theorem dX10_readWord_6 : decode cX10_readWord 6 = .ok (.getfield 108, 3) := by decide +kernel
theorem dX10_readWord_9 : decode cX10_readWord 9 = .ok (.putfield 128, 3) := by decide +kernel
theorem dX10_readWord_12 : decode cX10_readWord 12 = .ok (.aload_n 0, 1) := by decide +kernel
theorem dX10_readWord_13 : decode cX10_readWord 13 = .ok (.getfield 108, 3) := by decide +kernel
theorem dX10_readWord_16 : decode cX10_readWord 16 = .ok (.aload_n 0, 1) := by decide +kernel
theorem dX10_readWord_17 : decode cX10_readWord 17 = .ok (.getfield 102, 3) := by decide +kernel
theorem dX10_readWord_20 : decode cX10_readWord 20 = .ok (.if_icmp .ge 71, 3) := by decide +kernel
theorem dX10_readWord_23 : decode cX10_readWord 23 = .ok (.aload_n 0, 1) := by decide +kernel
theorem dX10_readWord_24 : decode cX10_readWord 24 = .ok (.getfield 16, 3) := by decide +kernel
theorem dX10_readWord_27 : decode cX10_readWord 27 = .ok (.aload_n 0, 1) := by decide +kernel
theorem dX10_readWord_28 : decode cX10_readWord 28 = .ok (.getfield 108, 3) := by decide +kernel
theorem dX10_readWord_31 : decode cX10_readWord 31 = .ok (.iaload, 1) := by decide +kernel
theorem dX10_readWord_32 : decode cX10_readWord 32 = .ok (.bipush 97, 2) := by decide +kernel
theorem dX10_readWord_34 : decode cX10_readWord 34 = .ok (.bipush 122, 2) := by decide +kernel
theorem dX10_readWord_36 : decode cX10_readWord 36 = .ok (.invokestatic 69, 3) := by decide +kernel
theorem dX10_readWord_39 : decode cX10_readWord 39 = .ok (.ifCond .eq 52, 3) := by decide +kernel
theorem dX10_readWord_42 : decode cX10_readWord 42 = .ok (.iload_n 3, 1) := by decide +kernel
theorem dX10_readWord_43 : decode cX10_readWord 43 = .ok (.bipush 7, 2) := by decide +kernel
theorem dX10_readWord_45 : decode cX10_readWord 45 = .ok (.if_icmp .ge 26, 3) := by decide +kernel
theorem dX10_readWord_48 : decode cX10_readWord 48 = .ok (.lload_n 1, 1) := by decide +kernel
theorem dX10_readWord_49 : decode cX10_readWord 49 = .ok (.ldc2_w 131, 3) := by decide +kernel
theorem dX10_readWord_52 : decode cX10_readWord 52 = .ok (.lmul, 1) := by decide +kernel
theorem dX10_readWord_53 : decode cX10_readWord 53 = .ok (.aload_n 0, 1) := by decide +kernel
theorem dX10_readWord_54 : decode cX10_readWord 54 = .ok (.getfield 16, 3) := by decide +kernel
theorem dX10_readWord_57 : decode cX10_readWord 57 = .ok (.aload_n 0, 1) := by decide +kernel
theorem dX10_readWord_58 : decode cX10_readWord 58 = .ok (.getfield 108, 3) := by decide +kernel
theorem dX10_readWord_61 : decode cX10_readWord 61 = .ok (.iaload, 1) := by decide +kernel
theorem dX10_readWord_62 : decode cX10_readWord 62 = .ok (.i2l, 1) := by decide +kernel
theorem dX10_readWord_63 : decode cX10_readWord 63 = .ok (.ladd, 1) := by decide +kernel
theorem dX10_readWord_64 : decode cX10_readWord 64 = .ok (.ldc2_w 133, 3) := by decide +kernel
theorem dX10_readWord_67 : decode cX10_readWord 67 = .ok (.lsub, 1) := by decide +kernel
theorem dX10_readWord_68 : decode cX10_readWord 68 = .ok (.goto 6, 3) := by decide +kernel
theorem dX10_readWord_71 : decode cX10_readWord 71 = .ok (.ldc2_w 135, 3) := by decide +kernel
theorem dX10_readWord_74 : decode cX10_readWord 74 = .ok (.lstore_n 1, 1) := by decide +kernel
theorem dX10_readWord_75 : decode cX10_readWord 75 = .ok (.iinc 3 1, 3) := by decide +kernel
theorem dX10_readWord_78 : decode cX10_readWord 78 = .ok (.aload_n 0, 1) := by decide +kernel
theorem dX10_readWord_79 : decode cX10_readWord 79 = .ok (.dup, 1) := by decide +kernel
theorem dX10_readWord_80 : decode cX10_readWord 80 = .ok (.getfield 108, 3) := by decide +kernel
theorem dX10_readWord_83 : decode cX10_readWord 83 = .ok (.iconst 1, 1) := by decide +kernel
theorem dX10_readWord_84 : decode cX10_readWord 84 = .ok (.iadd, 1) := by decide +kernel
theorem dX10_readWord_85 : decode cX10_readWord 85 = .ok (.putfield 108, 3) := by decide +kernel
theorem dX10_readWord_88 : decode cX10_readWord 88 = .ok (.goto (-76), 3) := by decide +kernel
theorem dX10_readWord_91 : decode cX10_readWord 91 = .ok (.lload_n 1, 1) := by decide +kernel
theorem dX10_readWord_92 : decode cX10_readWord 92 = .ok (.lreturn, 1) := by decide +kernel
theorem dX10_readStatement_0 : decode cX10_readStatement 0 = .ok (.aload_n 0, 1) := by decide +kernel
theorem dX10_readStatement_1 : decode cX10_readStatement 1 = .ok (.invokevirtual 114, 3) := by decide +kernel
theorem dX10_readStatement_4 : decode cX10_readStatement 4 = .ok (.bipush 97, 2) := by decide +kernel
theorem dX10_readStatement_6 : decode cX10_readStatement 6 = .ok (.bipush 122, 2) := by decide +kernel
theorem dX10_readStatement_8 : decode cX10_readStatement 8 = .ok (.invokestatic 69, 3) := by decide +kernel
theorem dX10_readStatement_11 : decode cX10_readStatement 11 = .ok (.ifCond .ne 13, 3) := by decide +kernel
theorem dX10_readStatement_14 : decode cX10_readStatement 14 = .ok (.aload_n 0, 1) := by decide +kernel
theorem dX10_readStatement_15 : decode cX10_readStatement 15 = .ok (.iconst 1, 1) := by decide +kernel
theorem dX10_readStatement_16 : decode cX10_readStatement 16 = .ok (.aload_n 0, 1) := by decide +kernel
theorem dX10_readStatement_17 : decode cX10_readStatement 17 = .ok (.getfield 108, 3) := by decide +kernel
theorem dX10_readStatement_20 : decode cX10_readStatement 20 = .ok (.invokevirtual 118, 3) := by decide +kernel
theorem dX10_readStatement_23 : decode cX10_readStatement 23 = .ok (.ireturn, 1) := by decide +kernel
theorem dX10_readStatement_24 : decode cX10_readStatement 24 = .ok (.aload_n 0, 1) := by decide +kernel
theorem dX10_readStatement_25 : decode cX10_readStatement 25 = .ok (.invokevirtual 137, 3) := by decide +kernel
theorem dX10_readStatement_28 : decode cX10_readStatement 28 = .ok (.lstore_n 1, 1) := by decide +kernel
theorem dX10_readStatement_29 : decode cX10_readStatement 29 = .ok (.lload_n 1, 1) := by decide +kernel
theorem dX10_readStatement_30 : decode cX10_readStatement 30 = .ok (.ldc2_w 141, 3) := by decide +kernel
theorem dX10_readStatement_33 : decode cX10_readStatement 33 = .ok (.lcmp, 1) := by decide +kernel
theorem dX10_readStatement_34 : decode cX10_readStatement 34 = .ok (.ifCond .ne 24, 3) := by decide +kernel
theorem dX10_readStatement_37 : decode cX10_readStatement 37 = .ok (.aload_n 0, 1) := by decide +kernel
theorem dX10_readStatement_38 : decode cX10_readStatement 38 = .ok (.iconst 1, 1) := by decide +kernel
theorem dX10_readStatement_39 : decode cX10_readStatement 39 = .ok (.iconst 4, 1) := by decide +kernel
theorem dX10_readStatement_40 : decode cX10_readStatement 40 = .ok (.invokevirtual 125, 3) := by decide +kernel
theorem dX10_readStatement_43 : decode cX10_readStatement 43 = .ok (.ifCond .ne 5, 3) := by decide +kernel
theorem dX10_readStatement_46 : decode cX10_readStatement 46 = .ok (.iconst 0, 1) := by decide +kernel
theorem dX10_readStatement_47 : decode cX10_readStatement 47 = .ok (.ireturn, 1) := by decide +kernel
theorem dX10_readStatement_48 : decode cX10_readStatement 48 = .ok (.aload_n 0, 1) := by decide +kernel
theorem dX10_readStatement_49 : decode cX10_readStatement 49 = .ok (.aload_n 0, 1) := by decide +kernel
theorem dX10_readStatement_50 : decode cX10_readStatement 50 = .ok (.getfield 122, 3) := by decide +kernel
theorem dX10_readStatement_53 : decode cX10_readStatement 53 = .ok (.invokevirtual 73, 3) := by decide +kernel
theorem dX10_readStatement_56 : decode cX10_readStatement 56 = .ok (.iconst 1, 1) := by decide +kernel
theorem dX10_readStatement_57 : decode cX10_readStatement 57 = .ok (.ireturn, 1) := by decide +kernel
theorem dX10_readStatement_58 : decode cX10_readStatement 58 = .ok (.lload_n 1, 1) := by decide +kernel
theorem dX10_readStatement_59 : decode cX10_readStatement 59 = .ok (.ldc2_w 143, 3) := by decide +kernel
theorem dX10_readStatement_62 : decode cX10_readStatement 62 = .ok (.lcmp, 1) := by decide +kernel
theorem dX10_readStatement_63 : decode cX10_readStatement 63 = .ok (.ifCond .ne 58, 3) := by decide +kernel
theorem dX10_readStatement_66 : decode cX10_readStatement 66 = .ok (.aload_n 0, 1) := by decide +kernel
theorem dX10_readStatement_67 : decode cX10_readStatement 67 = .ok (.iconst 0, 1) := by decide +kernel
theorem dX10_readStatement_68 : decode cX10_readStatement 68 = .ok (.iconst 1, 1) := by decide +kernel
theorem dX10_readStatement_69 : decode cX10_readStatement 69 = .ok (.aload_n 0, 1) := by decide +kernel
theorem dX10_readStatement_70 : decode cX10_readStatement 70 = .ok (.getfield 13, 3) := by decide +kernel
theorem dX10_readStatement_73 : decode cX10_readStatement 73 = .ok (.iconst 0, 1) := by decide +kernel
theorem dX10_readStatement_74 : decode cX10_readStatement 74 = .ok (.iaload, 1) := by decide +kernel
theorem dX10_readStatement_75 : decode cX10_readStatement 75 = .ok (.invokevirtual 145, 3) := by decide +kernel
theorem dX10_readStatement_78 : decode cX10_readStatement 78 = .ok (.ifCond .eq 41, 3) := by decide +kernel
theorem dX10_readStatement_81 : decode cX10_readStatement 81 = .ok (.aload_n 0, 1) := by decide +kernel
theorem dX10_readStatement_82 : decode cX10_readStatement 82 = .ok (.iconst 1, 1) := by decide +kernel
theorem dX10_readStatement_83 : decode cX10_readStatement 83 = .ok (.iconst 0, 1) := by decide +kernel
theorem dX10_readStatement_84 : decode cX10_readStatement 84 = .ok (.sipush 200, 3) := by decide +kernel
theorem dX10_readStatement_87 : decode cX10_readStatement 87 = .ok (.invokevirtual 145, 3) := by decide +kernel
theorem dX10_readStatement_90 : decode cX10_readStatement 90 = .ok (.ifCond .eq 29, 3) := by decide +kernel
theorem dX10_readStatement_93 : decode cX10_readStatement 93 = .ok (.aload_n 0, 1) := by decide +kernel
theorem dX10_readStatement_94 : decode cX10_readStatement 94 = .ok (.iconst 2, 1) := by decide +kernel
theorem dX10_readStatement_95 : decode cX10_readStatement 95 = .ok (.aload_n 0, 1) := by decide +kernel
theorem dX10_readStatement_96 : decode cX10_readStatement 96 = .ok (.getfield 19, 3) := by decide +kernel
theorem dX10_readStatement_99 : decode cX10_readStatement 99 = .ok (.iconst 0, 1) := by decide +kernel
theorem dX10_readStatement_100 : decode cX10_readStatement 100 = .ok (.iaload, 1) := by decide +kernel
theorem dX10_readStatement_101 : decode cX10_readStatement 101 = .ok (.iadd, 1) := by decide +kernel
theorem dX10_readStatement_102 : decode cX10_readStatement 102 = .ok (.aload_n 0, 1) := by decide +kernel
theorem dX10_readStatement_103 : decode cX10_readStatement 103 = .ok (.getfield 19, 3) := by decide +kernel
theorem dX10_readStatement_106 : decode cX10_readStatement 106 = .ok (.iconst 1, 1) := by decide +kernel
theorem dX10_readStatement_107 : decode cX10_readStatement 107 = .ok (.iaload, 1) := by decide +kernel
theorem dX10_readStatement_108 : decode cX10_readStatement 108 = .ok (.iconst 1, 1) := by decide +kernel
theorem dX10_readStatement_109 : decode cX10_readStatement 109 = .ok (.invokevirtual 88, 3) := by decide +kernel
theorem dX10_readStatement_112 : decode cX10_readStatement 112 = .ok (.ifCond .eq 7, 3) := by decide +kernel
theorem dX10_readStatement_115 : decode cX10_readStatement 115 = .ok (.iconst 1, 1) := by decide +kernel
theorem dX10_readStatement_116 : decode cX10_readStatement 116 = .ok (.goto 4, 3) := by decide +kernel
theorem dX10_readStatement_119 : decode cX10_readStatement 119 = .ok (.iconst 0, 1) := by decide +kernel
theorem dX10_readStatement_120 : decode cX10_readStatement 120 = .ok (.ireturn, 1) := by decide +kernel
theorem dX10_readStatement_121 : decode cX10_readStatement 121 = .ok (.lload_n 1, 1) := by decide +kernel
theorem dX10_readStatement_122 : decode cX10_readStatement 122 = .ok (.ldc2_w 148, 3) := by decide +kernel
theorem dX10_readStatement_125 : decode cX10_readStatement 125 = .ok (.lcmp, 1) := by decide +kernel
theorem dX10_readStatement_126 : decode cX10_readStatement 126 = .ok (.ifCond .ne 58, 3) := by decide +kernel
theorem dX10_readStatement_129 : decode cX10_readStatement 129 = .ok (.aload_n 0, 1) := by decide +kernel
theorem dX10_readStatement_130 : decode cX10_readStatement 130 = .ok (.iconst 0, 1) := by decide +kernel
theorem dX10_readStatement_131 : decode cX10_readStatement 131 = .ok (.iconst 1, 1) := by decide +kernel
theorem dX10_readStatement_132 : decode cX10_readStatement 132 = .ok (.aload_n 0, 1) := by decide +kernel
theorem dX10_readStatement_133 : decode cX10_readStatement 133 = .ok (.getfield 13, 3) := by decide +kernel
theorem dX10_readStatement_136 : decode cX10_readStatement 136 = .ok (.iconst 0, 1) := by decide +kernel
theorem dX10_readStatement_137 : decode cX10_readStatement 137 = .ok (.iaload, 1) := by decide +kernel
theorem dX10_readStatement_138 : decode cX10_readStatement 138 = .ok (.invokevirtual 145, 3) := by decide +kernel
theorem dX10_readStatement_141 : decode cX10_readStatement 141 = .ok (.ifCond .eq 41, 3) := by decide +kernel
theorem dX10_readStatement_144 : decode cX10_readStatement 144 = .ok (.aload_n 0, 1) := by decide +kernel
theorem dX10_readStatement_145 : decode cX10_readStatement 145 = .ok (.iconst 1, 1) := by decide +kernel
theorem dX10_readStatement_146 : decode cX10_readStatement 146 = .ok (.iconst 0, 1) := by decide +kernel
theorem dX10_readStatement_147 : decode cX10_readStatement 147 = .ok (.bipush 6, 2) := by decide +kernel
theorem dX10_readStatement_149 : decode cX10_readStatement 149 = .ok (.invokevirtual 145, 3) := by decide +kernel
theorem dX10_readStatement_152 : decode cX10_readStatement 152 = .ok (.ifCond .eq 30, 3) := by decide +kernel
theorem dX10_readStatement_155 : decode cX10_readStatement 155 = .ok (.aload_n 0, 1) := by decide +kernel
theorem dX10_readStatement_156 : decode cX10_readStatement 156 = .ok (.bipush 7, 2) := by decide +kernel
theorem dX10_readStatement_158 : decode cX10_readStatement 158 = .ok (.aload_n 0, 1) := by decide +kernel
theorem dX10_readStatement_159 : decode cX10_readStatement 159 = .ok (.getfield 19, 3) := by decide +kernel
theorem dX10_readStatement_162 : decode cX10_readStatement 162 = .ok (.iconst 0, 1) := by decide +kernel
theorem dX10_readStatement_163 : decode cX10_readStatement 163 = .ok (.iaload, 1) := by decide +kernel
theorem dX10_readStatement_164 : decode cX10_readStatement 164 = .ok (.iadd, 1) := by decide +kernel
theorem dX10_readStatement_165 : decode cX10_readStatement 165 = .ok (.aload_n 0, 1) := by decide +kernel
theorem dX10_readStatement_166 : decode cX10_readStatement 166 = .ok (.getfield 19, 3) := by decide +kernel
theorem dX10_readStatement_169 : decode cX10_readStatement 169 = .ok (.iconst 1, 1) := by decide +kernel
theorem dX10_readStatement_170 : decode cX10_readStatement 170 = .ok (.iaload, 1) := by decide +kernel
theorem dX10_readStatement_171 : decode cX10_readStatement 171 = .ok (.iconst 1, 1) := by decide +kernel
theorem dX10_readStatement_172 : decode cX10_readStatement 172 = .ok (.invokevirtual 88, 3) := by decide +kernel
theorem dX10_readStatement_175 : decode cX10_readStatement 175 = .ok (.ifCond .eq 7, 3) := by decide +kernel
theorem dX10_readStatement_178 : decode cX10_readStatement 178 = .ok (.iconst 1, 1) := by decide +kernel
theorem dX10_readStatement_179 : decode cX10_readStatement 179 = .ok (.goto 4, 3) := by decide +kernel
theorem dX10_readStatement_182 : decode cX10_readStatement 182 = .ok (.iconst 0, 1) := by decide +kernel
theorem dX10_readStatement_183 : decode cX10_readStatement 183 = .ok (.ireturn, 1) := by decide +kernel
theorem dX10_readStatement_184 : decode cX10_readStatement 184 = .ok (.lload_n 1, 1) := by decide +kernel
theorem dX10_readStatement_185 : decode cX10_readStatement 185 = .ok (.ldc2_w 150, 3) := by decide +kernel
theorem dX10_readStatement_188 : decode cX10_readStatement 188 = .ok (.lcmp, 1) := by decide +kernel
theorem dX10_readStatement_189 : decode cX10_readStatement 189 = .ok (.ifCond .ne 60, 3) := by decide +kernel
theorem dX10_readStatement_192 : decode cX10_readStatement 192 = .ok (.aload_n 0, 1) := by decide +kernel
theorem dX10_readStatement_193 : decode cX10_readStatement 193 = .ok (.iconst 0, 1) := by decide +kernel
theorem dX10_readStatement_194 : decode cX10_readStatement 194 = .ok (.iconst 0, 1) := by decide +kernel
theorem dX10_readStatement_195 : decode cX10_readStatement 195 = .ok (.aload_n 0, 1) := by decide +kernel
theorem dX10_readStatement_196 : decode cX10_readStatement 196 = .ok (.getfield 13, 3) := by decide +kernel
theorem dX10_readStatement_199 : decode cX10_readStatement 199 = .ok (.iconst 1, 1) := by decide +kernel
theorem dX10_readStatement_200 : decode cX10_readStatement 200 = .ok (.iaload, 1) := by decide +kernel
theorem dX10_readStatement_201 : decode cX10_readStatement 201 = .ok (.iconst 1, 1) := by decide +kernel
theorem dX10_readStatement_202 : decode cX10_readStatement 202 = .ok (.isub, 1) := by decide +kernel
theorem dX10_readStatement_203 : decode cX10_readStatement 203 = .ok (.invokevirtual 145, 3) := by decide +kernel
theorem dX10_readStatement_206 : decode cX10_readStatement 206 = .ok (.ifCond .eq 41, 3) := by decide +kernel
theorem dX10_readStatement_209 : decode cX10_readStatement 209 = .ok (.aload_n 0, 1) := by decide +kernel
theorem dX10_readStatement_210 : decode cX10_readStatement 210 = .ok (.iconst 1, 1) := by decide +kernel
theorem dX10_readStatement_211 : decode cX10_readStatement 211 = .ok (.iconst 0, 1) := by decide +kernel
theorem dX10_readStatement_212 : decode cX10_readStatement 212 = .ok (.bipush 12, 2) := by decide +kernel
theorem dX10_readStatement_214 : decode cX10_readStatement 214 = .ok (.invokevirtual 145, 3) := by decide +kernel
theorem dX10_readStatement_217 : decode cX10_readStatement 217 = .ok (.ifCond .eq 30, 3) := by decide +kernel
theorem dX10_readStatement_220 : decode cX10_readStatement 220 = .ok (.aload_n 0, 1) := by decide +kernel
theorem dX10_readStatement_221 : decode cX10_readStatement 221 = .ok (.bipush 32, 2) := by decide +kernel
theorem dX10_readStatement_223 : decode cX10_readStatement 223 = .ok (.aload_n 0, 1) := by decide +kernel
theorem dX10_readStatement_224 : decode cX10_readStatement 224 = .ok (.getfield 19, 3) := by decide +kernel
theorem dX10_readStatement_227 : decode cX10_readStatement 227 = .ok (.iconst 0, 1) := by decide +kernel
theorem dX10_readStatement_228 : decode cX10_readStatement 228 = .ok (.iaload, 1) := by decide +kernel
theorem dX10_readStatement_229 : decode cX10_readStatement 229 = .ok (.iadd, 1) := by decide +kernel
theorem dX10_readStatement_230 : decode cX10_readStatement 230 = .ok (.aload_n 0, 1) := by decide +kernel
theorem dX10_readStatement_231 : decode cX10_readStatement 231 = .ok (.getfield 19, 3) := by decide +kernel
theorem dX10_readStatement_234 : decode cX10_readStatement 234 = .ok (.iconst 1, 1) := by decide +kernel
theorem dX10_readStatement_235 : decode cX10_readStatement 235 = .ok (.iaload, 1) := by decide +kernel
theorem dX10_readStatement_236 : decode cX10_readStatement 236 = .ok (.iconst 1, 1) := by decide +kernel
theorem dX10_readStatement_237 : decode cX10_readStatement 237 = .ok (.invokevirtual 88, 3) := by decide +kernel
theorem dX10_readStatement_240 : decode cX10_readStatement 240 = .ok (.ifCond .eq 7, 3) := by decide +kernel
theorem dX10_readStatement_243 : decode cX10_readStatement 243 = .ok (.iconst 1, 1) := by decide +kernel
theorem dX10_readStatement_244 : decode cX10_readStatement 244 = .ok (.goto 4, 3) := by decide +kernel
theorem dX10_readStatement_247 : decode cX10_readStatement 247 = .ok (.iconst 0, 1) := by decide +kernel
theorem dX10_readStatement_248 : decode cX10_readStatement 248 = .ok (.ireturn, 1) := by decide +kernel
theorem dX10_readStatement_249 : decode cX10_readStatement 249 = .ok (.lload_n 1, 1) := by decide +kernel
theorem dX10_readStatement_250 : decode cX10_readStatement 250 = .ok (.ldc2_w 152, 3) := by decide +kernel
theorem dX10_readStatement_253 : decode cX10_readStatement 253 = .ok (.lcmp, 1) := by decide +kernel
theorem dX10_readStatement_254 : decode cX10_readStatement 254 = .ok (.ifCond .eq 13, 3) := by decide +kernel
theorem dX10_readStatement_257 : decode cX10_readStatement 257 = .ok (.aload_n 0, 1) := by decide +kernel
theorem dX10_readStatement_258 : decode cX10_readStatement 258 = .ok (.iconst 1, 1) := by decide +kernel
theorem dX10_readStatement_259 : decode cX10_readStatement 259 = .ok (.aload_n 0, 1) := by decide +kernel
theorem dX10_readStatement_260 : decode cX10_readStatement 260 = .ok (.getfield 128, 3) := by decide +kernel
theorem dX10_readStatement_263 : decode cX10_readStatement 263 = .ok (.invokevirtual 118, 3) := by decide +kernel
theorem dX10_readStatement_266 : decode cX10_readStatement 266 = .ok (.ireturn, 1) := by decide +kernel
theorem dX10_readStatement_267 : decode cX10_readStatement 267 = .ok (.aload_n 0, 1) := by decide +kernel
theorem dX10_readStatement_268 : decode cX10_readStatement 268 = .ok (.getfield 13, 3) := by decide +kernel
theorem dX10_readStatement_271 : decode cX10_readStatement 271 = .ok (.iconst 1, 1) := by decide +kernel
theorem dX10_readStatement_272 : decode cX10_readStatement 272 = .ok (.iaload, 1) := by decide +kernel
theorem dX10_readStatement_273 : decode cX10_readStatement 273 = .ok (.iconst 5, 1) := by decide +kernel
theorem dX10_readStatement_274 : decode cX10_readStatement 274 = .ok (.if_icmp .ne 13, 3) := by decide +kernel
theorem dX10_readStatement_277 : decode cX10_readStatement 277 = .ok (.aload_n 0, 1) := by decide +kernel
theorem dX10_readStatement_278 : decode cX10_readStatement 278 = .ok (.iconst 3, 1) := by decide +kernel
theorem dX10_readStatement_279 : decode cX10_readStatement 279 = .ok (.aload_n 0, 1) := by decide +kernel
theorem dX10_readStatement_280 : decode cX10_readStatement 280 = .ok (.getfield 128, 3) := by decide +kernel
theorem dX10_readStatement_283 : decode cX10_readStatement 283 = .ok (.invokevirtual 118, 3) := by decide +kernel
theorem dX10_readStatement_286 : decode cX10_readStatement 286 = .ok (.ireturn, 1) := by decide +kernel
theorem dX10_readStatement_287 : decode cX10_readStatement 287 = .ok (.aload_n 0, 1) := by decide +kernel
theorem dX10_readStatement_288 : decode cX10_readStatement 288 = .ok (.iconst 0, 1) := by decide +kernel
theorem dX10_readStatement_289 : decode cX10_readStatement 289 = .ok (.iconst 0, 1) := by decide +kernel
theorem dX10_readStatement_290 : decode cX10_readStatement 290 = .ok (.bipush 20, 2) := by decide +kernel
theorem dX10_readStatement_292 : decode cX10_readStatement 292 = .ok (.invokevirtual 145, 3) := by decide +kernel
theorem dX10_readStatement_295 : decode cX10_readStatement 295 = .ok (.ifCond .eq 41, 3) := by decide +kernel
theorem dX10_readStatement_298 : decode cX10_readStatement 298 = .ok (.aload_n 0, 1) := by decide +kernel
theorem dX10_readStatement_299 : decode cX10_readStatement 299 = .ok (.iconst 1, 1) := by decide +kernel
theorem dX10_readStatement_300 : decode cX10_readStatement 300 = .ok (.iconst 1, 1) := by decide +kernel
theorem dX10_readStatement_301 : decode cX10_readStatement 301 = .ok (.bipush 40, 2) := by decide +kernel
theorem dX10_readStatement_303 : decode cX10_readStatement 303 = .ok (.invokevirtual 145, 3) := by decide +kernel
theorem dX10_readStatement_306 : decode cX10_readStatement 306 = .ok (.ifCond .eq 30, 3) := by decide +kernel
theorem dX10_readStatement_309 : decode cX10_readStatement 309 = .ok (.aload_n 0, 1) := by decide +kernel
theorem dX10_readStatement_310 : decode cX10_readStatement 310 = .ok (.iconst 2, 1) := by decide +kernel
theorem dX10_readStatement_311 : decode cX10_readStatement 311 = .ok (.iconst 1, 1) := by decide +kernel
theorem dX10_readStatement_312 : decode cX10_readStatement 312 = .ok (.aload_n 0, 1) := by decide +kernel
theorem dX10_readStatement_313 : decode cX10_readStatement 313 = .ok (.getfield 13, 3) := by decide +kernel
theorem dX10_readStatement_316 : decode cX10_readStatement 316 = .ok (.iconst 0, 1) := by decide +kernel
theorem dX10_readStatement_317 : decode cX10_readStatement 317 = .ok (.iaload, 1) := by decide +kernel
theorem dX10_readStatement_318 : decode cX10_readStatement 318 = .ok (.invokevirtual 145, 3) := by decide +kernel
theorem dX10_readStatement_321 : decode cX10_readStatement 321 = .ok (.ifCond .eq 15, 3) := by decide +kernel
theorem dX10_readStatement_324 : decode cX10_readStatement 324 = .ok (.aload_n 0, 1) := by decide +kernel
theorem dX10_readStatement_325 : decode cX10_readStatement 325 = .ok (.iconst 3, 1) := by decide +kernel
theorem dX10_readStatement_326 : decode cX10_readStatement 326 = .ok (.iconst 1, 1) := by decide +kernel
theorem dX10_readStatement_327 : decode cX10_readStatement 327 = .ok (.sipush 200, 3) := by decide +kernel
theorem dX10_readStatement_330 : decode cX10_readStatement 330 = .ok (.invokevirtual 145, 3) := by decide +kernel
theorem dX10_readStatement_333 : decode cX10_readStatement 333 = .ok (.ifCond .ne 5, 3) := by decide +kernel
theorem dX10_readStatement_336 : decode cX10_readStatement 336 = .ok (.iconst 0, 1) := by decide +kernel
theorem dX10_readStatement_337 : decode cX10_readStatement 337 = .ok (.ireturn, 1) := by decide +kernel
theorem dX10_readStatement_338 : decode cX10_readStatement 338 = .ok (.aload_n 0, 1) := by decide +kernel
theorem dX10_readStatement_339 : decode cX10_readStatement 339 = .ok (.aload_n 0, 1) := by decide +kernel
theorem dX10_readStatement_340 : decode cX10_readStatement 340 = .ok (.getfield 19, 3) := by decide +kernel
theorem dX10_readStatement_343 : decode cX10_readStatement 343 = .ok (.iconst 0, 1) := by decide +kernel
theorem dX10_readStatement_344 : decode cX10_readStatement 344 = .ok (.iaload, 1) := by decide +kernel
theorem dX10_readStatement_345 : decode cX10_readStatement 345 = .ok (.aload_n 0, 1) := by decide +kernel
theorem dX10_readStatement_346 : decode cX10_readStatement 346 = .ok (.getfield 19, 3) := by decide +kernel
theorem dX10_readStatement_349 : decode cX10_readStatement 349 = .ok (.iconst 1, 1) := by decide +kernel
theorem dX10_readStatement_350 : decode cX10_readStatement 350 = .ok (.iaload, 1) := by decide +kernel
theorem dX10_readStatement_351 : decode cX10_readStatement 351 = .ok (.aload_n 0, 1) := by decide +kernel
theorem dX10_readStatement_352 : decode cX10_readStatement 352 = .ok (.getfield 19, 3) := by decide +kernel
theorem dX10_readStatement_355 : decode cX10_readStatement 355 = .ok (.iconst 2, 1) := by decide +kernel
theorem dX10_readStatement_356 : decode cX10_readStatement 356 = .ok (.iaload, 1) := by decide +kernel
theorem dX10_readStatement_357 : decode cX10_readStatement 357 = .ok (.aload_n 0, 1) := by decide +kernel
theorem dX10_readStatement_358 : decode cX10_readStatement 358 = .ok (.getfield 19, 3) := by decide +kernel
theorem dX10_readStatement_361 : decode cX10_readStatement 361 = .ok (.iconst 3, 1) := by decide +kernel
theorem dX10_readStatement_362 : decode cX10_readStatement 362 = .ok (.iaload, 1) := by decide +kernel
theorem dX10_readStatement_363 : decode cX10_readStatement 363 = .ok (.invokevirtual 92, 3) := by decide +kernel
theorem dX10_readStatement_366 : decode cX10_readStatement 366 = .ok (.iconst 1, 1) := by decide +kernel
theorem dX10_readStatement_367 : decode cX10_readStatement 367 = .ok (.ireturn, 1) := by decide +kernel
theorem dX10_readText_0 : decode cX10_readText 0 = .ok (.aload_n 0, 1) := by decide +kernel
theorem dX10_readText_1 : decode cX10_readText 1 = .ok (.iconst 0, 1) := by decide +kernel
theorem dX10_readText_2 : decode cX10_readText 2 = .ok (.putfield 154, 3) := by decide +kernel
theorem dX10_readText_5 : decode cX10_readText 5 = .ok (.aload_n 0, 1) := by decide +kernel
theorem dX10_readText_6 : decode cX10_readText 6 = .ok (.invokevirtual 114, 3) := by decide +kernel
theorem dX10_readText_9 : decode cX10_readText 9 = .ok (.iconst (-1), 1) := by decide +kernel
theorem dX10_readText_10 : decode cX10_readText 10 = .ok (.if_icmp .eq 54, 3) := by decide +kernel
theorem dX10_readText_13 : decode cX10_readText 13 = .ok (.aload_n 0, 1) := by decide +kernel
theorem dX10_readText_14 : decode cX10_readText 14 = .ok (.invokevirtual 157, 3) := by decide +kernel
theorem dX10_readText_17 : decode cX10_readText 17 = .ok (.ifCond .ne 5, 3) := by decide +kernel
theorem dX10_readText_20 : decode cX10_readText 20 = .ok (.iconst 0, 1) := by decide +kernel
theorem dX10_readText_21 : decode cX10_readText 21 = .ok (.ireturn, 1) := by decide +kernel
theorem dX10_readText_22 : decode cX10_readText 22 = .ok (.aload_n 0, 1) := by decide +kernel
theorem dX10_readText_23 : decode cX10_readText 23 = .ok (.invokevirtual 114, 3) := by decide +kernel
theorem dX10_readText_26 : decode cX10_readText 26 = .ok (.bipush 59, 2) := by decide +kernel
theorem dX10_readText_28 : decode cX10_readText 28 = .ok (.if_icmp .eq 13, 3) := by decide +kernel
theorem dX10_readText_31 : decode cX10_readText 31 = .ok (.aload_n 0, 1) := by decide +kernel
theorem dX10_readText_32 : decode cX10_readText 32 = .ok (.iconst 1, 1) := by decide +kernel
theorem dX10_readText_33 : decode cX10_readText 33 = .ok (.aload_n 0, 1) := by decide +kernel
theorem dX10_readText_34 : decode cX10_readText 34 = .ok (.getfield 108, 3) := by decide +kernel
theorem dX10_readText_37 : decode cX10_readText 37 = .ok (.invokevirtual 118, 3) := by decide +kernel
theorem dX10_readText_40 : decode cX10_readText 40 = .ok (.ireturn, 1) := by decide +kernel
theorem dX10_readText_41 : decode cX10_readText 41 = .ok (.aload_n 0, 1) := by decide +kernel
theorem dX10_readText_42 : decode cX10_readText 42 = .ok (.dup, 1) := by decide +kernel
theorem dX10_readText_43 : decode cX10_readText 43 = .ok (.getfield 108, 3) := by decide +kernel
theorem dX10_readText_46 : decode cX10_readText 46 = .ok (.iconst 1, 1) := by decide +kernel
theorem dX10_readText_47 : decode cX10_readText 47 = .ok (.iadd, 1) := by decide +kernel
theorem dX10_readText_48 : decode cX10_readText 48 = .ok (.putfield 108, 3) := by decide +kernel
theorem dX10_readText_51 : decode cX10_readText 51 = .ok (.aload_n 0, 1) := by decide +kernel
theorem dX10_readText_52 : decode cX10_readText 52 = .ok (.dup, 1) := by decide +kernel
theorem dX10_readText_53 : decode cX10_readText 53 = .ok (.getfield 154, 3) := by decide +kernel
theorem dX10_readText_56 : decode cX10_readText 56 = .ok (.iconst 1, 1) := by decide +kernel
theorem dX10_readText_57 : decode cX10_readText 57 = .ok (.iadd, 1) := by decide +kernel
theorem dX10_readText_58 : decode cX10_readText 58 = .ok (.putfield 154, 3) := by decide +kernel
theorem dX10_readText_61 : decode cX10_readText 61 = .ok (.goto (-56), 3) := by decide +kernel
theorem dX10_readText_64 : decode cX10_readText 64 = .ok (.iconst 1, 1) := by decide +kernel
theorem dX10_readText_65 : decode cX10_readText 65 = .ok (.ireturn, 1) := by decide +kernel
theorem dX10_tell_0 : decode cX10_tell 0 = .ok (.aload_n 0, 1) := by decide +kernel
theorem dX10_tell_1 : decode cX10_tell 1 = .ok (.iconst 0, 1) := by decide +kernel
theorem dX10_tell_2 : decode cX10_tell 2 = .ok (.putfield 65, 3) := by decide +kernel
theorem dX10_tell_5 : decode cX10_tell 5 = .ok (.aload_n 0, 1) := by decide +kernel
theorem dX10_tell_6 : decode cX10_tell 6 = .ok (.invokevirtual 81, 3) := by decide +kernel
theorem dX10_tell_9 : decode cX10_tell 9 = .ok (.aload_n 0, 1) := by decide +kernel
theorem dX10_tell_10 : decode cX10_tell 10 = .ok (.iconst 0, 1) := by decide +kernel
theorem dX10_tell_11 : decode cX10_tell 11 = .ok (.putfield 108, 3) := by decide +kernel
theorem dX10_tell_14 : decode cX10_tell 14 = .ok (.aload_n 0, 1) := by decide +kernel
theorem dX10_tell_15 : decode cX10_tell 15 = .ok (.iconst 0, 1) := by decide +kernel
theorem dX10_tell_16 : decode cX10_tell 16 = .ok (.putfield 111, 3) := by decide +kernel
theorem dX10_tell_19 : decode cX10_tell 19 = .ok (.aload_n 0, 1) := by decide +kernel
theorem dX10_tell_20 : decode cX10_tell 20 = .ok (.invokevirtual 161, 3) := by decide +kernel
theorem dX10_tell_23 : decode cX10_tell 23 = .ok (.istore_n 1, 1) := by decide +kernel
theorem dX10_tell_24 : decode cX10_tell 24 = .ok (.aload_n 0, 1) := by decide +kernel
theorem dX10_tell_25 : decode cX10_tell 25 = .ok (.iconst 0, 1) := by decide +kernel
theorem dX10_tell_26 : decode cX10_tell 26 = .ok (.putfield 102, 3) := by decide +kernel
theorem dX10_tell_29 : decode cX10_tell 29 = .ok (.aload_n 0, 1) := by decide +kernel
theorem dX10_tell_30 : decode cX10_tell 30 = .ok (.aload_n 0, 1) := by decide +kernel
theorem dX10_tell_31 : decode cX10_tell 31 = .ok (.getfield 111, 3) := by decide +kernel
theorem dX10_tell_34 : decode cX10_tell 34 = .ok (.putfield 164, 3) := by decide +kernel
theorem dX10_tell_37 : decode cX10_tell 37 = .ok (.aload_n 0, 1) := by decide +kernel
theorem dX10_tell_38 : decode cX10_tell 38 = .ok (.iload_n 1, 1) := by decide +kernel
theorem dX10_tell_39 : decode cX10_tell 39 = .ok (.invokevirtual 77, 3) := by decide +kernel
theorem dX10_tell_42 : decode cX10_tell 42 = .ok (.ifCond .eq 10, 3) := by decide +kernel
theorem dX10_tell_45 : decode cX10_tell 45 = .ok (.aload_n 0, 1) := by decide +kernel
theorem dX10_tell_46 : decode cX10_tell 46 = .ok (.getfield 154, 3) := by decide +kernel
theorem dX10_tell_49 : decode cX10_tell 49 = .ok (.goto 4, 3) := by decide +kernel
theorem dX10_tell_52 : decode cX10_tell 52 = .ok (.iconst (-1), 1) := by decide +kernel
theorem dX10_tell_53 : decode cX10_tell 53 = .ok (.ireturn, 1) := by decide +kernel
theorem dX10_fault_0 : decode cX10_fault 0 = .ok (.aload_n 0, 1) := by decide +kernel
theorem dX10_fault_1 : decode cX10_fault 1 = .ok (.iconst 0, 1) := by decide +kernel
theorem dX10_fault_2 : decode cX10_fault 2 = .ok (.putfield 65, 3) := by decide +kernel
theorem dX10_fault_5 : decode cX10_fault 5 = .ok (.aload_n 0, 1) := by decide +kernel
theorem dX10_fault_6 : decode cX10_fault 6 = .ok (.getfield 164, 3) := by decide +kernel
theorem dX10_fault_9 : decode cX10_fault 9 = .ok (.ireturn, 1) := by decide +kernel
theorem dX10_yields_0 : decode cX10_yields 0 = .ok (.aload_n 0, 1) := by decide +kernel
theorem dX10_yields_1 : decode cX10_yields 1 = .ok (.getfield 7, 3) := by decide +kernel
theorem dX10_yields_4 : decode cX10_yields 4 = .ok (.bipush 37, 2) := by decide +kernel
theorem dX10_yields_6 : decode cX10_yields 6 = .ok (.iload_n 1, 1) := by decide +kernel
theorem dX10_yields_7 : decode cX10_yields 7 = .ok (.iadd, 1) := by decide +kernel
theorem dX10_yields_8 : decode cX10_yields 8 = .ok (.iaload, 1) := by decide +kernel
theorem dX10_yields_9 : decode cX10_yields 9 = .ok (.ifCond .le 15, 3) := by decide +kernel
theorem dX10_yields_12 : decode cX10_yields 12 = .ok (.aload_n 0, 1) := by decide +kernel
theorem dX10_yields_13 : decode cX10_yields 13 = .ok (.getfield 7, 3) := by decide +kernel
theorem dX10_yields_16 : decode cX10_yields 16 = .ok (.bipush 37, 2) := by decide +kernel
theorem dX10_yields_18 : decode cX10_yields 18 = .ok (.iload_n 1, 1) := by decide +kernel
theorem dX10_yields_19 : decode cX10_yields 19 = .ok (.iadd, 1) := by decide +kernel
theorem dX10_yields_20 : decode cX10_yields 20 = .ok (.iaload, 1) := by decide +kernel
theorem dX10_yields_21 : decode cX10_yields 21 = .ok (.goto 12, 3) := by decide +kernel
theorem dX10_yields_24 : decode cX10_yields 24 = .ok (.aload_n 0, 1) := by decide +kernel
theorem dX10_yields_25 : decode cX10_yields 25 = .ok (.getfield 7, 3) := by decide +kernel
theorem dX10_yields_28 : decode cX10_yields 28 = .ok (.bipush 22, 2) := by decide +kernel
theorem dX10_yields_30 : decode cX10_yields 30 = .ok (.iload_n 1, 1) := by decide +kernel
theorem dX10_yields_31 : decode cX10_yields 31 = .ok (.iadd, 1) := by decide +kernel
theorem dX10_yields_32 : decode cX10_yields 32 = .ok (.iaload, 1) := by decide +kernel
theorem dX10_yields_33 : decode cX10_yields 33 = .ok (.istore_n 3, 1) := by decide +kernel
theorem dX10_yields_34 : decode cX10_yields 34 = .ok (.iload_n 2, 1) := by decide +kernel
theorem dX10_yields_35 : decode cX10_yields 35 = .ok (.iload_n 3, 1) := by decide +kernel
theorem dX10_yields_36 : decode cX10_yields 36 = .ok (.if_icmp .le 7, 3) := by decide +kernel
theorem dX10_yields_39 : decode cX10_yields 39 = .ok (.iconst 0, 1) := by decide +kernel
theorem dX10_yields_40 : decode cX10_yields 40 = .ok (.goto 31, 3) := by decide +kernel
theorem dX10_yields_43 : decode cX10_yields 43 = .ok (.aload_n 0, 1) := by decide +kernel
theorem dX10_yields_44 : decode cX10_yields 44 = .ok (.getfield 7, 3) := by decide +kernel
theorem dX10_yields_47 : decode cX10_yields 47 = .ok (.bipush 12, 2) := by decide +kernel
theorem dX10_yields_49 : decode cX10_yields 49 = .ok (.iload_n 1, 1) := by decide +kernel
theorem dX10_yields_50 : decode cX10_yields 50 = .ok (.iadd, 1) := by decide +kernel
theorem dX10_yields_51 : decode cX10_yields 51 = .ok (.iaload, 1) := by decide +kernel
theorem dX10_yields_52 : decode cX10_yields 52 = .ok (.iload_n 2, 1) := by decide +kernel
theorem dX10_yields_53 : decode cX10_yields 53 = .ok (.iload_n 3, 1) := by decide +kernel
theorem dX10_yields_54 : decode cX10_yields 54 = .ok (.if_icmp .ne 15, 3) := by decide +kernel
theorem dX10_yields_57 : decode cX10_yields 57 = .ok (.aload_n 0, 1) := by decide +kernel
theorem dX10_yields_58 : decode cX10_yields 58 = .ok (.getfield 7, 3) := by decide +kernel
theorem dX10_yields_61 : decode cX10_yields 61 = .ok (.bipush 17, 2) := by decide +kernel
theorem dX10_yields_63 : decode cX10_yields 63 = .ok (.iload_n 1, 1) := by decide +kernel
theorem dX10_yields_64 : decode cX10_yields 64 = .ok (.iadd, 1) := by decide +kernel
theorem dX10_yields_65 : decode cX10_yields 65 = .ok (.iaload, 1) := by decide +kernel
theorem dX10_yields_66 : decode cX10_yields 66 = .ok (.goto 4, 3) := by decide +kernel
theorem dX10_yields_69 : decode cX10_yields 69 = .ok (.iconst 0, 1) := by decide +kernel
theorem dX10_yields_70 : decode cX10_yields 70 = .ok (.iadd, 1) := by decide +kernel
theorem dX10_yields_71 : decode cX10_yields 71 = .ok (.ireturn, 1) := by decide +kernel
theorem dX10_count_0 : decode cX10_count 0 = .ok (.aload_n 0, 1) := by decide +kernel
theorem dX10_count_1 : decode cX10_count 1 = .ok (.iconst 0, 1) := by decide +kernel
theorem dX10_count_2 : decode cX10_count 2 = .ok (.putfield 65, 3) := by decide +kernel
theorem dX10_count_5 : decode cX10_count 5 = .ok (.iload_n 1, 1) := by decide +kernel
theorem dX10_count_6 : decode cX10_count 6 = .ok (.tableswitch 54 0 3 #[30, 37, 44, 49], 30) := by decide +kernel
theorem dX10_count_36 : decode cX10_count 36 = .ok (.aload_n 0, 1) := by decide +kernel
theorem dX10_count_37 : decode cX10_count 37 = .ok (.getfield 7, 3) := by decide +kernel
theorem dX10_count_40 : decode cX10_count 40 = .ok (.iconst 0, 1) := by decide +kernel
theorem dX10_count_41 : decode cX10_count 41 = .ok (.iaload, 1) := by decide +kernel
theorem dX10_count_42 : decode cX10_count 42 = .ok (.ireturn, 1) := by decide +kernel
theorem dX10_count_43 : decode cX10_count 43 = .ok (.aload_n 0, 1) := by decide +kernel
theorem dX10_count_44 : decode cX10_count 44 = .ok (.getfield 7, 3) := by decide +kernel
theorem dX10_count_47 : decode cX10_count 47 = .ok (.iconst 1, 1) := by decide +kernel
theorem dX10_count_48 : decode cX10_count 48 = .ok (.iaload, 1) := by decide +kernel
theorem dX10_count_49 : decode cX10_count 49 = .ok (.ireturn, 1) := by decide +kernel
theorem dX10_count_50 : decode cX10_count 50 = .ok (.aload_n 0, 1) := by decide +kernel
theorem dX10_count_51 : decode cX10_count 51 = .ok (.getfield 102, 3) := by decide +kernel
theorem dX10_count_54 : decode cX10_count 54 = .ok (.ireturn, 1) := by decide +kernel
theorem dX10_count_55 : decode cX10_count 55 = .ok (.aload_n 0, 1) := by decide +kernel
theorem dX10_count_56 : decode cX10_count 56 = .ok (.getfield 99, 3) := by decide +kernel
theorem dX10_count_59 : decode cX10_count 59 = .ok (.ireturn, 1) := by decide +kernel
theorem dX10_count_60 : decode cX10_count 60 = .ok (.iconst (-1), 1) := by decide +kernel
theorem dX10_count_61 : decode cX10_count 61 = .ok (.ireturn, 1) := by decide +kernel
theorem dX10_date_0 : decode cX10_date 0 = .ok (.aload_n 0, 1) := by decide +kernel
theorem dX10_date_1 : decode cX10_date 1 = .ok (.iconst 0, 1) := by decide +kernel
theorem dX10_date_2 : decode cX10_date 2 = .ok (.putfield 65, 3) := by decide +kernel
theorem dX10_date_5 : decode cX10_date 5 = .ok (.iload_n 1, 1) := by decide +kernel
theorem dX10_date_6 : decode cX10_date 6 = .ok (.iconst 1, 1) := by decide +kernel
theorem dX10_date_7 : decode cX10_date 7 = .ok (.aload_n 0, 1) := by decide +kernel
theorem dX10_date_8 : decode cX10_date 8 = .ok (.getfield 7, 3) := by decide +kernel
theorem dX10_date_11 : decode cX10_date 11 = .ok (.iconst 0, 1) := by decide +kernel
theorem dX10_date_12 : decode cX10_date 12 = .ok (.iaload, 1) := by decide +kernel
theorem dX10_date_13 : decode cX10_date 13 = .ok (.invokestatic 69, 3) := by decide +kernel
theorem dX10_date_16 : decode cX10_date 16 = .ok (.ifCond .eq 32, 3) := by decide +kernel
theorem dX10_date_19 : decode cX10_date 19 = .ok (.iload_n 2, 1) := by decide +kernel
theorem dX10_date_20 : decode cX10_date 20 = .ok (.iconst 0, 1) := by decide +kernel
theorem dX10_date_21 : decode cX10_date 21 = .ok (.iconst 1, 1) := by decide +kernel
theorem dX10_date_22 : decode cX10_date 22 = .ok (.invokestatic 69, 3) := by decide +kernel
theorem dX10_date_25 : decode cX10_date 25 = .ok (.ifCond .eq 23, 3) := by decide +kernel
theorem dX10_date_28 : decode cX10_date 28 = .ok (.aload_n 0, 1) := by decide +kernel
theorem dX10_date_29 : decode cX10_date 29 = .ok (.getfield 7, 3) := by decide +kernel
theorem dX10_date_32 : decode cX10_date 32 = .ok (.iload_n 2, 1) := by decide +kernel
theorem dX10_date_33 : decode cX10_date 33 = .ok (.ifCond .ne 7, 3) := by decide +kernel
theorem dX10_date_36 : decode cX10_date 36 = .ok (.iconst 2, 1) := by decide +kernel
theorem dX10_date_37 : decode cX10_date 37 = .ok (.goto 5, 3) := by decide +kernel
theorem dX10_date_40 : decode cX10_date 40 = .ok (.bipush 7, 2) := by decide +kernel
theorem dX10_date_42 : decode cX10_date 42 = .ok (.iload_n 1, 1) := by decide +kernel
theorem dX10_date_43 : decode cX10_date 43 = .ok (.iadd, 1) := by decide +kernel
theorem dX10_date_44 : decode cX10_date 44 = .ok (.iaload, 1) := by decide +kernel
theorem dX10_date_45 : decode cX10_date 45 = .ok (.goto 4, 3) := by decide +kernel
theorem dX10_date_48 : decode cX10_date 48 = .ok (.iconst (-1), 1) := by decide +kernel
theorem dX10_date_49 : decode cX10_date 49 = .ok (.ireturn, 1) := by decide +kernel
theorem dX10_told_0 : decode cX10_told 0 = .ok (.iload_n 1, 1) := by decide +kernel
theorem dX10_told_1 : decode cX10_told 1 = .ok (.iconst 0, 1) := by decide +kernel
theorem dX10_told_2 : decode cX10_told 2 = .ok (.aload_n 0, 1) := by decide +kernel
theorem dX10_told_3 : decode cX10_told 3 = .ok (.getfield 7, 3) := by decide +kernel
theorem dX10_told_6 : decode cX10_told 6 = .ok (.iconst 1, 1) := by decide +kernel
theorem dX10_told_7 : decode cX10_told 7 = .ok (.iaload, 1) := by decide +kernel
theorem dX10_told_8 : decode cX10_told 8 = .ok (.iconst 1, 1) := by decide +kernel
theorem dX10_told_9 : decode cX10_told 9 = .ok (.isub, 1) := by decide +kernel
theorem dX10_told_10 : decode cX10_told 10 = .ok (.invokestatic 69, 3) := by decide +kernel
theorem dX10_told_13 : decode cX10_told 13 = .ok (.istore_n 3, 1) := by decide +kernel
theorem dX10_told_14 : decode cX10_told 14 = .ok (.aload_n 0, 1) := by decide +kernel
theorem dX10_told_15 : decode cX10_told 15 = .ok (.iload_n 3, 1) := by decide +kernel
theorem dX10_told_16 : decode cX10_told 16 = .ok (.ifCond .eq 35, 3) := by decide +kernel
theorem dX10_told_19 : decode cX10_told 19 = .ok (.iload_n 2, 1) := by decide +kernel
theorem dX10_told_20 : decode cX10_told 20 = .ok (.iconst 0, 1) := by decide +kernel
theorem dX10_told_21 : decode cX10_told 21 = .ok (.bipush 6, 2) := by decide +kernel
theorem dX10_told_23 : decode cX10_told 23 = .ok (.invokestatic 69, 3) := by decide +kernel
theorem dX10_told_26 : decode cX10_told 26 = .ok (.ifCond .ne 21, 3) := by decide +kernel
theorem dX10_told_29 : decode cX10_told 29 = .ok (.iload_n 2, 1) := by decide +kernel
theorem dX10_told_30 : decode cX10_told 30 = .ok (.bipush 11, 2) := by decide +kernel
theorem dX10_told_32 : decode cX10_told 32 = .ok (.bipush 10, 2) := by decide +kernel
theorem dX10_told_34 : decode cX10_told 34 = .ok (.aload_n 0, 1) := by decide +kernel
theorem dX10_told_35 : decode cX10_told 35 = .ok (.getfield 7, 3) := by decide +kernel
theorem dX10_told_38 : decode cX10_told 38 = .ok (.iconst 0, 1) := by decide +kernel
theorem dX10_told_39 : decode cX10_told 39 = .ok (.iaload, 1) := by decide +kernel
theorem dX10_told_40 : decode cX10_told 40 = .ok (.iadd, 1) := by decide +kernel
theorem dX10_told_41 : decode cX10_told 41 = .ok (.invokestatic 69, 3) := by decide +kernel
theorem dX10_told_44 : decode cX10_told 44 = .ok (.ifCond .eq 7, 3) := by decide +kernel
theorem dX10_told_47 : decode cX10_told 47 = .ok (.iconst 0, 1) := by decide +kernel
theorem dX10_told_48 : decode cX10_told 48 = .ok (.goto 4, 3) := by decide +kernel
theorem dX10_told_51 : decode cX10_told 51 = .ok (.iconst 1, 1) := by decide +kernel
theorem dX10_told_52 : decode cX10_told 52 = .ok (.putfield 65, 3) := by decide +kernel
theorem dX10_told_55 : decode cX10_told 55 = .ok (.aload_n 0, 1) := by decide +kernel
theorem dX10_told_56 : decode cX10_told 56 = .ok (.getfield 65, 3) := by decide +kernel
theorem dX10_told_59 : decode cX10_told 59 = .ok (.ifCond .le 5, 3) := by decide +kernel
theorem dX10_told_62 : decode cX10_told 62 = .ok (.iconst 0, 1) := by decide +kernel
theorem dX10_told_63 : decode cX10_told 63 = .ok (.ireturn, 1) := by decide +kernel
theorem dX10_told_64 : decode cX10_told 64 = .ok (.iload_n 2, 1) := by decide +kernel
theorem dX10_told_65 : decode cX10_told 65 = .ok (.bipush 10, 2) := by decide +kernel
theorem dX10_told_67 : decode cX10_told 67 = .ok (.if_icmp .le 15, 3) := by decide +kernel
theorem dX10_told_70 : decode cX10_told 70 = .ok (.aload_n 0, 1) := by decide +kernel
theorem dX10_told_71 : decode cX10_told 71 = .ok (.iload_n 1, 1) := by decide +kernel
theorem dX10_told_72 : decode cX10_told 72 = .ok (.iload_n 2, 1) := by decide +kernel
theorem dX10_told_73 : decode cX10_told 73 = .ok (.bipush 10, 2) := by decide +kernel
theorem dX10_told_75 : decode cX10_told 75 = .ok (.isub, 1) := by decide +kernel
theorem dX10_told_76 : decode cX10_told 76 = .ok (.invokevirtual 167, 3) := by decide +kernel
theorem dX10_told_79 : decode cX10_told 79 = .ok (.goto 16, 3) := by decide +kernel
theorem dX10_told_82 : decode cX10_told 82 = .ok (.aload_n 0, 1) := by decide +kernel
theorem dX10_told_83 : decode cX10_told 83 = .ok (.getfield 7, 3) := by decide +kernel
theorem dX10_told_86 : decode cX10_told 86 = .ok (.bipush 12, 2) := by decide +kernel
theorem dX10_told_88 : decode cX10_told 88 = .ok (.iconst 5, 1) := by decide +kernel
theorem dX10_told_89 : decode cX10_told 89 = .ok (.iload_n 2, 1) := by decide +kernel
theorem dX10_told_90 : decode cX10_told 90 = .ok (.imul, 1) := by decide +kernel
theorem dX10_told_91 : decode cX10_told 91 = .ok (.iadd, 1) := by decide +kernel
theorem dX10_told_92 : decode cX10_told 92 = .ok (.iload_n 1, 1) := by decide +kernel
theorem dX10_told_93 : decode cX10_told 93 = .ok (.iadd, 1) := by decide +kernel
theorem dX10_told_94 : decode cX10_told 94 = .ok (.iaload, 1) := by decide +kernel
theorem dX10_told_95 : decode cX10_told 95 = .ok (.ireturn, 1) := by decide +kernel
theorem dX10_divisor_0 : decode cX10_divisor 0 = .ok (.lload_n 0, 1) := by decide +kernel
theorem dX10_divisor_1 : decode cX10_divisor 1 = .ok (.lconst 0, 1) := by decide +kernel
theorem dX10_divisor_2 : decode cX10_divisor 2 = .ok (.lcmp, 1) := by decide +kernel
theorem dX10_divisor_3 : decode cX10_divisor 3 = .ok (.ifCond .ge 8, 3) := by decide +kernel
theorem dX10_divisor_6 : decode cX10_divisor 6 = .ok (.lload_n 0, 1) := by decide +kernel
theorem dX10_divisor_7 : decode cX10_divisor 7 = .ok (.lneg, 1) := by decide +kernel
theorem dX10_divisor_8 : decode cX10_divisor 8 = .ok (.goto 4, 3) := by decide +kernel
theorem dX10_divisor_11 : decode cX10_divisor 11 = .ok (.lload_n 0, 1) := by decide +kernel
theorem dX10_divisor_12 : decode cX10_divisor 12 = .ok (.lstore 4, 2) := by decide +kernel
theorem dX10_divisor_14 : decode cX10_divisor 14 = .ok (.lload_n 2, 1) := by decide +kernel
theorem dX10_divisor_15 : decode cX10_divisor 15 = .ok (.lstore 6, 2) := by decide +kernel
theorem dX10_divisor_17 : decode cX10_divisor 17 = .ok (.lload 6, 2) := by decide +kernel
theorem dX10_divisor_19 : decode cX10_divisor 19 = .ok (.lconst 0, 1) := by decide +kernel
theorem dX10_divisor_20 : decode cX10_divisor 20 = .ok (.lcmp, 1) := by decide +kernel
theorem dX10_divisor_21 : decode cX10_divisor 21 = .ok (.ifCond .eq 21, 3) := by decide +kernel
theorem dX10_divisor_24 : decode cX10_divisor 24 = .ok (.lload 4, 2) := by decide +kernel
theorem dX10_divisor_26 : decode cX10_divisor 26 = .ok (.lload 6, 2) := by decide +kernel
theorem dX10_divisor_28 : decode cX10_divisor 28 = .ok (.lrem, 1) := by decide +kernel
theorem dX10_divisor_29 : decode cX10_divisor 29 = .ok (.lstore 8, 2) := by decide +kernel
theorem dX10_divisor_31 : decode cX10_divisor 31 = .ok (.lload 6, 2) := by decide +kernel
theorem dX10_divisor_33 : decode cX10_divisor 33 = .ok (.lstore 4, 2) := by decide +kernel
theorem dX10_divisor_35 : decode cX10_divisor 35 = .ok (.lload 8, 2) := by decide +kernel
theorem dX10_divisor_37 : decode cX10_divisor 37 = .ok (.lstore 6, 2) := by decide +kernel
theorem dX10_divisor_39 : decode cX10_divisor 39 = .ok (.goto (-22), 3) := by decide +kernel
theorem dX10_divisor_42 : decode cX10_divisor 42 = .ok (.lload 4, 2) := by decide +kernel
theorem dX10_divisor_44 : decode cX10_divisor 44 = .ok (.lreturn, 1) := by decide +kernel
theorem dX10_tells_0 : decode cX10_tells 0 = .ok (.lload_n 0, 1) := by decide +kernel
theorem dX10_tells_1 : decode cX10_tells 1 = .ok (.lload_n 2, 1) := by decide +kernel
theorem dX10_tells_2 : decode cX10_tells 2 = .ok (.invokestatic 171, 3) := by decide +kernel
theorem dX10_tells_5 : decode cX10_tells 5 = .ok (.lstore 5, 2) := by decide +kernel
theorem dX10_tells_7 : decode cX10_tells 7 = .ok (.iload 4, 2) := by decide +kernel
theorem dX10_tells_9 : decode cX10_tells 9 = .ok (.ifCond .eq 10, 3) := by decide +kernel
theorem dX10_tells_12 : decode cX10_tells 12 = .ok (.lload_n 2, 1) := by decide +kernel
theorem dX10_tells_13 : decode cX10_tells 13 = .ok (.lload 5, 2) := by decide +kernel
theorem dX10_tells_15 : decode cX10_tells 15 = .ok (.ldiv, 1) := by decide +kernel
theorem dX10_tells_16 : decode cX10_tells 16 = .ok (.goto 7, 3) := by decide +kernel
theorem dX10_tells_19 : decode cX10_tells 19 = .ok (.lload_n 0, 1) := by decide +kernel
theorem dX10_tells_20 : decode cX10_tells 20 = .ok (.lload 5, 2) := by decide +kernel
theorem dX10_tells_22 : decode cX10_tells 22 = .ok (.ldiv, 1) := by decide +kernel
theorem dX10_tells_23 : decode cX10_tells 23 = .ok (.lreturn, 1) := by decide +kernel
theorem dX10_compares_0 : decode cX10_compares 0 = .ok (.lload_n 0, 1) := by decide +kernel
theorem dX10_compares_1 : decode cX10_compares 1 = .ok (.lstore 8, 2) := by decide +kernel
theorem dX10_compares_3 : decode cX10_compares 3 = .ok (.lload_n 2, 1) := by decide +kernel
theorem dX10_compares_4 : decode cX10_compares 4 = .ok (.lstore 10, 2) := by decide +kernel
theorem dX10_compares_6 : decode cX10_compares 6 = .ok (.lload 4, 2) := by decide +kernel
theorem dX10_compares_8 : decode cX10_compares 8 = .ok (.lstore 12, 2) := by decide +kernel
theorem dX10_compares_10 : decode cX10_compares 10 = .ok (.lload 6, 2) := by decide +kernel
theorem dX10_compares_12 : decode cX10_compares 12 = .ok (.lstore 14, 2) := by decide +kernel
theorem dX10_compares_14 : decode cX10_compares 14 = .ok (.iconst 1, 1) := by decide +kernel
theorem dX10_compares_15 : decode cX10_compares 15 = .ok (.istore 16, 2) := by decide +kernel
theorem dX10_compares_17 : decode cX10_compares 17 = .ok (.lload 8, 2) := by decide +kernel
theorem dX10_compares_19 : decode cX10_compares 19 = .ok (.lload 10, 2) := by decide +kernel
theorem dX10_compares_21 : decode cX10_compares 21 = .ok (.ldiv, 1) := by decide +kernel
theorem dX10_compares_22 : decode cX10_compares 22 = .ok (.lstore 17, 2) := by decide +kernel
theorem dX10_compares_24 : decode cX10_compares 24 = .ok (.lload 12, 2) := by decide +kernel
theorem dX10_compares_26 : decode cX10_compares 26 = .ok (.lload 14, 2) := by decide +kernel
theorem dX10_compares_28 : decode cX10_compares 28 = .ok (.ldiv, 1) := by decide +kernel
theorem dX10_compares_29 : decode cX10_compares 29 = .ok (.lstore 19, 2) := by decide +kernel
theorem dX10_compares_31 : decode cX10_compares 31 = .ok (.lload 17, 2) := by decide +kernel
theorem dX10_compares_33 : decode cX10_compares 33 = .ok (.lload 19, 2) := by decide +kernel
theorem dX10_compares_35 : decode cX10_compares 35 = .ok (.lcmp, 1) := by decide +kernel
theorem dX10_compares_36 : decode cX10_compares 36 = .ok (.ifCond .eq 20, 3) := by decide +kernel
theorem dX10_compares_39 : decode cX10_compares 39 = .ok (.lload 17, 2) := by decide +kernel
theorem dX10_compares_41 : decode cX10_compares 41 = .ok (.lload 19, 2) := by decide +kernel
theorem dX10_compares_43 : decode cX10_compares 43 = .ok (.lcmp, 1) := by decide +kernel
theorem dX10_compares_44 : decode cX10_compares 44 = .ok (.ifCond .ge 9, 3) := by decide +kernel
theorem dX10_compares_47 : decode cX10_compares 47 = .ok (.iload 16, 2) := by decide +kernel
theorem dX10_compares_49 : decode cX10_compares 49 = .ok (.ineg, 1) := by decide +kernel
theorem dX10_compares_50 : decode cX10_compares 50 = .ok (.goto 5, 3) := by decide +kernel
theorem dX10_compares_53 : decode cX10_compares 53 = .ok (.iload 16, 2) := by decide +kernel
theorem dX10_compares_55 : decode cX10_compares 55 = .ok (.ireturn, 1) := by decide +kernel
theorem dX10_compares_56 : decode cX10_compares 56 = .ok (.lload 8, 2) := by decide +kernel
theorem dX10_compares_58 : decode cX10_compares 58 = .ok (.lload 10, 2) := by decide +kernel
theorem dX10_compares_60 : decode cX10_compares 60 = .ok (.lrem, 1) := by decide +kernel
theorem dX10_compares_61 : decode cX10_compares 61 = .ok (.lstore 21, 2) := by decide +kernel
theorem dX10_compares_63 : decode cX10_compares 63 = .ok (.lload 12, 2) := by decide +kernel
theorem dX10_compares_65 : decode cX10_compares 65 = .ok (.lload 14, 2) := by decide +kernel
theorem dX10_compares_67 : decode cX10_compares 67 = .ok (.lrem, 1) := by decide +kernel
theorem dX10_compares_68 : decode cX10_compares 68 = .ok (.lstore 23, 2) := by decide +kernel
theorem dX10_compares_70 : decode cX10_compares 70 = .ok (.lload 21, 2) := by decide +kernel
theorem dX10_compares_72 : decode cX10_compares 72 = .ok (.lconst 0, 1) := by decide +kernel
theorem dX10_compares_73 : decode cX10_compares 73 = .ok (.lcmp, 1) := by decide +kernel
theorem dX10_compares_74 : decode cX10_compares 74 = .ok (.ifCond .eq 10, 3) := by decide +kernel
theorem dX10_compares_77 : decode cX10_compares 77 = .ok (.lload 23, 2) := by decide +kernel
theorem dX10_compares_79 : decode cX10_compares 79 = .ok (.lconst 0, 1) := by decide +kernel
theorem dX10_compares_80 : decode cX10_compares 80 = .ok (.lcmp, 1) := by decide +kernel
theorem dX10_compares_81 : decode cX10_compares 81 = .ok (.ifCond .ne 31, 3) := by decide +kernel
theorem dX10_compares_84 : decode cX10_compares 84 = .ok (.lload 21, 2) := by decide +kernel
theorem dX10_compares_86 : decode cX10_compares 86 = .ok (.lload 23, 2) := by decide +kernel
theorem dX10_compares_88 : decode cX10_compares 88 = .ok (.lcmp, 1) := by decide +kernel
theorem dX10_compares_89 : decode cX10_compares 89 = .ok (.ifCond .ne 7, 3) := by decide +kernel
theorem dX10_compares_92 : decode cX10_compares 92 = .ok (.iconst 0, 1) := by decide +kernel
theorem dX10_compares_93 : decode cX10_compares 93 = .ok (.goto 18, 3) := by decide +kernel
theorem dX10_compares_96 : decode cX10_compares 96 = .ok (.lload 21, 2) := by decide +kernel
theorem dX10_compares_98 : decode cX10_compares 98 = .ok (.lconst 0, 1) := by decide +kernel
theorem dX10_compares_99 : decode cX10_compares 99 = .ok (.lcmp, 1) := by decide +kernel
theorem dX10_compares_100 : decode cX10_compares 100 = .ok (.ifCond .ne 9, 3) := by decide +kernel
theorem dX10_compares_103 : decode cX10_compares 103 = .ok (.iload 16, 2) := by decide +kernel
theorem dX10_compares_105 : decode cX10_compares 105 = .ok (.ineg, 1) := by decide +kernel
theorem dX10_compares_106 : decode cX10_compares 106 = .ok (.goto 5, 3) := by decide +kernel
theorem dX10_compares_109 : decode cX10_compares 109 = .ok (.iload 16, 2) := by decide +kernel
theorem dX10_compares_111 : decode cX10_compares 111 = .ok (.ireturn, 1) := by decide +kernel
theorem dX10_compares_112 : decode cX10_compares 112 = .ok (.lload 10, 2) := by decide +kernel
theorem dX10_compares_114 : decode cX10_compares 114 = .ok (.lstore 8, 2) := by decide +kernel
theorem dX10_compares_116 : decode cX10_compares 116 = .ok (.lload 21, 2) := by decide +kernel
theorem dX10_compares_118 : decode cX10_compares 118 = .ok (.lstore 10, 2) := by decide +kernel
theorem dX10_compares_120 : decode cX10_compares 120 = .ok (.lload 14, 2) := by decide +kernel
theorem dX10_compares_122 : decode cX10_compares 122 = .ok (.lstore 12, 2) := by decide +kernel
theorem dX10_compares_124 : decode cX10_compares 124 = .ok (.lload 23, 2) := by decide +kernel
theorem dX10_compares_126 : decode cX10_compares 126 = .ok (.lstore 14, 2) := by decide +kernel
theorem dX10_compares_128 : decode cX10_compares 128 = .ok (.iload 16, 2) := by decide +kernel
theorem dX10_compares_130 : decode cX10_compares 130 = .ok (.ineg, 1) := by decide +kernel
theorem dX10_compares_131 : decode cX10_compares 131 = .ok (.istore 16, 2) := by decide +kernel
theorem dX10_compares_133 : decode cX10_compares 133 = .ok (.goto (-116), 3) := by decide +kernel
theorem dX10_two_0 : decode cX10_two 0 = .ok (.aload_n 0, 1) := by decide +kernel
theorem dX10_two_1 : decode cX10_two 1 = .ok (.getfield 22, 3) := by decide +kernel
theorem dX10_two_4 : decode cX10_two 4 = .ok (.iconst 4, 1) := by decide +kernel
theorem dX10_two_5 : decode cX10_two 5 = .ok (.iload_n 1, 1) := by decide +kernel
theorem dX10_two_6 : decode cX10_two 6 = .ok (.imul, 1) := by decide +kernel
theorem dX10_two_7 : decode cX10_two 7 = .ok (.iload_n 2, 1) := by decide +kernel
theorem dX10_two_8 : decode cX10_two 8 = .ok (.iadd, 1) := by decide +kernel
theorem dX10_two_9 : decode cX10_two 9 = .ok (.laload, 1) := by decide +kernel
theorem dX10_two_10 : decode cX10_two 10 = .ok (.aload_n 0, 1) := by decide +kernel
theorem dX10_two_11 : decode cX10_two 11 = .ok (.getfield 22, 3) := by decide +kernel
theorem dX10_two_14 : decode cX10_two 14 = .ok (.iconst 4, 1) := by decide +kernel
theorem dX10_two_15 : decode cX10_two 15 = .ok (.iload_n 1, 1) := by decide +kernel
theorem dX10_two_16 : decode cX10_two 16 = .ok (.imul, 1) := by decide +kernel
theorem dX10_two_17 : decode cX10_two 17 = .ok (.iconst 4, 1) := by decide +kernel
theorem dX10_two_18 : decode cX10_two 18 = .ok (.iadd, 1) := by decide +kernel
theorem dX10_two_19 : decode cX10_two 19 = .ok (.iload_n 3, 1) := by decide +kernel
theorem dX10_two_20 : decode cX10_two 20 = .ok (.iadd, 1) := by decide +kernel
theorem dX10_two_21 : decode cX10_two 21 = .ok (.laload, 1) := by decide +kernel
theorem dX10_two_22 : decode cX10_two 22 = .ok (.lmul, 1) := by decide +kernel
theorem dX10_two_23 : decode cX10_two 23 = .ok (.aload_n 0, 1) := by decide +kernel
theorem dX10_two_24 : decode cX10_two 24 = .ok (.getfield 22, 3) := by decide +kernel
theorem dX10_two_27 : decode cX10_two 27 = .ok (.iconst 4, 1) := by decide +kernel
theorem dX10_two_28 : decode cX10_two 28 = .ok (.iload_n 1, 1) := by decide +kernel
theorem dX10_two_29 : decode cX10_two 29 = .ok (.imul, 1) := by decide +kernel
theorem dX10_two_30 : decode cX10_two 30 = .ok (.iload_n 3, 1) := by decide +kernel
theorem dX10_two_31 : decode cX10_two 31 = .ok (.iadd, 1) := by decide +kernel
theorem dX10_two_32 : decode cX10_two 32 = .ok (.laload, 1) := by decide +kernel
theorem dX10_two_33 : decode cX10_two 33 = .ok (.aload_n 0, 1) := by decide +kernel
theorem dX10_two_34 : decode cX10_two 34 = .ok (.getfield 22, 3) := by decide +kernel
theorem dX10_two_37 : decode cX10_two 37 = .ok (.iconst 4, 1) := by decide +kernel
theorem dX10_two_38 : decode cX10_two 38 = .ok (.iload_n 1, 1) := by decide +kernel
theorem dX10_two_39 : decode cX10_two 39 = .ok (.imul, 1) := by decide +kernel
theorem dX10_two_40 : decode cX10_two 40 = .ok (.iconst 4, 1) := by decide +kernel
theorem dX10_two_41 : decode cX10_two 41 = .ok (.iadd, 1) := by decide +kernel
theorem dX10_two_42 : decode cX10_two 42 = .ok (.iload_n 2, 1) := by decide +kernel
theorem dX10_two_43 : decode cX10_two 43 = .ok (.iadd, 1) := by decide +kernel
theorem dX10_two_44 : decode cX10_two 44 = .ok (.laload, 1) := by decide +kernel
theorem dX10_two_45 : decode cX10_two 45 = .ok (.lmul, 1) := by decide +kernel
theorem dX10_two_46 : decode cX10_two 46 = .ok (.lsub, 1) := by decide +kernel
theorem dX10_two_47 : decode cX10_two 47 = .ok (.lreturn, 1) := by decide +kernel
theorem dX10_determinant_0 : decode cX10_determinant 0 = .ok (.aload_n 0, 1) := by decide +kernel
theorem dX10_determinant_1 : decode cX10_determinant 1 = .ok (.iconst 0, 1) := by decide +kernel
theorem dX10_determinant_2 : decode cX10_determinant 2 = .ok (.iconst 0, 1) := by decide +kernel
theorem dX10_determinant_3 : decode cX10_determinant 3 = .ok (.iconst 1, 1) := by decide +kernel
theorem dX10_determinant_4 : decode cX10_determinant 4 = .ok (.invokevirtual 175, 3) := by decide +kernel
theorem dX10_determinant_7 : decode cX10_determinant 7 = .ok (.aload_n 0, 1) := by decide +kernel
theorem dX10_determinant_8 : decode cX10_determinant 8 = .ok (.iconst 2, 1) := by decide +kernel
theorem dX10_determinant_9 : decode cX10_determinant 9 = .ok (.iconst 2, 1) := by decide +kernel
theorem dX10_determinant_10 : decode cX10_determinant 10 = .ok (.iconst 3, 1) := by decide +kernel
theorem dX10_determinant_11 : decode cX10_determinant 11 = .ok (.invokevirtual 175, 3) := by decide +kernel
theorem dX10_determinant_14 : decode cX10_determinant 14 = .ok (.lmul, 1) := by decide +kernel
theorem dX10_determinant_15 : decode cX10_determinant 15 = .ok (.aload_n 0, 1) := by decide +kernel
theorem dX10_determinant_16 : decode cX10_determinant 16 = .ok (.iconst 0, 1) := by decide +kernel
theorem dX10_determinant_17 : decode cX10_determinant 17 = .ok (.iconst 0, 1) := by decide +kernel
theorem dX10_determinant_18 : decode cX10_determinant 18 = .ok (.iconst 2, 1) := by decide +kernel
theorem dX10_determinant_19 : decode cX10_determinant 19 = .ok (.invokevirtual 175, 3) := by decide +kernel
theorem dX10_determinant_22 : decode cX10_determinant 22 = .ok (.aload_n 0, 1) := by decide +kernel
theorem dX10_determinant_23 : decode cX10_determinant 23 = .ok (.iconst 2, 1) := by decide +kernel
theorem dX10_determinant_24 : decode cX10_determinant 24 = .ok (.iconst 1, 1) := by decide +kernel
theorem dX10_determinant_25 : decode cX10_determinant 25 = .ok (.iconst 3, 1) := by decide +kernel
theorem dX10_determinant_26 : decode cX10_determinant 26 = .ok (.invokevirtual 175, 3) := by decide +kernel
theorem dX10_determinant_29 : decode cX10_determinant 29 = .ok (.lmul, 1) := by decide +kernel
theorem dX10_determinant_30 : decode cX10_determinant 30 = .ok (.lsub, 1) := by decide +kernel
theorem dX10_determinant_31 : decode cX10_determinant 31 = .ok (.aload_n 0, 1) := by decide +kernel
theorem dX10_determinant_32 : decode cX10_determinant 32 = .ok (.iconst 0, 1) := by decide +kernel
theorem dX10_determinant_33 : decode cX10_determinant 33 = .ok (.iconst 0, 1) := by decide +kernel
theorem dX10_determinant_34 : decode cX10_determinant 34 = .ok (.iconst 3, 1) := by decide +kernel
theorem dX10_determinant_35 : decode cX10_determinant 35 = .ok (.invokevirtual 175, 3) := by decide +kernel
theorem dX10_determinant_38 : decode cX10_determinant 38 = .ok (.aload_n 0, 1) := by decide +kernel
theorem dX10_determinant_39 : decode cX10_determinant 39 = .ok (.iconst 2, 1) := by decide +kernel
theorem dX10_determinant_40 : decode cX10_determinant 40 = .ok (.iconst 1, 1) := by decide +kernel
theorem dX10_determinant_41 : decode cX10_determinant 41 = .ok (.iconst 2, 1) := by decide +kernel
theorem dX10_determinant_42 : decode cX10_determinant 42 = .ok (.invokevirtual 175, 3) := by decide +kernel
theorem dX10_determinant_45 : decode cX10_determinant 45 = .ok (.lmul, 1) := by decide +kernel
theorem dX10_determinant_46 : decode cX10_determinant 46 = .ok (.ladd, 1) := by decide +kernel
theorem dX10_determinant_47 : decode cX10_determinant 47 = .ok (.aload_n 0, 1) := by decide +kernel
theorem dX10_determinant_48 : decode cX10_determinant 48 = .ok (.iconst 0, 1) := by decide +kernel
theorem dX10_determinant_49 : decode cX10_determinant 49 = .ok (.iconst 1, 1) := by decide +kernel
theorem dX10_determinant_50 : decode cX10_determinant 50 = .ok (.iconst 2, 1) := by decide +kernel
theorem dX10_determinant_51 : decode cX10_determinant 51 = .ok (.invokevirtual 175, 3) := by decide +kernel
theorem dX10_determinant_54 : decode cX10_determinant 54 = .ok (.aload_n 0, 1) := by decide +kernel
theorem dX10_determinant_55 : decode cX10_determinant 55 = .ok (.iconst 2, 1) := by decide +kernel
theorem dX10_determinant_56 : decode cX10_determinant 56 = .ok (.iconst 0, 1) := by decide +kernel
theorem dX10_determinant_57 : decode cX10_determinant 57 = .ok (.iconst 3, 1) := by decide +kernel
theorem dX10_determinant_58 : decode cX10_determinant 58 = .ok (.invokevirtual 175, 3) := by decide +kernel
theorem dX10_determinant_61 : decode cX10_determinant 61 = .ok (.lmul, 1) := by decide +kernel
theorem dX10_determinant_62 : decode cX10_determinant 62 = .ok (.ladd, 1) := by decide +kernel
theorem dX10_determinant_63 : decode cX10_determinant 63 = .ok (.aload_n 0, 1) := by decide +kernel
theorem dX10_determinant_64 : decode cX10_determinant 64 = .ok (.iconst 0, 1) := by decide +kernel
theorem dX10_determinant_65 : decode cX10_determinant 65 = .ok (.iconst 1, 1) := by decide +kernel
theorem dX10_determinant_66 : decode cX10_determinant 66 = .ok (.iconst 3, 1) := by decide +kernel
theorem dX10_determinant_67 : decode cX10_determinant 67 = .ok (.invokevirtual 175, 3) := by decide +kernel
theorem dX10_determinant_70 : decode cX10_determinant 70 = .ok (.aload_n 0, 1) := by decide +kernel
theorem dX10_determinant_71 : decode cX10_determinant 71 = .ok (.iconst 2, 1) := by decide +kernel
theorem dX10_determinant_72 : decode cX10_determinant 72 = .ok (.iconst 0, 1) := by decide +kernel
theorem dX10_determinant_73 : decode cX10_determinant 73 = .ok (.iconst 2, 1) := by decide +kernel
theorem dX10_determinant_74 : decode cX10_determinant 74 = .ok (.invokevirtual 175, 3) := by decide +kernel
theorem dX10_determinant_77 : decode cX10_determinant 77 = .ok (.lmul, 1) := by decide +kernel
theorem dX10_determinant_78 : decode cX10_determinant 78 = .ok (.lsub, 1) := by decide +kernel
theorem dX10_determinant_79 : decode cX10_determinant 79 = .ok (.aload_n 0, 1) := by decide +kernel
theorem dX10_determinant_80 : decode cX10_determinant 80 = .ok (.iconst 0, 1) := by decide +kernel
theorem dX10_determinant_81 : decode cX10_determinant 81 = .ok (.iconst 2, 1) := by decide +kernel
theorem dX10_determinant_82 : decode cX10_determinant 82 = .ok (.iconst 3, 1) := by decide +kernel
theorem dX10_determinant_83 : decode cX10_determinant 83 = .ok (.invokevirtual 175, 3) := by decide +kernel
theorem dX10_determinant_86 : decode cX10_determinant 86 = .ok (.aload_n 0, 1) := by decide +kernel
theorem dX10_determinant_87 : decode cX10_determinant 87 = .ok (.iconst 2, 1) := by decide +kernel
theorem dX10_determinant_88 : decode cX10_determinant 88 = .ok (.iconst 0, 1) := by decide +kernel
theorem dX10_determinant_89 : decode cX10_determinant 89 = .ok (.iconst 1, 1) := by decide +kernel
theorem dX10_determinant_90 : decode cX10_determinant 90 = .ok (.invokevirtual 175, 3) := by decide +kernel
theorem dX10_determinant_93 : decode cX10_determinant 93 = .ok (.lmul, 1) := by decide +kernel
theorem dX10_determinant_94 : decode cX10_determinant 94 = .ok (.ladd, 1) := by decide +kernel
theorem dX10_determinant_95 : decode cX10_determinant 95 = .ok (.lreturn, 1) := by decide +kernel
theorem dX10_laysColumns_0 : decode cX10_laysColumns 0 = .ok (.iconst 0, 1) := by decide +kernel
theorem dX10_laysColumns_1 : decode cX10_laysColumns 1 = .ok (.istore_n 2, 1) := by decide +kernel
theorem dX10_laysColumns_2 : decode cX10_laysColumns 2 = .ok (.iload_n 2, 1) := by decide +kernel
theorem dX10_laysColumns_3 : decode cX10_laysColumns 3 = .ok (.iconst 4, 1) := by decide +kernel
theorem dX10_laysColumns_4 : decode cX10_laysColumns 4 = .ok (.if_icmp .ge 110, 3) := by decide +kernel
theorem dX10_laysColumns_7 : decode cX10_laysColumns 7 = .ok (.iconst 0, 1) := by decide +kernel
theorem dX10_laysColumns_8 : decode cX10_laysColumns 8 = .ok (.istore_n 3, 1) := by decide +kernel
theorem dX10_laysColumns_9 : decode cX10_laysColumns 9 = .ok (.iload_n 3, 1) := by decide +kernel
theorem dX10_laysColumns_10 : decode cX10_laysColumns 10 = .ok (.iconst 4, 1) := by decide +kernel
theorem dX10_laysColumns_11 : decode cX10_laysColumns 11 = .ok (.if_icmp .ge 97, 3) := by decide +kernel
theorem dX10_laysColumns_14 : decode cX10_laysColumns 14 = .ok (.iload_n 2, 1) := by decide +kernel
theorem dX10_laysColumns_15 : decode cX10_laysColumns 15 = .ok (.aload_n 0, 1) := by decide +kernel
theorem dX10_laysColumns_16 : decode cX10_laysColumns 16 = .ok (.getfield 7, 3) := by decide +kernel
theorem dX10_laysColumns_19 : decode cX10_laysColumns 19 = .ok (.iconst 0, 1) := by decide +kernel
theorem dX10_laysColumns_20 : decode cX10_laysColumns 20 = .ok (.iaload, 1) := by decide +kernel
theorem dX10_laysColumns_21 : decode cX10_laysColumns 21 = .ok (.if_icmp .ge 7, 3) := by decide +kernel
theorem dX10_laysColumns_24 : decode cX10_laysColumns 24 = .ok (.iconst 1, 1) := by decide +kernel
theorem dX10_laysColumns_25 : decode cX10_laysColumns 25 = .ok (.goto 4, 3) := by decide +kernel
theorem dX10_laysColumns_28 : decode cX10_laysColumns 28 = .ok (.iconst 0, 1) := by decide +kernel
theorem dX10_laysColumns_29 : decode cX10_laysColumns 29 = .ok (.istore 4, 2) := by decide +kernel
theorem dX10_laysColumns_31 : decode cX10_laysColumns 31 = .ok (.aload_n 0, 1) := by decide +kernel
theorem dX10_laysColumns_32 : decode cX10_laysColumns 32 = .ok (.getfield 22, 3) := by decide +kernel
theorem dX10_laysColumns_35 : decode cX10_laysColumns 35 = .ok (.iconst 4, 1) := by decide +kernel
theorem dX10_laysColumns_36 : decode cX10_laysColumns 36 = .ok (.iload_n 3, 1) := by decide +kernel
theorem dX10_laysColumns_37 : decode cX10_laysColumns 37 = .ok (.imul, 1) := by decide +kernel
theorem dX10_laysColumns_38 : decode cX10_laysColumns 38 = .ok (.iload_n 2, 1) := by decide +kernel
theorem dX10_laysColumns_39 : decode cX10_laysColumns 39 = .ok (.iadd, 1) := by decide +kernel
theorem dX10_laysColumns_40 : decode cX10_laysColumns 40 = .ok (.iload_n 2, 1) := by decide +kernel
theorem dX10_laysColumns_41 : decode cX10_laysColumns 41 = .ok (.iload_n 1, 1) := by decide +kernel
theorem dX10_laysColumns_42 : decode cX10_laysColumns 42 = .ok (.if_icmp .ne 26, 3) := by decide +kernel
theorem dX10_laysColumns_45 : decode cX10_laysColumns 45 = .ok (.iload_n 3, 1) := by decide +kernel
theorem dX10_laysColumns_46 : decode cX10_laysColumns 46 = .ok (.aload_n 0, 1) := by decide +kernel
theorem dX10_laysColumns_47 : decode cX10_laysColumns 47 = .ok (.getfield 7, 3) := by decide +kernel
theorem dX10_laysColumns_50 : decode cX10_laysColumns 50 = .ok (.iconst 0, 1) := by decide +kernel
theorem dX10_laysColumns_51 : decode cX10_laysColumns 51 = .ok (.iaload, 1) := by decide +kernel
theorem dX10_laysColumns_52 : decode cX10_laysColumns 52 = .ok (.if_icmp .ge 12, 3) := by decide +kernel
theorem dX10_laysColumns_55 : decode cX10_laysColumns 55 = .ok (.aload_n 0, 1) := by decide +kernel
theorem dX10_laysColumns_56 : decode cX10_laysColumns 56 = .ok (.getfield 29, 3) := by decide +kernel
theorem dX10_laysColumns_59 : decode cX10_laysColumns 59 = .ok (.iload_n 3, 1) := by decide +kernel
theorem dX10_laysColumns_60 : decode cX10_laysColumns 60 = .ok (.laload, 1) := by decide +kernel
theorem dX10_laysColumns_61 : decode cX10_laysColumns 61 = .ok (.goto 40, 3) := by decide +kernel
theorem dX10_laysColumns_64 : decode cX10_laysColumns 64 = .ok (.lconst 0, 1) := by decide +kernel
theorem dX10_laysColumns_65 : decode cX10_laysColumns 65 = .ok (.goto 36, 3) := by decide +kernel
theorem dX10_laysColumns_68 : decode cX10_laysColumns 68 = .ok (.iload 4, 2) := by decide +kernel
theorem dX10_laysColumns_70 : decode cX10_laysColumns 70 = .ok (.ifCond .eq 21, 3) := by decide +kernel
theorem dX10_laysColumns_73 : decode cX10_laysColumns 73 = .ok (.aload_n 0, 1) := by decide +kernel
theorem dX10_laysColumns_74 : decode cX10_laysColumns 74 = .ok (.getfield 26, 3) := by decide +kernel
theorem dX10_laysColumns_77 : decode cX10_laysColumns 77 = .ok (.iconst 4, 1) := by decide +kernel
theorem dX10_laysColumns_78 : decode cX10_laysColumns 78 = .ok (.aload_n 0, 1) := by decide +kernel
theorem dX10_laysColumns_79 : decode cX10_laysColumns 79 = .ok (.getfield 32, 3) := by decide +kernel
theorem dX10_laysColumns_82 : decode cX10_laysColumns 82 = .ok (.iload_n 2, 1) := by decide +kernel
theorem dX10_laysColumns_83 : decode cX10_laysColumns 83 = .ok (.iaload, 1) := by decide +kernel
theorem dX10_laysColumns_84 : decode cX10_laysColumns 84 = .ok (.imul, 1) := by decide +kernel
theorem dX10_laysColumns_85 : decode cX10_laysColumns 85 = .ok (.iload_n 3, 1) := by decide +kernel
theorem dX10_laysColumns_86 : decode cX10_laysColumns 86 = .ok (.iadd, 1) := by decide +kernel
theorem dX10_laysColumns_87 : decode cX10_laysColumns 87 = .ok (.laload, 1) := by decide +kernel
theorem dX10_laysColumns_88 : decode cX10_laysColumns 88 = .ok (.goto 13, 3) := by decide +kernel
theorem dX10_laysColumns_91 : decode cX10_laysColumns 91 = .ok (.iload_n 3, 1) := by decide +kernel
theorem dX10_laysColumns_92 : decode cX10_laysColumns 92 = .ok (.iload_n 2, 1) := by decide +kernel
theorem dX10_laysColumns_93 : decode cX10_laysColumns 93 = .ok (.if_icmp .ne 7, 3) := by decide +kernel
theorem dX10_laysColumns_96 : decode cX10_laysColumns 96 = .ok (.lconst 1, 1) := by decide +kernel
theorem dX10_laysColumns_97 : decode cX10_laysColumns 97 = .ok (.goto 4, 3) := by decide +kernel
theorem dX10_laysColumns_100 : decode cX10_laysColumns 100 = .ok (.lconst 0, 1) := by decide +kernel
theorem dX10_laysColumns_101 : decode cX10_laysColumns 101 = .ok (.lastore, 1) := by decide +kernel
theorem dX10_laysColumns_102 : decode cX10_laysColumns 102 = .ok (.iinc 3 1, 3) := by decide +kernel
theorem dX10_laysColumns_105 : decode cX10_laysColumns 105 = .ok (.goto (-96), 3) := by decide +kernel
theorem dX10_laysColumns_108 : decode cX10_laysColumns 108 = .ok (.iinc 2 1, 3) := by decide +kernel
theorem dX10_laysColumns_111 : decode cX10_laysColumns 111 = .ok (.goto (-109), 3) := by decide +kernel
theorem dX10_laysColumns_114 : decode cX10_laysColumns 114 = .ok (.return_, 1) := by decide +kernel
theorem dX10_solves_0 : decode cX10_solves 0 = .ok (.aload_n 0, 1) := by decide +kernel
theorem dX10_solves_1 : decode cX10_solves 1 = .ok (.iconst (-1), 1) := by decide +kernel
theorem dX10_solves_2 : decode cX10_solves 2 = .ok (.invokevirtual 179, 3) := by decide +kernel
theorem dX10_solves_5 : decode cX10_solves 5 = .ok (.aload_n 0, 1) := by decide +kernel
theorem dX10_solves_6 : decode cX10_solves 6 = .ok (.invokevirtual 182, 3) := by decide +kernel
theorem dX10_solves_9 : decode cX10_solves 9 = .ok (.lstore_n 1, 1) := by decide +kernel
theorem dX10_solves_10 : decode cX10_solves 10 = .ok (.lload_n 1, 1) := by decide +kernel
theorem dX10_solves_11 : decode cX10_solves 11 = .ok (.lconst 0, 1) := by decide +kernel
theorem dX10_solves_12 : decode cX10_solves 12 = .ok (.lcmp, 1) := by decide +kernel
theorem dX10_solves_13 : decode cX10_solves 13 = .ok (.ifCond .ne 5, 3) := by decide +kernel
theorem dX10_solves_16 : decode cX10_solves 16 = .ok (.iconst 0, 1) := by decide +kernel
theorem dX10_solves_17 : decode cX10_solves 17 = .ok (.ireturn, 1) := by decide +kernel
theorem dX10_solves_18 : decode cX10_solves 18 = .ok (.iconst 0, 1) := by decide +kernel
theorem dX10_solves_19 : decode cX10_solves 19 = .ok (.istore_n 3, 1) := by decide +kernel
theorem dX10_solves_20 : decode cX10_solves 20 = .ok (.iload_n 3, 1) := by decide +kernel
theorem dX10_solves_21 : decode cX10_solves 21 = .ok (.aload_n 0, 1) := by decide +kernel
theorem dX10_solves_22 : decode cX10_solves 22 = .ok (.getfield 7, 3) := by decide +kernel
theorem dX10_solves_25 : decode cX10_solves 25 = .ok (.iconst 0, 1) := by decide +kernel
theorem dX10_solves_26 : decode cX10_solves 26 = .ok (.iaload, 1) := by decide +kernel
theorem dX10_solves_27 : decode cX10_solves 27 = .ok (.if_icmp .ge 38, 3) := by decide +kernel
theorem dX10_solves_30 : decode cX10_solves 30 = .ok (.aload_n 0, 1) := by decide +kernel
theorem dX10_solves_31 : decode cX10_solves 31 = .ok (.iload_n 3, 1) := by decide +kernel
theorem dX10_solves_32 : decode cX10_solves 32 = .ok (.invokevirtual 179, 3) := by decide +kernel
theorem dX10_solves_35 : decode cX10_solves 35 = .ok (.aload_n 0, 1) := by decide +kernel
theorem dX10_solves_36 : decode cX10_solves 36 = .ok (.getfield 35, 3) := by decide +kernel
theorem dX10_solves_39 : decode cX10_solves 39 = .ok (.iload_n 3, 1) := by decide +kernel
theorem dX10_solves_40 : decode cX10_solves 40 = .ok (.lload_n 1, 1) := by decide +kernel
theorem dX10_solves_41 : decode cX10_solves 41 = .ok (.lconst 0, 1) := by decide +kernel
theorem dX10_solves_42 : decode cX10_solves 42 = .ok (.lcmp, 1) := by decide +kernel
theorem dX10_solves_43 : decode cX10_solves 43 = .ok (.ifCond .ge 11, 3) := by decide +kernel
theorem dX10_solves_46 : decode cX10_solves 46 = .ok (.aload_n 0, 1) := by decide +kernel
theorem dX10_solves_47 : decode cX10_solves 47 = .ok (.invokevirtual 182, 3) := by decide +kernel
theorem dX10_solves_50 : decode cX10_solves 50 = .ok (.lneg, 1) := by decide +kernel
theorem dX10_solves_51 : decode cX10_solves 51 = .ok (.goto 7, 3) := by decide +kernel
theorem dX10_solves_54 : decode cX10_solves 54 = .ok (.aload_n 0, 1) := by decide +kernel
theorem dX10_solves_55 : decode cX10_solves 55 = .ok (.invokevirtual 182, 3) := by decide +kernel
theorem dX10_solves_58 : decode cX10_solves 58 = .ok (.lastore, 1) := by decide +kernel
theorem dX10_solves_59 : decode cX10_solves 59 = .ok (.iinc 3 1, 3) := by decide +kernel
theorem dX10_solves_62 : decode cX10_solves 62 = .ok (.goto (-42), 3) := by decide +kernel
theorem dX10_solves_65 : decode cX10_solves 65 = .ok (.aload_n 0, 1) := by decide +kernel
theorem dX10_solves_66 : decode cX10_solves 66 = .ok (.lload_n 1, 1) := by decide +kernel
theorem dX10_solves_67 : decode cX10_solves 67 = .ok (.lconst 0, 1) := by decide +kernel
theorem dX10_solves_68 : decode cX10_solves 68 = .ok (.lcmp, 1) := by decide +kernel
theorem dX10_solves_69 : decode cX10_solves 69 = .ok (.ifCond .ge 8, 3) := by decide +kernel
theorem dX10_solves_72 : decode cX10_solves 72 = .ok (.lload_n 1, 1) := by decide +kernel
theorem dX10_solves_73 : decode cX10_solves 73 = .ok (.lneg, 1) := by decide +kernel
theorem dX10_solves_74 : decode cX10_solves 74 = .ok (.goto 4, 3) := by decide +kernel
theorem dX10_solves_77 : decode cX10_solves 77 = .ok (.lload_n 1, 1) := by decide +kernel
theorem dX10_solves_78 : decode cX10_solves 78 = .ok (.putfield 185, 3) := by decide +kernel
theorem dX10_solves_81 : decode cX10_solves 81 = .ok (.iconst 1, 1) := by decide +kernel
theorem dX10_solves_82 : decode cX10_solves 82 = .ok (.ireturn, 1) := by decide +kernel
theorem dX10_laysWall_0 : decode cX10_laysWall 0 = .ok (.aload_n 0, 1) := by decide +kernel
theorem dX10_laysWall_1 : decode cX10_laysWall 1 = .ok (.getfield 7, 3) := by decide +kernel
theorem dX10_laysWall_4 : decode cX10_laysWall 4 = .ok (.iconst 0, 1) := by decide +kernel
theorem dX10_laysWall_5 : decode cX10_laysWall 5 = .ok (.iaload, 1) := by decide +kernel
theorem dX10_laysWall_6 : decode cX10_laysWall 6 = .ok (.istore_n 1, 1) := by decide +kernel
theorem dX10_laysWall_7 : decode cX10_laysWall 7 = .ok (.aload_n 0, 1) := by decide +kernel
theorem dX10_laysWall_8 : decode cX10_laysWall 8 = .ok (.getfield 7, 3) := by decide +kernel
theorem dX10_laysWall_11 : decode cX10_laysWall 11 = .ok (.iconst 1, 1) := by decide +kernel
theorem dX10_laysWall_12 : decode cX10_laysWall 12 = .ok (.iaload, 1) := by decide +kernel
theorem dX10_laysWall_13 : decode cX10_laysWall 13 = .ok (.istore_n 2, 1) := by decide +kernel
theorem dX10_laysWall_14 : decode cX10_laysWall 14 = .ok (.iconst 0, 1) := by decide +kernel
theorem dX10_laysWall_15 : decode cX10_laysWall 15 = .ok (.istore_n 3, 1) := by decide +kernel
theorem dX10_laysWall_16 : decode cX10_laysWall 16 = .ok (.iload_n 3, 1) := by decide +kernel
theorem dX10_laysWall_17 : decode cX10_laysWall 17 = .ok (.bipush 40, 2) := by decide +kernel
theorem dX10_laysWall_19 : decode cX10_laysWall 19 = .ok (.if_icmp .ge 16, 3) := by decide +kernel
theorem dX10_laysWall_22 : decode cX10_laysWall 22 = .ok (.aload_n 0, 1) := by decide +kernel
theorem dX10_laysWall_23 : decode cX10_laysWall 23 = .ok (.getfield 26, 3) := by decide +kernel
theorem dX10_laysWall_26 : decode cX10_laysWall 26 = .ok (.iload_n 3, 1) := by decide +kernel
theorem dX10_laysWall_27 : decode cX10_laysWall 27 = .ok (.lconst 0, 1) := by decide +kernel
theorem dX10_laysWall_28 : decode cX10_laysWall 28 = .ok (.lastore, 1) := by decide +kernel
theorem dX10_laysWall_29 : decode cX10_laysWall 29 = .ok (.iinc 3 1, 3) := by decide +kernel
theorem dX10_laysWall_32 : decode cX10_laysWall 32 = .ok (.goto (-16), 3) := by decide +kernel
theorem dX10_laysWall_35 : decode cX10_laysWall 35 = .ok (.iconst 0, 1) := by decide +kernel
theorem dX10_laysWall_36 : decode cX10_laysWall 36 = .ok (.istore_n 3, 1) := by decide +kernel
theorem dX10_laysWall_37 : decode cX10_laysWall 37 = .ok (.iload_n 3, 1) := by decide +kernel
theorem dX10_laysWall_38 : decode cX10_laysWall 38 = .ok (.iload_n 2, 1) := by decide +kernel
theorem dX10_laysWall_39 : decode cX10_laysWall 39 = .ok (.if_icmp .ge 49, 3) := by decide +kernel
theorem dX10_laysWall_42 : decode cX10_laysWall 42 = .ok (.iconst 1, 1) := by decide +kernel
theorem dX10_laysWall_43 : decode cX10_laysWall 43 = .ok (.istore 4, 2) := by decide +kernel
theorem dX10_laysWall_45 : decode cX10_laysWall 45 = .ok (.iload 4, 2) := by decide +kernel
theorem dX10_laysWall_47 : decode cX10_laysWall 47 = .ok (.iload_n 1, 1) := by decide +kernel
theorem dX10_laysWall_48 : decode cX10_laysWall 48 = .ok (.if_icmp .gt 34, 3) := by decide +kernel
theorem dX10_laysWall_51 : decode cX10_laysWall 51 = .ok (.aload_n 0, 1) := by decide +kernel
theorem dX10_laysWall_52 : decode cX10_laysWall 52 = .ok (.getfield 26, 3) := by decide +kernel
theorem dX10_laysWall_55 : decode cX10_laysWall 55 = .ok (.iconst 4, 1) := by decide +kernel
theorem dX10_laysWall_56 : decode cX10_laysWall 56 = .ok (.iload_n 3, 1) := by decide +kernel
theorem dX10_laysWall_57 : decode cX10_laysWall 57 = .ok (.imul, 1) := by decide +kernel
theorem dX10_laysWall_58 : decode cX10_laysWall 58 = .ok (.iload 4, 2) := by decide +kernel
theorem dX10_laysWall_60 : decode cX10_laysWall 60 = .ok (.iadd, 1) := by decide +kernel
theorem dX10_laysWall_61 : decode cX10_laysWall 61 = .ok (.iconst 1, 1) := by decide +kernel
theorem dX10_laysWall_62 : decode cX10_laysWall 62 = .ok (.isub, 1) := by decide +kernel
theorem dX10_laysWall_63 : decode cX10_laysWall 63 = .ok (.ldc2_w 189, 3) := by decide +kernel
theorem dX10_laysWall_66 : decode cX10_laysWall 66 = .ok (.aload_n 0, 1) := by decide +kernel
theorem dX10_laysWall_67 : decode cX10_laysWall 67 = .ok (.iload_n 3, 1) := by decide +kernel
theorem dX10_laysWall_68 : decode cX10_laysWall 68 = .ok (.iload 4, 2) := by decide +kernel
theorem dX10_laysWall_70 : decode cX10_laysWall 70 = .ok (.invokevirtual 167, 3) := by decide +kernel
theorem dX10_laysWall_73 : decode cX10_laysWall 73 = .ok (.i2l, 1) := by decide +kernel
theorem dX10_laysWall_74 : decode cX10_laysWall 74 = .ok (.lmul, 1) := by decide +kernel
theorem dX10_laysWall_75 : decode cX10_laysWall 75 = .ok (.lastore, 1) := by decide +kernel
theorem dX10_laysWall_76 : decode cX10_laysWall 76 = .ok (.iinc 4 1, 3) := by decide +kernel
theorem dX10_laysWall_79 : decode cX10_laysWall 79 = .ok (.goto (-34), 3) := by decide +kernel
theorem dX10_laysWall_82 : decode cX10_laysWall 82 = .ok (.iinc 3 1, 3) := by decide +kernel
theorem dX10_laysWall_85 : decode cX10_laysWall 85 = .ok (.goto (-48), 3) := by decide +kernel
theorem dX10_laysWall_88 : decode cX10_laysWall 88 = .ok (.iconst 0, 1) := by decide +kernel
theorem dX10_laysWall_89 : decode cX10_laysWall 89 = .ok (.istore_n 3, 1) := by decide +kernel
theorem dX10_laysWall_90 : decode cX10_laysWall 90 = .ok (.iload_n 3, 1) := by decide +kernel
theorem dX10_laysWall_91 : decode cX10_laysWall 91 = .ok (.iload_n 1, 1) := by decide +kernel
theorem dX10_laysWall_92 : decode cX10_laysWall 92 = .ok (.if_icmp .gt 63, 3) := by decide +kernel
theorem dX10_laysWall_95 : decode cX10_laysWall 95 = .ok (.iload_n 3, 1) := by decide +kernel
theorem dX10_laysWall_96 : decode cX10_laysWall 96 = .ok (.ifCond .le 20, 3) := by decide +kernel
theorem dX10_laysWall_99 : decode cX10_laysWall 99 = .ok (.aload_n 0, 1) := by decide +kernel
theorem dX10_laysWall_100 : decode cX10_laysWall 100 = .ok (.getfield 26, 3) := by decide +kernel
theorem dX10_laysWall_103 : decode cX10_laysWall 103 = .ok (.iconst 4, 1) := by decide +kernel
theorem dX10_laysWall_104 : decode cX10_laysWall 104 = .ok (.iload_n 2, 1) := by decide +kernel
theorem dX10_laysWall_105 : decode cX10_laysWall 105 = .ok (.iload_n 3, 1) := by decide +kernel
theorem dX10_laysWall_106 : decode cX10_laysWall 106 = .ok (.iadd, 1) := by decide +kernel
theorem dX10_laysWall_107 : decode cX10_laysWall 107 = .ok (.imul, 1) := by decide +kernel
theorem dX10_laysWall_108 : decode cX10_laysWall 108 = .ok (.iload_n 3, 1) := by decide +kernel
theorem dX10_laysWall_109 : decode cX10_laysWall 109 = .ok (.iadd, 1) := by decide +kernel
theorem dX10_laysWall_110 : decode cX10_laysWall 110 = .ok (.iconst 1, 1) := by decide +kernel
theorem dX10_laysWall_111 : decode cX10_laysWall 111 = .ok (.isub, 1) := by decide +kernel
theorem dX10_laysWall_112 : decode cX10_laysWall 112 = .ok (.ldc2_w 191, 3) := by decide +kernel
theorem dX10_laysWall_115 : decode cX10_laysWall 115 = .ok (.lastore, 1) := by decide +kernel
theorem dX10_laysWall_116 : decode cX10_laysWall 116 = .ok (.iload_n 3, 1) := by decide +kernel
theorem dX10_laysWall_117 : decode cX10_laysWall 117 = .ok (.iload_n 1, 1) := by decide +kernel
theorem dX10_laysWall_118 : decode cX10_laysWall 118 = .ok (.if_icmp .ge 31, 3) := by decide +kernel
theorem dX10_laysWall_121 : decode cX10_laysWall 121 = .ok (.aload_n 0, 1) := by decide +kernel
theorem dX10_laysWall_122 : decode cX10_laysWall 122 = .ok (.getfield 26, 3) := by decide +kernel
theorem dX10_laysWall_125 : decode cX10_laysWall 125 = .ok (.iconst 4, 1) := by decide +kernel
theorem dX10_laysWall_126 : decode cX10_laysWall 126 = .ok (.iload_n 2, 1) := by decide +kernel
theorem dX10_laysWall_127 : decode cX10_laysWall 127 = .ok (.iload_n 3, 1) := by decide +kernel
theorem dX10_laysWall_128 : decode cX10_laysWall 128 = .ok (.iadd, 1) := by decide +kernel
theorem dX10_laysWall_129 : decode cX10_laysWall 129 = .ok (.imul, 1) := by decide +kernel
theorem dX10_laysWall_130 : decode cX10_laysWall 130 = .ok (.iload_n 3, 1) := by decide +kernel
theorem dX10_laysWall_131 : decode cX10_laysWall 131 = .ok (.iadd, 1) := by decide +kernel
theorem dX10_laysWall_132 : decode cX10_laysWall 132 = .ok (.ldc2_w 189, 3) := by decide +kernel
theorem dX10_laysWall_135 : decode cX10_laysWall 135 = .ok (.aload_n 0, 1) := by decide +kernel
theorem dX10_laysWall_136 : decode cX10_laysWall 136 = .ok (.getfield 7, 3) := by decide +kernel
theorem dX10_laysWall_139 : decode cX10_laysWall 139 = .ok (.bipush 7, 2) := by decide +kernel
theorem dX10_laysWall_141 : decode cX10_laysWall 141 = .ok (.iload_n 3, 1) := by decide +kernel
theorem dX10_laysWall_142 : decode cX10_laysWall 142 = .ok (.iadd, 1) := by decide +kernel
theorem dX10_laysWall_143 : decode cX10_laysWall 143 = .ok (.iconst 1, 1) := by decide +kernel
theorem dX10_laysWall_144 : decode cX10_laysWall 144 = .ok (.iadd, 1) := by decide +kernel
theorem dX10_laysWall_145 : decode cX10_laysWall 145 = .ok (.iaload, 1) := by decide +kernel
theorem dX10_laysWall_146 : decode cX10_laysWall 146 = .ok (.i2l, 1) := by decide +kernel
theorem dX10_laysWall_147 : decode cX10_laysWall 147 = .ok (.ladd, 1) := by decide +kernel
theorem dX10_laysWall_148 : decode cX10_laysWall 148 = .ok (.lastore, 1) := by decide +kernel
theorem dX10_laysWall_149 : decode cX10_laysWall 149 = .ok (.iinc 3 1, 3) := by decide +kernel
theorem dX10_laysWall_152 : decode cX10_laysWall 152 = .ok (.goto (-62), 3) := by decide +kernel
theorem dX10_laysWall_155 : decode cX10_laysWall 155 = .ok (.iconst 1, 1) := by decide +kernel
theorem dX10_laysWall_156 : decode cX10_laysWall 156 = .ok (.istore_n 3, 1) := by decide +kernel
theorem dX10_laysWall_157 : decode cX10_laysWall 157 = .ok (.iload_n 3, 1) := by decide +kernel
theorem dX10_laysWall_158 : decode cX10_laysWall 158 = .ok (.iload_n 1, 1) := by decide +kernel
theorem dX10_laysWall_159 : decode cX10_laysWall 159 = .ok (.if_icmp .gt 30, 3) := by decide +kernel
theorem dX10_laysWall_162 : decode cX10_laysWall 162 = .ok (.aload_n 0, 1) := by decide +kernel
theorem dX10_laysWall_163 : decode cX10_laysWall 163 = .ok (.getfield 29, 3) := by decide +kernel
theorem dX10_laysWall_166 : decode cX10_laysWall 166 = .ok (.iload_n 3, 1) := by decide +kernel
theorem dX10_laysWall_167 : decode cX10_laysWall 167 = .ok (.iconst 1, 1) := by decide +kernel
theorem dX10_laysWall_168 : decode cX10_laysWall 168 = .ok (.isub, 1) := by decide +kernel
theorem dX10_laysWall_169 : decode cX10_laysWall 169 = .ok (.ldc2_w 189, 3) := by decide +kernel
theorem dX10_laysWall_172 : decode cX10_laysWall 172 = .ok (.aload_n 0, 1) := by decide +kernel
theorem dX10_laysWall_173 : decode cX10_laysWall 173 = .ok (.getfield 7, 3) := by decide +kernel
theorem dX10_laysWall_176 : decode cX10_laysWall 176 = .ok (.iconst 2, 1) := by decide +kernel
theorem dX10_laysWall_177 : decode cX10_laysWall 177 = .ok (.iload_n 3, 1) := by decide +kernel
theorem dX10_laysWall_178 : decode cX10_laysWall 178 = .ok (.iadd, 1) := by decide +kernel
theorem dX10_laysWall_179 : decode cX10_laysWall 179 = .ok (.iaload, 1) := by decide +kernel
theorem dX10_laysWall_180 : decode cX10_laysWall 180 = .ok (.i2l, 1) := by decide +kernel
theorem dX10_laysWall_181 : decode cX10_laysWall 181 = .ok (.lmul, 1) := by decide +kernel
theorem dX10_laysWall_182 : decode cX10_laysWall 182 = .ok (.lastore, 1) := by decide +kernel
theorem dX10_laysWall_183 : decode cX10_laysWall 183 = .ok (.iinc 3 1, 3) := by decide +kernel
theorem dX10_laysWall_186 : decode cX10_laysWall 186 = .ok (.goto (-29), 3) := by decide +kernel
theorem dX10_laysWall_189 : decode cX10_laysWall 189 = .ok (.return_, 1) := by decide +kernel
theorem dX10_priceOf_0 : decode cX10_priceOf 0 = .ok (.iload_n 1, 1) := by decide +kernel
theorem dX10_priceOf_1 : decode cX10_priceOf 1 = .ok (.aload_n 0, 1) := by decide +kernel
theorem dX10_priceOf_2 : decode cX10_priceOf 2 = .ok (.getfield 7, 3) := by decide +kernel
theorem dX10_priceOf_5 : decode cX10_priceOf 5 = .ok (.iconst 1, 1) := by decide +kernel
theorem dX10_priceOf_6 : decode cX10_priceOf 6 = .ok (.iaload, 1) := by decide +kernel
theorem dX10_priceOf_7 : decode cX10_priceOf 7 = .ok (.if_icmp .ge 16, 3) := by decide +kernel
theorem dX10_priceOf_10 : decode cX10_priceOf 10 = .ok (.aload_n 0, 1) := by decide +kernel
theorem dX10_priceOf_11 : decode cX10_priceOf 11 = .ok (.getfield 7, 3) := by decide +kernel
theorem dX10_priceOf_14 : decode cX10_priceOf 14 = .ok (.bipush 27, 2) := by decide +kernel
theorem dX10_priceOf_16 : decode cX10_priceOf 16 = .ok (.iload_n 1, 1) := by decide +kernel
theorem dX10_priceOf_17 : decode cX10_priceOf 17 = .ok (.iadd, 1) := by decide +kernel
theorem dX10_priceOf_18 : decode cX10_priceOf 18 = .ok (.iaload, 1) := by decide +kernel
theorem dX10_priceOf_19 : decode cX10_priceOf 19 = .ok (.i2l, 1) := by decide +kernel
theorem dX10_priceOf_20 : decode cX10_priceOf 20 = .ok (.goto 18, 3) := by decide +kernel
theorem dX10_priceOf_23 : decode cX10_priceOf 23 = .ok (.iload_n 1, 1) := by decide +kernel
theorem dX10_priceOf_24 : decode cX10_priceOf 24 = .ok (.aload_n 0, 1) := by decide +kernel
theorem dX10_priceOf_25 : decode cX10_priceOf 25 = .ok (.getfield 7, 3) := by decide +kernel
theorem dX10_priceOf_28 : decode cX10_priceOf 28 = .ok (.iconst 1, 1) := by decide +kernel
theorem dX10_priceOf_29 : decode cX10_priceOf 29 = .ok (.iaload, 1) := by decide +kernel
theorem dX10_priceOf_30 : decode cX10_priceOf 30 = .ok (.if_icmp .ne 7, 3) := by decide +kernel
theorem dX10_priceOf_33 : decode cX10_priceOf 33 = .ok (.lconst 1, 1) := by decide +kernel
theorem dX10_priceOf_34 : decode cX10_priceOf 34 = .ok (.goto 4, 3) := by decide +kernel
theorem dX10_priceOf_37 : decode cX10_priceOf 37 = .ok (.lconst 0, 1) := by decide +kernel
theorem dX10_priceOf_38 : decode cX10_priceOf 38 = .ok (.lreturn, 1) := by decide +kernel
theorem dX10_tries_0 : decode cX10_tries 0 = .ok (.aload_n 0, 1) := by decide +kernel
theorem dX10_tries_1 : decode cX10_tries 1 = .ok (.invokevirtual 193, 3) := by decide +kernel
theorem dX10_tries_4 : decode cX10_tries 4 = .ok (.ifCond .ne 4, 3) := by decide +kernel
theorem dX10_tries_7 : decode cX10_tries 7 = .ok (.return_, 1) := by decide +kernel
theorem dX10_tries_8 : decode cX10_tries 8 = .ok (.iconst 0, 1) := by decide +kernel
theorem dX10_tries_9 : decode cX10_tries 9 = .ok (.istore_n 1, 1) := by decide +kernel
theorem dX10_tries_10 : decode cX10_tries 10 = .ok (.iload_n 1, 1) := by decide +kernel
theorem dX10_tries_11 : decode cX10_tries 11 = .ok (.bipush 10, 2) := by decide +kernel
theorem dX10_tries_13 : decode cX10_tries 13 = .ok (.if_icmp .ge 16, 3) := by decide +kernel
theorem dX10_tries_16 : decode cX10_tries 16 = .ok (.aload_n 0, 1) := by decide +kernel
theorem dX10_tries_17 : decode cX10_tries 17 = .ok (.getfield 41, 3) := by decide +kernel
theorem dX10_tries_20 : decode cX10_tries 20 = .ok (.iload_n 1, 1) := by decide +kernel
theorem dX10_tries_21 : decode cX10_tries 21 = .ok (.lconst 0, 1) := by decide +kernel
theorem dX10_tries_22 : decode cX10_tries 22 = .ok (.lastore, 1) := by decide +kernel
theorem dX10_tries_23 : decode cX10_tries 23 = .ok (.iinc 1 1, 3) := by decide +kernel
theorem dX10_tries_26 : decode cX10_tries 26 = .ok (.goto (-16), 3) := by decide +kernel
theorem dX10_tries_29 : decode cX10_tries 29 = .ok (.lconst 0, 1) := by decide +kernel
theorem dX10_tries_30 : decode cX10_tries 30 = .ok (.lstore_n 1, 1) := by decide +kernel
theorem dX10_tries_31 : decode cX10_tries 31 = .ok (.iconst 0, 1) := by decide +kernel
theorem dX10_tries_32 : decode cX10_tries 32 = .ok (.istore_n 3, 1) := by decide +kernel
theorem dX10_tries_33 : decode cX10_tries 33 = .ok (.iload_n 3, 1) := by decide +kernel
theorem dX10_tries_34 : decode cX10_tries 34 = .ok (.aload_n 0, 1) := by decide +kernel
theorem dX10_tries_35 : decode cX10_tries 35 = .ok (.getfield 7, 3) := by decide +kernel
theorem dX10_tries_38 : decode cX10_tries 38 = .ok (.iconst 0, 1) := by decide +kernel
theorem dX10_tries_39 : decode cX10_tries 39 = .ok (.iaload, 1) := by decide +kernel
theorem dX10_tries_40 : decode cX10_tries 40 = .ok (.if_icmp .ge 58, 3) := by decide +kernel
theorem dX10_tries_43 : decode cX10_tries 43 = .ok (.aload_n 0, 1) := by decide +kernel
theorem dX10_tries_44 : decode cX10_tries 44 = .ok (.getfield 35, 3) := by decide +kernel
theorem dX10_tries_47 : decode cX10_tries 47 = .ok (.iload_n 3, 1) := by decide +kernel
theorem dX10_tries_48 : decode cX10_tries 48 = .ok (.laload, 1) := by decide +kernel
theorem dX10_tries_49 : decode cX10_tries 49 = .ok (.lconst 0, 1) := by decide +kernel
theorem dX10_tries_50 : decode cX10_tries 50 = .ok (.lcmp, 1) := by decide +kernel
theorem dX10_tries_51 : decode cX10_tries 51 = .ok (.ifCond .ge 4, 3) := by decide +kernel
theorem dX10_tries_54 : decode cX10_tries 54 = .ok (.return_, 1) := by decide +kernel
theorem dX10_tries_55 : decode cX10_tries 55 = .ok (.aload_n 0, 1) := by decide +kernel
theorem dX10_tries_56 : decode cX10_tries 56 = .ok (.getfield 41, 3) := by decide +kernel
theorem dX10_tries_59 : decode cX10_tries 59 = .ok (.aload_n 0, 1) := by decide +kernel
theorem dX10_tries_60 : decode cX10_tries 60 = .ok (.getfield 32, 3) := by decide +kernel
theorem dX10_tries_63 : decode cX10_tries 63 = .ok (.iload_n 3, 1) := by decide +kernel
theorem dX10_tries_64 : decode cX10_tries 64 = .ok (.iaload, 1) := by decide +kernel
