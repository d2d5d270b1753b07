/-! printed by wip/whole/gen.py: the methods as plain functions, each proved to be what its bytecode does -/
theorem dX12_formulaAt_0 : decode cX12_formulaAt 0 = .ok (.iload_n 1, 1) := by decide +kernel
theorem dX12_formulaAt_1 : decode cX12_formulaAt 1 = .ok (.bipush 15, 2) := by decide +kernel
theorem dX12_formulaAt_3 : decode cX12_formulaAt 3 = .ok (.if_icmp .le 10, 3) := by decide +kernel
theorem dX12_formulaAt_6 : decode cX12_formulaAt 6 = .ok (.aload_n 0, 1) := by decide +kernel
theorem dX12_formulaAt_7 : decode cX12_formulaAt 7 = .ok (.iload_n 2, 1) := by decide +kernel
theorem dX12_formulaAt_8 : decode cX12_formulaAt 8 = .ok (.putfield 174, 3) := by decide +kernel
theorem dX12_formulaAt_11 : decode cX12_formulaAt 11 = .ok (.iconst 0, 1) := by decide +kernel
theorem dX12_formulaAt_12 : decode cX12_formulaAt 12 = .ok (.ireturn, 1) := by decide +kernel
theorem dX12_formulaAt_13 : decode cX12_formulaAt 13 = .ok (.aload_n 0, 1) := by decide +kernel
theorem dX12_formulaAt_14 : decode cX12_formulaAt 14 = .ok (.iload_n 1, 1) := by decide +kernel
theorem dX12_formulaAt_15 : decode cX12_formulaAt 15 = .ok (.invokevirtual 187, 3) := by decide +kernel
theorem dX12_formulaAt_18 : decode cX12_formulaAt 18 = .ok (.istore_n 3, 1) := by decide +kernel
theorem dX12_formulaAt_19 : decode cX12_formulaAt 19 = .ok (.aload_n 0, 1) := by decide +kernel
theorem dX12_formulaAt_20 : decode cX12_formulaAt 20 = .ok (.getfield 174, 3) := by decide +kernel
theorem dX12_formulaAt_23 : decode cX12_formulaAt 23 = .ok (.ifCond .ge 62, 3) := by decide +kernel
theorem dX12_formulaAt_26 : decode cX12_formulaAt 26 = .ok (.aload_n 0, 1) := by decide +kernel
theorem dX12_formulaAt_27 : decode cX12_formulaAt 27 = .ok (.invokevirtual 184, 3) := by decide +kernel
theorem dX12_formulaAt_30 : decode cX12_formulaAt 30 = .ok (.bipush 61, 2) := by decide +kernel
theorem dX12_formulaAt_32 : decode cX12_formulaAt 32 = .ok (.if_icmp .ne 53, 3) := by decide +kernel
theorem dX12_formulaAt_35 : decode cX12_formulaAt 35 = .ok (.aload_n 0, 1) := by decide +kernel
theorem dX12_formulaAt_36 : decode cX12_formulaAt 36 = .ok (.invokevirtual 190, 3) := by decide +kernel
theorem dX12_formulaAt_39 : decode cX12_formulaAt 39 = .ok (.aload_n 0, 1) := by decide +kernel
theorem dX12_formulaAt_40 : decode cX12_formulaAt 40 = .ok (.bipush 61, 2) := by decide +kernel
theorem dX12_formulaAt_42 : decode cX12_formulaAt 42 = .ok (.invokevirtual 193, 3) := by decide +kernel
theorem dX12_formulaAt_45 : decode cX12_formulaAt 45 = .ok (.aload_n 0, 1) := by decide +kernel
theorem dX12_formulaAt_46 : decode cX12_formulaAt 46 = .ok (.getfield 174, 3) := by decide +kernel
theorem dX12_formulaAt_49 : decode cX12_formulaAt 49 = .ok (.ifCond .ge 11, 3) := by decide +kernel
theorem dX12_formulaAt_52 : decode cX12_formulaAt 52 = .ok (.aload_n 0, 1) := by decide +kernel
theorem dX12_formulaAt_53 : decode cX12_formulaAt 53 = .ok (.iload_n 1, 1) := by decide +kernel
theorem dX12_formulaAt_54 : decode cX12_formulaAt 54 = .ok (.invokevirtual 187, 3) := by decide +kernel
theorem dX12_formulaAt_57 : decode cX12_formulaAt 57 = .ok (.goto 4, 3) := by decide +kernel
theorem dX12_formulaAt_60 : decode cX12_formulaAt 60 = .ok (.iconst 0, 1) := by decide +kernel
theorem dX12_formulaAt_61 : decode cX12_formulaAt 61 = .ok (.istore 4, 2) := by decide +kernel
theorem dX12_formulaAt_63 : decode cX12_formulaAt 63 = .ok (.aload_n 0, 1) := by decide +kernel
theorem dX12_formulaAt_64 : decode cX12_formulaAt 64 = .ok (.getfield 174, 3) := by decide +kernel
theorem dX12_formulaAt_67 : decode cX12_formulaAt 67 = .ok (.ifCond .ge 16, 3) := by decide +kernel
theorem dX12_formulaAt_70 : decode cX12_formulaAt 70 = .ok (.aload_n 0, 1) := by decide +kernel
theorem dX12_formulaAt_71 : decode cX12_formulaAt 71 = .ok (.bipush 10, 2) := by decide +kernel
theorem dX12_formulaAt_73 : decode cX12_formulaAt 73 = .ok (.iload_n 3, 1) := by decide +kernel
theorem dX12_formulaAt_74 : decode cX12_formulaAt 74 = .ok (.iload 4, 2) := by decide +kernel
theorem dX12_formulaAt_76 : decode cX12_formulaAt 76 = .ok (.iconst 0, 1) := by decide +kernel
theorem dX12_formulaAt_77 : decode cX12_formulaAt 77 = .ok (.invokevirtual 156, 3) := by decide +kernel
theorem dX12_formulaAt_80 : decode cX12_formulaAt 80 = .ok (.goto 4, 3) := by decide +kernel
theorem dX12_formulaAt_83 : decode cX12_formulaAt 83 = .ok (.iconst 0, 1) := by decide +kernel
theorem dX12_formulaAt_84 : decode cX12_formulaAt 84 = .ok (.istore_n 3, 1) := by decide +kernel
theorem dX12_formulaAt_85 : decode cX12_formulaAt 85 = .ok (.iload_n 3, 1) := by decide +kernel
theorem dX12_formulaAt_86 : decode cX12_formulaAt 86 = .ok (.ireturn, 1) := by decide +kernel
theorem dX12_implied_0 : decode cX12_implied 0 = .ok (.aload_n 0, 1) := by decide +kernel
theorem dX12_implied_1 : decode cX12_implied 1 = .ok (.iload_n 1, 1) := by decide +kernel
theorem dX12_implied_2 : decode cX12_implied 2 = .ok (.invokevirtual 197, 3) := by decide +kernel
theorem dX12_implied_5 : decode cX12_implied 5 = .ok (.istore_n 2, 1) := by decide +kernel
theorem dX12_implied_6 : decode cX12_implied 6 = .ok (.aload_n 0, 1) := by decide +kernel
theorem dX12_implied_7 : decode cX12_implied 7 = .ok (.getfield 174, 3) := by decide +kernel
theorem dX12_implied_10 : decode cX12_implied 10 = .ok (.ifCond .ge 60, 3) := by decide +kernel
theorem dX12_implied_13 : decode cX12_implied 13 = .ok (.aload_n 0, 1) := by decide +kernel
theorem dX12_implied_14 : decode cX12_implied 14 = .ok (.invokevirtual 184, 3) := by decide +kernel
theorem dX12_implied_17 : decode cX12_implied 17 = .ok (.bipush 62, 2) := by decide +kernel
theorem dX12_implied_19 : decode cX12_implied 19 = .ok (.if_icmp .ne 51, 3) := by decide +kernel
theorem dX12_implied_22 : decode cX12_implied 22 = .ok (.aload_n 0, 1) := by decide +kernel
theorem dX12_implied_23 : decode cX12_implied 23 = .ok (.invokevirtual 190, 3) := by decide +kernel
theorem dX12_implied_26 : decode cX12_implied 26 = .ok (.aload_n 0, 1) := by decide +kernel
theorem dX12_implied_27 : decode cX12_implied 27 = .ok (.bipush 62, 2) := by decide +kernel
theorem dX12_implied_29 : decode cX12_implied 29 = .ok (.invokevirtual 193, 3) := by decide +kernel
theorem dX12_implied_32 : decode cX12_implied 32 = .ok (.aload_n 0, 1) := by decide +kernel
theorem dX12_implied_33 : decode cX12_implied 33 = .ok (.getfield 174, 3) := by decide +kernel
theorem dX12_implied_36 : decode cX12_implied 36 = .ok (.ifCond .ge 11, 3) := by decide +kernel
theorem dX12_implied_39 : decode cX12_implied 39 = .ok (.aload_n 0, 1) := by decide +kernel
theorem dX12_implied_40 : decode cX12_implied 40 = .ok (.iload_n 1, 1) := by decide +kernel
theorem dX12_implied_41 : decode cX12_implied 41 = .ok (.invokevirtual 187, 3) := by decide +kernel
theorem dX12_implied_44 : decode cX12_implied 44 = .ok (.goto 4, 3) := by decide +kernel
theorem dX12_implied_47 : decode cX12_implied 47 = .ok (.iconst 0, 1) := by decide +kernel
theorem dX12_implied_48 : decode cX12_implied 48 = .ok (.istore_n 3, 1) := by decide +kernel
theorem dX12_implied_49 : decode cX12_implied 49 = .ok (.aload_n 0, 1) := by decide +kernel
theorem dX12_implied_50 : decode cX12_implied 50 = .ok (.getfield 174, 3) := by decide +kernel
theorem dX12_implied_53 : decode cX12_implied 53 = .ok (.ifCond .ge 15, 3) := by decide +kernel
theorem dX12_implied_56 : decode cX12_implied 56 = .ok (.aload_n 0, 1) := by decide +kernel
theorem dX12_implied_57 : decode cX12_implied 57 = .ok (.bipush 11, 2) := by decide +kernel
theorem dX12_implied_59 : decode cX12_implied 59 = .ok (.iload_n 2, 1) := by decide +kernel
theorem dX12_implied_60 : decode cX12_implied 60 = .ok (.iload_n 3, 1) := by decide +kernel
theorem dX12_implied_61 : decode cX12_implied 61 = .ok (.iconst 0, 1) := by decide +kernel
theorem dX12_implied_62 : decode cX12_implied 62 = .ok (.invokevirtual 156, 3) := by decide +kernel
theorem dX12_implied_65 : decode cX12_implied 65 = .ok (.goto 4, 3) := by decide +kernel
theorem dX12_implied_68 : decode cX12_implied 68 = .ok (.iconst 0, 1) := by decide +kernel
theorem dX12_implied_69 : decode cX12_implied 69 = .ok (.istore_n 2, 1) := by decide +kernel
theorem dX12_implied_70 : decode cX12_implied 70 = .ok (.iload_n 2, 1) := by decide +kernel
theorem dX12_implied_71 : decode cX12_implied 71 = .ok (.ireturn, 1) := by decide +kernel
theorem dX12_either_0 : decode cX12_either 0 = .ok (.aload_n 0, 1) := by decide +kernel
theorem dX12_either_1 : decode cX12_either 1 = .ok (.iload_n 1, 1) := by decide +kernel
theorem dX12_either_2 : decode cX12_either 2 = .ok (.invokevirtual 200, 3) := by decide +kernel
theorem dX12_either_5 : decode cX12_either 5 = .ok (.istore_n 2, 1) := by decide +kernel
theorem dX12_either_6 : decode cX12_either 6 = .ok (.aload_n 0, 1) := by decide +kernel
theorem dX12_either_7 : decode cX12_either 7 = .ok (.getfield 174, 3) := by decide +kernel
theorem dX12_either_10 : decode cX12_either 10 = .ok (.ifCond .ge 63, 3) := by decide +kernel
theorem dX12_either_13 : decode cX12_either 13 = .ok (.aload_n 0, 1) := by decide +kernel
theorem dX12_either_14 : decode cX12_either 14 = .ok (.invokevirtual 184, 3) := by decide +kernel
theorem dX12_either_17 : decode cX12_either 17 = .ok (.bipush 124, 2) := by decide +kernel
theorem dX12_either_19 : decode cX12_either 19 = .ok (.if_icmp .ne 54, 3) := by decide +kernel
theorem dX12_either_22 : decode cX12_either 22 = .ok (.aload_n 0, 1) := by decide +kernel
theorem dX12_either_23 : decode cX12_either 23 = .ok (.invokevirtual 190, 3) := by decide +kernel
theorem dX12_either_26 : decode cX12_either 26 = .ok (.aload_n 0, 1) := by decide +kernel
theorem dX12_either_27 : decode cX12_either 27 = .ok (.bipush 124, 2) := by decide +kernel
theorem dX12_either_29 : decode cX12_either 29 = .ok (.invokevirtual 193, 3) := by decide +kernel
theorem dX12_either_32 : decode cX12_either 32 = .ok (.aload_n 0, 1) := by decide +kernel
theorem dX12_either_33 : decode cX12_either 33 = .ok (.getfield 174, 3) := by decide +kernel
theorem dX12_either_36 : decode cX12_either 36 = .ok (.ifCond .ge 11, 3) := by decide +kernel
theorem dX12_either_39 : decode cX12_either 39 = .ok (.aload_n 0, 1) := by decide +kernel
theorem dX12_either_40 : decode cX12_either 40 = .ok (.iload_n 1, 1) := by decide +kernel
theorem dX12_either_41 : decode cX12_either 41 = .ok (.invokevirtual 200, 3) := by decide +kernel
theorem dX12_either_44 : decode cX12_either 44 = .ok (.goto 4, 3) := by decide +kernel
theorem dX12_either_47 : decode cX12_either 47 = .ok (.iconst 0, 1) := by decide +kernel
theorem dX12_either_48 : decode cX12_either 48 = .ok (.istore_n 3, 1) := by decide +kernel
theorem dX12_either_49 : decode cX12_either 49 = .ok (.aload_n 0, 1) := by decide +kernel
theorem dX12_either_50 : decode cX12_either 50 = .ok (.getfield 174, 3) := by decide +kernel
theorem dX12_either_53 : decode cX12_either 53 = .ok (.ifCond .ge 15, 3) := by decide +kernel
theorem dX12_either_56 : decode cX12_either 56 = .ok (.aload_n 0, 1) := by decide +kernel
theorem dX12_either_57 : decode cX12_either 57 = .ok (.bipush 12, 2) := by decide +kernel
theorem dX12_either_59 : decode cX12_either 59 = .ok (.iload_n 2, 1) := by decide +kernel
theorem dX12_either_60 : decode cX12_either 60 = .ok (.iload_n 3, 1) := by decide +kernel
theorem dX12_either_61 : decode cX12_either 61 = .ok (.iconst 0, 1) := by decide +kernel
theorem dX12_either_62 : decode cX12_either 62 = .ok (.invokevirtual 156, 3) := by decide +kernel
theorem dX12_either_65 : decode cX12_either 65 = .ok (.goto 4, 3) := by decide +kernel
theorem dX12_either_68 : decode cX12_either 68 = .ok (.iconst 0, 1) := by decide +kernel
theorem dX12_either_69 : decode cX12_either 69 = .ok (.istore_n 2, 1) := by decide +kernel
theorem dX12_either_70 : decode cX12_either 70 = .ok (.goto (-64), 3) := by decide +kernel
theorem dX12_either_73 : decode cX12_either 73 = .ok (.iload_n 2, 1) := by decide +kernel
theorem dX12_either_74 : decode cX12_either 74 = .ok (.ireturn, 1) := by decide +kernel
theorem dX12_both_0 : decode cX12_both 0 = .ok (.aload_n 0, 1) := by decide +kernel
theorem dX12_both_1 : decode cX12_both 1 = .ok (.iload_n 1, 1) := by decide +kernel
theorem dX12_both_2 : decode cX12_both 2 = .ok (.iconst 0, 1) := by decide +kernel
theorem dX12_both_3 : decode cX12_both 3 = .ok (.invokevirtual 203, 3) := by decide +kernel
theorem dX12_both_6 : decode cX12_both 6 = .ok (.istore_n 2, 1) := by decide +kernel
theorem dX12_both_7 : decode cX12_both 7 = .ok (.aload_n 0, 1) := by decide +kernel
theorem dX12_both_8 : decode cX12_both 8 = .ok (.getfield 174, 3) := by decide +kernel
theorem dX12_both_11 : decode cX12_both 11 = .ok (.ifCond .ge 64, 3) := by decide +kernel
theorem dX12_both_14 : decode cX12_both 14 = .ok (.aload_n 0, 1) := by decide +kernel
theorem dX12_both_15 : decode cX12_both 15 = .ok (.invokevirtual 184, 3) := by decide +kernel
theorem dX12_both_18 : decode cX12_both 18 = .ok (.bipush 38, 2) := by decide +kernel
theorem dX12_both_20 : decode cX12_both 20 = .ok (.if_icmp .ne 55, 3) := by decide +kernel
theorem dX12_both_23 : decode cX12_both 23 = .ok (.aload_n 0, 1) := by decide +kernel
theorem dX12_both_24 : decode cX12_both 24 = .ok (.invokevirtual 190, 3) := by decide +kernel
theorem dX12_both_27 : decode cX12_both 27 = .ok (.aload_n 0, 1) := by decide +kernel
theorem dX12_both_28 : decode cX12_both 28 = .ok (.bipush 38, 2) := by decide +kernel
theorem dX12_both_30 : decode cX12_both 30 = .ok (.invokevirtual 193, 3) := by decide +kernel
theorem dX12_both_33 : decode cX12_both 33 = .ok (.aload_n 0, 1) := by decide +kernel
theorem dX12_both_34 : decode cX12_both 34 = .ok (.getfield 174, 3) := by decide +kernel
theorem dX12_both_37 : decode cX12_both 37 = .ok (.ifCond .ge 12, 3) := by decide +kernel
theorem dX12_both_40 : decode cX12_both 40 = .ok (.aload_n 0, 1) := by decide +kernel
theorem dX12_both_41 : decode cX12_both 41 = .ok (.iload_n 1, 1) := by decide +kernel
theorem dX12_both_42 : decode cX12_both 42 = .ok (.iconst 0, 1) := by decide +kernel
theorem dX12_both_43 : decode cX12_both 43 = .ok (.invokevirtual 203, 3) := by decide +kernel
theorem dX12_both_46 : decode cX12_both 46 = .ok (.goto 4, 3) := by decide +kernel
theorem dX12_both_49 : decode cX12_both 49 = .ok (.iconst 0, 1) := by decide +kernel
theorem dX12_both_50 : decode cX12_both 50 = .ok (.istore_n 3, 1) := by decide +kernel
theorem dX12_both_51 : decode cX12_both 51 = .ok (.aload_n 0, 1) := by decide +kernel
theorem dX12_both_52 : decode cX12_both 52 = .ok (.getfield 174, 3) := by decide +kernel
theorem dX12_both_55 : decode cX12_both 55 = .ok (.ifCond .ge 15, 3) := by decide +kernel
theorem dX12_both_58 : decode cX12_both 58 = .ok (.aload_n 0, 1) := by decide +kernel
theorem dX12_both_59 : decode cX12_both 59 = .ok (.bipush 13, 2) := by decide +kernel
theorem dX12_both_61 : decode cX12_both 61 = .ok (.iload_n 2, 1) := by decide +kernel
theorem dX12_both_62 : decode cX12_both 62 = .ok (.iload_n 3, 1) := by decide +kernel
theorem dX12_both_63 : decode cX12_both 63 = .ok (.iconst 0, 1) := by decide +kernel
theorem dX12_both_64 : decode cX12_both 64 = .ok (.invokevirtual 156, 3) := by decide +kernel
theorem dX12_both_67 : decode cX12_both 67 = .ok (.goto 4, 3) := by decide +kernel
theorem dX12_both_70 : decode cX12_both 70 = .ok (.iconst 0, 1) := by decide +kernel
theorem dX12_both_71 : decode cX12_both 71 = .ok (.istore_n 2, 1) := by decide +kernel
theorem dX12_both_72 : decode cX12_both 72 = .ok (.goto (-65), 3) := by decide +kernel
theorem dX12_both_75 : decode cX12_both 75 = .ok (.iload_n 2, 1) := by decide +kernel
theorem dX12_both_76 : decode cX12_both 76 = .ok (.ireturn, 1) := by decide +kernel
theorem dX12_one_0 : decode cX12_one 0 = .ok (.aload_n 0, 1) := by decide +kernel
theorem dX12_one_1 : decode cX12_one 1 = .ok (.invokevirtual 184, 3) := by decide +kernel
theorem dX12_one_4 : decode cX12_one 4 = .ok (.istore_n 3, 1) := by decide +kernel
theorem dX12_one_5 : decode cX12_one 5 = .ok (.iload_n 2, 1) := by decide +kernel
theorem dX12_one_6 : decode cX12_one 6 = .ok (.bipush 30, 2) := by decide +kernel
theorem dX12_one_8 : decode cX12_one 8 = .ok (.if_icmp .le 8, 3) := by decide +kernel
theorem dX12_one_11 : decode cX12_one 11 = .ok (.aload_n 0, 1) := by decide +kernel
theorem dX12_one_12 : decode cX12_one 12 = .ok (.invokevirtual 180, 3) := by decide +kernel
theorem dX12_one_15 : decode cX12_one 15 = .ok (.ireturn, 1) := by decide +kernel
theorem dX12_one_16 : decode cX12_one 16 = .ok (.iload_n 3, 1) := by decide +kernel
theorem dX12_one_17 : decode cX12_one 17 = .ok (.bipush 97, 2) := by decide +kernel
theorem dX12_one_19 : decode cX12_one 19 = .ok (.bipush 104, 2) := by decide +kernel
theorem dX12_one_21 : decode cX12_one 21 = .ok (.invokestatic 10, 3) := by decide +kernel
theorem dX12_one_24 : decode cX12_one 24 = .ok (.ifCond .ne 15, 3) := by decide +kernel
theorem dX12_one_27 : decode cX12_one 27 = .ok (.iload_n 3, 1) := by decide +kernel
theorem dX12_one_28 : decode cX12_one 28 = .ok (.bipush 48, 2) := by decide +kernel
theorem dX12_one_30 : decode cX12_one 30 = .ok (.if_icmp .eq 9, 3) := by decide +kernel
theorem dX12_one_33 : decode cX12_one 33 = .ok (.iload_n 3, 1) := by decide +kernel
theorem dX12_one_34 : decode cX12_one 34 = .ok (.bipush 49, 2) := by decide +kernel
theorem dX12_one_36 : decode cX12_one 36 = .ok (.if_icmp .ne 91, 3) := by decide +kernel
theorem dX12_one_39 : decode cX12_one 39 = .ok (.aload_n 0, 1) := by decide +kernel
theorem dX12_one_40 : decode cX12_one 40 = .ok (.invokevirtual 190, 3) := by decide +kernel
theorem dX12_one_43 : decode cX12_one 43 = .ok (.aload_n 0, 1) := by decide +kernel
theorem dX12_one_44 : decode cX12_one 44 = .ok (.dup, 1) := by decide +kernel
theorem dX12_one_45 : decode cX12_one 45 = .ok (.getfield 171, 3) := by decide +kernel
theorem dX12_one_48 : decode cX12_one 48 = .ok (.aload_n 0, 1) := by decide +kernel
theorem dX12_one_49 : decode cX12_one 49 = .ok (.getfield 174, 3) := by decide +kernel
theorem dX12_one_52 : decode cX12_one 52 = .ok (.ifCond .ge 7, 3) := by decide +kernel
theorem dX12_one_55 : decode cX12_one 55 = .ok (.iconst 1, 1) := by decide +kernel
theorem dX12_one_56 : decode cX12_one 56 = .ok (.goto 4, 3) := by decide +kernel
theorem dX12_one_59 : decode cX12_one 59 = .ok (.iconst 0, 1) := by decide +kernel
theorem dX12_one_60 : decode cX12_one 60 = .ok (.iadd, 1) := by decide +kernel
theorem dX12_one_61 : decode cX12_one 61 = .ok (.putfield 171, 3) := by decide +kernel
theorem dX12_one_64 : decode cX12_one 64 = .ok (.aload_n 0, 1) := by decide +kernel
theorem dX12_one_65 : decode cX12_one 65 = .ok (.getfield 174, 3) := by decide +kernel
theorem dX12_one_68 : decode cX12_one 68 = .ok (.ifCond .lt 7, 3) := by decide +kernel
theorem dX12_one_71 : decode cX12_one 71 = .ok (.iconst 0, 1) := by decide +kernel
theorem dX12_one_72 : decode cX12_one 72 = .ok (.goto 54, 3) := by decide +kernel
theorem dX12_one_75 : decode cX12_one 75 = .ok (.iload_n 3, 1) := by decide +kernel
theorem dX12_one_76 : decode cX12_one 76 = .ok (.bipush 48, 2) := by decide +kernel
theorem dX12_one_78 : decode cX12_one 78 = .ok (.if_icmp .ne 16, 3) := by decide +kernel
theorem dX12_one_81 : decode cX12_one 81 = .ok (.aload_n 0, 1) := by decide +kernel
theorem dX12_one_82 : decode cX12_one 82 = .ok (.iconst 2, 1) := by decide +kernel
theorem dX12_one_83 : decode cX12_one 83 = .ok (.bipush (-2), 2) := by decide +kernel
theorem dX12_one_85 : decode cX12_one 85 = .ok (.bipush (-2), 2) := by decide +kernel
theorem dX12_one_87 : decode cX12_one 87 = .ok (.iconst 0, 1) := by decide +kernel
theorem dX12_one_88 : decode cX12_one 88 = .ok (.invokevirtual 156, 3) := by decide +kernel
theorem dX12_one_91 : decode cX12_one 91 = .ok (.goto 35, 3) := by decide +kernel
theorem dX12_one_94 : decode cX12_one 94 = .ok (.iload_n 3, 1) := by decide +kernel
theorem dX12_one_95 : decode cX12_one 95 = .ok (.bipush 49, 2) := by decide +kernel
theorem dX12_one_97 : decode cX12_one 97 = .ok (.if_icmp .ne 16, 3) := by decide +kernel
theorem dX12_one_100 : decode cX12_one 100 = .ok (.aload_n 0, 1) := by decide +kernel
theorem dX12_one_101 : decode cX12_one 101 = .ok (.iconst 3, 1) := by decide +kernel
theorem dX12_one_102 : decode cX12_one 102 = .ok (.bipush (-2), 2) := by decide +kernel
theorem dX12_one_104 : decode cX12_one 104 = .ok (.bipush (-2), 2) := by decide +kernel
theorem dX12_one_106 : decode cX12_one 106 = .ok (.iconst 0, 1) := by decide +kernel
theorem dX12_one_107 : decode cX12_one 107 = .ok (.invokevirtual 156, 3) := by decide +kernel
theorem dX12_one_110 : decode cX12_one 110 = .ok (.goto 16, 3) := by decide +kernel
theorem dX12_one_113 : decode cX12_one 113 = .ok (.aload_n 0, 1) := by decide +kernel
theorem dX12_one_114 : decode cX12_one 114 = .ok (.iconst 1, 1) := by decide +kernel
theorem dX12_one_115 : decode cX12_one 115 = .ok (.bipush (-2), 2) := by decide +kernel
theorem dX12_one_117 : decode cX12_one 117 = .ok (.bipush (-2), 2) := by decide +kernel
theorem dX12_one_119 : decode cX12_one 119 = .ok (.iload_n 3, 1) := by decide +kernel
theorem dX12_one_120 : decode cX12_one 120 = .ok (.bipush 97, 2) := by decide +kernel
theorem dX12_one_122 : decode cX12_one 122 = .ok (.isub, 1) := by decide +kernel
theorem dX12_one_123 : decode cX12_one 123 = .ok (.invokevirtual 156, 3) := by decide +kernel
theorem dX12_one_126 : decode cX12_one 126 = .ok (.ireturn, 1) := by decide +kernel
theorem dX12_one_127 : decode cX12_one 127 = .ok (.iload_n 3, 1) := by decide +kernel
theorem dX12_one_128 : decode cX12_one 128 = .ok (.bipush 40, 2) := by decide +kernel
theorem dX12_one_130 : decode cX12_one 130 = .ok (.if_icmp .ne 37, 3) := by decide +kernel
theorem dX12_one_133 : decode cX12_one 133 = .ok (.aload_n 0, 1) := by decide +kernel
theorem dX12_one_134 : decode cX12_one 134 = .ok (.dup, 1) := by decide +kernel
theorem dX12_one_135 : decode cX12_one 135 = .ok (.getfield 171, 3) := by decide +kernel
theorem dX12_one_138 : decode cX12_one 138 = .ok (.iconst 1, 1) := by decide +kernel
theorem dX12_one_139 : decode cX12_one 139 = .ok (.iadd, 1) := by decide +kernel
theorem dX12_one_140 : decode cX12_one 140 = .ok (.putfield 171, 3) := by decide +kernel
theorem dX12_one_143 : decode cX12_one 143 = .ok (.aload_n 0, 1) := by decide +kernel
theorem dX12_one_144 : decode cX12_one 144 = .ok (.iload_n 1, 1) := by decide +kernel
theorem dX12_one_145 : decode cX12_one 145 = .ok (.iconst 1, 1) := by decide +kernel
theorem dX12_one_146 : decode cX12_one 146 = .ok (.iadd, 1) := by decide +kernel
theorem dX12_one_147 : decode cX12_one 147 = .ok (.aload_n 0, 1) := by decide +kernel
theorem dX12_one_148 : decode cX12_one 148 = .ok (.getfield 171, 3) := by decide +kernel
theorem dX12_one_151 : decode cX12_one 151 = .ok (.iconst 1, 1) := by decide +kernel
theorem dX12_one_152 : decode cX12_one 152 = .ok (.isub, 1) := by decide +kernel
theorem dX12_one_153 : decode cX12_one 153 = .ok (.invokevirtual 206, 3) := by decide +kernel
theorem dX12_one_156 : decode cX12_one 156 = .ok (.istore 4, 2) := by decide +kernel
theorem dX12_one_158 : decode cX12_one 158 = .ok (.aload_n 0, 1) := by decide +kernel
theorem dX12_one_159 : decode cX12_one 159 = .ok (.bipush 41, 2) := by decide +kernel
theorem dX12_one_161 : decode cX12_one 161 = .ok (.invokevirtual 193, 3) := by decide +kernel
theorem dX12_one_164 : decode cX12_one 164 = .ok (.iload 4, 2) := by decide +kernel
theorem dX12_one_166 : decode cX12_one 166 = .ok (.ireturn, 1) := by decide +kernel
theorem dX12_one_167 : decode cX12_one 167 = .ok (.iload_n 3, 1) := by decide +kernel
theorem dX12_one_168 : decode cX12_one 168 = .ok (.bipush 91, 2) := by decide +kernel
theorem dX12_one_170 : decode cX12_one 170 = .ok (.if_icmp .eq 9, 3) := by decide +kernel
theorem dX12_one_173 : decode cX12_one 173 = .ok (.iload_n 3, 1) := by decide +kernel
theorem dX12_one_174 : decode cX12_one 174 = .ok (.bipush 123, 2) := by decide +kernel
theorem dX12_one_176 : decode cX12_one 176 = .ok (.if_icmp .ne 100, 3) := by decide +kernel
theorem dX12_one_179 : decode cX12_one 179 = .ok (.aload_n 0, 1) := by decide +kernel
theorem dX12_one_180 : decode cX12_one 180 = .ok (.invokevirtual 190, 3) := by decide +kernel
theorem dX12_one_183 : decode cX12_one 183 = .ok (.aload_n 0, 1) := by decide +kernel
theorem dX12_one_184 : decode cX12_one 184 = .ok (.iload_n 3, 1) := by decide +kernel
theorem dX12_one_185 : decode cX12_one 185 = .ok (.invokevirtual 193, 3) := by decide +kernel
theorem dX12_one_188 : decode cX12_one 188 = .ok (.aload_n 0, 1) := by decide +kernel
theorem dX12_one_189 : decode cX12_one 189 = .ok (.getfield 174, 3) := by decide +kernel
theorem dX12_one_192 : decode cX12_one 192 = .ok (.ifCond .ge 19, 3) := by decide +kernel
theorem dX12_one_195 : decode cX12_one 195 = .ok (.aload_n 0, 1) := by decide +kernel
theorem dX12_one_196 : decode cX12_one 196 = .ok (.iload_n 1, 1) := by decide +kernel
theorem dX12_one_197 : decode cX12_one 197 = .ok (.iconst 1, 1) := by decide +kernel
theorem dX12_one_198 : decode cX12_one 198 = .ok (.iadd, 1) := by decide +kernel
theorem dX12_one_199 : decode cX12_one 199 = .ok (.aload_n 0, 1) := by decide +kernel
theorem dX12_one_200 : decode cX12_one 200 = .ok (.getfield 171, 3) := by decide +kernel
theorem dX12_one_203 : decode cX12_one 203 = .ok (.iconst 1, 1) := by decide +kernel
theorem dX12_one_204 : decode cX12_one 204 = .ok (.isub, 1) := by decide +kernel
theorem dX12_one_205 : decode cX12_one 205 = .ok (.invokevirtual 206, 3) := by decide +kernel
theorem dX12_one_208 : decode cX12_one 208 = .ok (.goto 4, 3) := by decide +kernel
theorem dX12_one_211 : decode cX12_one 211 = .ok (.iconst 0, 1) := by decide +kernel
theorem dX12_one_212 : decode cX12_one 212 = .ok (.istore 4, 2) := by decide +kernel
theorem dX12_one_214 : decode cX12_one 214 = .ok (.aload_n 0, 1) := by decide +kernel
theorem dX12_one_215 : decode cX12_one 215 = .ok (.iload_n 3, 1) := by decide +kernel
theorem dX12_one_216 : decode cX12_one 216 = .ok (.iconst 2, 1) := by decide +kernel
theorem dX12_one_217 : decode cX12_one 217 = .ok (.iadd, 1) := by decide +kernel
theorem dX12_one_218 : decode cX12_one 218 = .ok (.invokevirtual 193, 3) := by decide +kernel
theorem dX12_one_221 : decode cX12_one 221 = .ok (.aload_n 0, 1) := by decide +kernel
theorem dX12_one_222 : decode cX12_one 222 = .ok (.getfield 174, 3) := by decide +kernel
theorem dX12_one_225 : decode cX12_one 225 = .ok (.ifCond .ge 14, 3) := by decide +kernel
theorem dX12_one_228 : decode cX12_one 228 = .ok (.aload_n 0, 1) := by decide +kernel
theorem dX12_one_229 : decode cX12_one 229 = .ok (.iload_n 1, 1) := by decide +kernel
theorem dX12_one_230 : decode cX12_one 230 = .ok (.iload_n 2, 1) := by decide +kernel
theorem dX12_one_231 : decode cX12_one 231 = .ok (.iconst 1, 1) := by decide +kernel
theorem dX12_one_232 : decode cX12_one 232 = .ok (.iadd, 1) := by decide +kernel
theorem dX12_one_233 : decode cX12_one 233 = .ok (.invokevirtual 203, 3) := by decide +kernel
theorem dX12_one_236 : decode cX12_one 236 = .ok (.goto 4, 3) := by decide +kernel
theorem dX12_one_239 : decode cX12_one 239 = .ok (.iconst 0, 1) := by decide +kernel
theorem dX12_one_240 : decode cX12_one 240 = .ok (.istore 5, 2) := by decide +kernel
theorem dX12_one_242 : decode cX12_one 242 = .ok (.aload_n 0, 1) := by decide +kernel
theorem dX12_one_243 : decode cX12_one 243 = .ok (.getfield 174, 3) := by decide +kernel
theorem dX12_one_246 : decode cX12_one 246 = .ok (.ifCond .ge 28, 3) := by decide +kernel
theorem dX12_one_249 : decode cX12_one 249 = .ok (.aload_n 0, 1) := by decide +kernel
theorem dX12_one_250 : decode cX12_one 250 = .ok (.iload_n 3, 1) := by decide +kernel
theorem dX12_one_251 : decode cX12_one 251 = .ok (.bipush 91, 2) := by decide +kernel
theorem dX12_one_253 : decode cX12_one 253 = .ok (.if_icmp .ne 8, 3) := by decide +kernel
theorem dX12_one_256 : decode cX12_one 256 = .ok (.bipush 14, 2) := by decide +kernel
theorem dX12_one_258 : decode cX12_one 258 = .ok (.goto 5, 3) := by decide +kernel
theorem dX12_one_261 : decode cX12_one 261 = .ok (.bipush 15, 2) := by decide +kernel
theorem dX12_one_263 : decode cX12_one 263 = .ok (.iload 4, 2) := by decide +kernel
theorem dX12_one_265 : decode cX12_one 265 = .ok (.iload 5, 2) := by decide +kernel
theorem dX12_one_267 : decode cX12_one 267 = .ok (.iconst 0, 1) := by decide +kernel
theorem dX12_one_268 : decode cX12_one 268 = .ok (.invokevirtual 156, 3) := by decide +kernel
theorem dX12_one_271 : decode cX12_one 271 = .ok (.goto 4, 3) := by decide +kernel
theorem dX12_one_274 : decode cX12_one 274 = .ok (.iconst 0, 1) := by decide +kernel
theorem dX12_one_275 : decode cX12_one 275 = .ok (.ireturn, 1) := by decide +kernel
theorem dX12_one_276 : decode cX12_one 276 = .ok (.iload_n 3, 1) := by decide +kernel
theorem dX12_one_277 : decode cX12_one 277 = .ok (.bipush 126, 2) := by decide +kernel
theorem dX12_one_279 : decode cX12_one 279 = .ok (.if_icmp .ne 7, 3) := by decide +kernel
theorem dX12_one_282 : decode cX12_one 282 = .ok (.iconst 4, 1) := by decide +kernel
theorem dX12_one_283 : decode cX12_one 283 = .ok (.goto 59, 3) := by decide +kernel
theorem dX12_one_286 : decode cX12_one 286 = .ok (.iload_n 3, 1) := by decide +kernel
theorem dX12_one_287 : decode cX12_one 287 = .ok (.bipush 75, 2) := by decide +kernel
theorem dX12_one_289 : decode cX12_one 289 = .ok (.if_icmp .ne 7, 3) := by decide +kernel
theorem dX12_one_292 : decode cX12_one 292 = .ok (.iconst 5, 1) := by decide +kernel
theorem dX12_one_293 : decode cX12_one 293 = .ok (.goto 49, 3) := by decide +kernel
theorem dX12_one_296 : decode cX12_one 296 = .ok (.iload_n 3, 1) := by decide +kernel
theorem dX12_one_297 : decode cX12_one 297 = .ok (.bipush 80, 2) := by decide +kernel
theorem dX12_one_299 : decode cX12_one 299 = .ok (.if_icmp .ne 8, 3) := by decide +kernel
theorem dX12_one_302 : decode cX12_one 302 = .ok (.bipush 6, 2) := by decide +kernel
theorem dX12_one_304 : decode cX12_one 304 = .ok (.goto 38, 3) := by decide +kernel
theorem dX12_one_307 : decode cX12_one 307 = .ok (.iload_n 3, 1) := by decide +kernel
theorem dX12_one_308 : decode cX12_one 308 = .ok (.bipush 69, 2) := by decide +kernel
theorem dX12_one_310 : decode cX12_one 310 = .ok (.if_icmp .ne 8, 3) := by decide +kernel
theorem dX12_one_313 : decode cX12_one 313 = .ok (.bipush 7, 2) := by decide +kernel
theorem dX12_one_315 : decode cX12_one 315 = .ok (.goto 27, 3) := by decide +kernel
theorem dX12_one_318 : decode cX12_one 318 = .ok (.iload_n 3, 1) := by decide +kernel
theorem dX12_one_319 : decode cX12_one 319 = .ok (.bipush 67, 2) := by decide +kernel
theorem dX12_one_321 : decode cX12_one 321 = .ok (.if_icmp .ne 8, 3) := by decide +kernel
theorem dX12_one_324 : decode cX12_one 324 = .ok (.bipush 8, 2) := by decide +kernel
theorem dX12_one_326 : decode cX12_one 326 = .ok (.goto 16, 3) := by decide +kernel
theorem dX12_one_329 : decode cX12_one 329 = .ok (.iload_n 3, 1) := by decide +kernel
theorem dX12_one_330 : decode cX12_one 330 = .ok (.bipush 68, 2) := by decide +kernel
theorem dX12_one_332 : decode cX12_one 332 = .ok (.if_icmp .ne 8, 3) := by decide +kernel
theorem dX12_one_335 : decode cX12_one 335 = .ok (.bipush 9, 2) := by decide +kernel
theorem dX12_one_337 : decode cX12_one 337 = .ok (.goto 5, 3) := by decide +kernel
theorem dX12_one_340 : decode cX12_one 340 = .ok (.bipush (-2), 2) := by decide +kernel
theorem dX12_one_342 : decode cX12_one 342 = .ok (.istore 4, 2) := by decide +kernel
theorem dX12_one_344 : decode cX12_one 344 = .ok (.iload 4, 2) := by decide +kernel
theorem dX12_one_346 : decode cX12_one 346 = .ok (.ifCond .ge 8, 3) := by decide +kernel
theorem dX12_one_349 : decode cX12_one 349 = .ok (.aload_n 0, 1) := by decide +kernel
theorem dX12_one_350 : decode cX12_one 350 = .ok (.invokevirtual 180, 3) := by decide +kernel
theorem dX12_one_353 : decode cX12_one 353 = .ok (.ireturn, 1) := by decide +kernel
theorem dX12_one_354 : decode cX12_one 354 = .ok (.aload_n 0, 1) := by decide +kernel
theorem dX12_one_355 : decode cX12_one 355 = .ok (.invokevirtual 190, 3) := by decide +kernel
theorem dX12_one_358 : decode cX12_one 358 = .ok (.aload_n 0, 1) := by decide +kernel
theorem dX12_one_359 : decode cX12_one 359 = .ok (.iload_n 3, 1) := by decide +kernel
theorem dX12_one_360 : decode cX12_one 360 = .ok (.invokevirtual 193, 3) := by decide +kernel
theorem dX12_one_363 : decode cX12_one 363 = .ok (.aload_n 0, 1) := by decide +kernel
theorem dX12_one_364 : decode cX12_one 364 = .ok (.getfield 174, 3) := by decide +kernel
theorem dX12_one_367 : decode cX12_one 367 = .ok (.ifCond .ge 34, 3) := by decide +kernel
theorem dX12_one_370 : decode cX12_one 370 = .ok (.iload 4, 2) := by decide +kernel
theorem dX12_one_372 : decode cX12_one 372 = .ok (.iconst 4, 1) := by decide +kernel
theorem dX12_one_373 : decode cX12_one 373 = .ok (.if_icmp .eq 28, 3) := by decide +kernel
theorem dX12_one_376 : decode cX12_one 376 = .ok (.aload_n 0, 1) := by decide +kernel
theorem dX12_one_377 : decode cX12_one 377 = .ok (.iload 4, 2) := by decide +kernel
theorem dX12_one_379 : decode cX12_one 379 = .ok (.iconst 5, 1) := by decide +kernel
theorem dX12_one_380 : decode cX12_one 380 = .ok (.if_icmp .eq 10, 3) := by decide +kernel
theorem dX12_one_383 : decode cX12_one 383 = .ok (.iload 4, 2) := by decide +kernel
theorem dX12_one_385 : decode cX12_one 385 = .ok (.bipush 6, 2) := by decide +kernel
theorem dX12_one_387 : decode cX12_one 387 = .ok (.if_icmp .ne 7, 3) := by decide +kernel
theorem dX12_one_390 : decode cX12_one 390 = .ok (.iconst 1, 1) := by decide +kernel
theorem dX12_one_391 : decode cX12_one 391 = .ok (.goto 4, 3) := by decide +kernel
theorem dX12_one_394 : decode cX12_one 394 = .ok (.iconst 0, 1) := by decide +kernel
theorem dX12_one_395 : decode cX12_one 395 = .ok (.invokevirtual 209, 3) := by decide +kernel
theorem dX12_one_398 : decode cX12_one 398 = .ok (.goto 4, 3) := by decide +kernel
theorem dX12_one_401 : decode cX12_one 401 = .ok (.iconst 0, 1) := by decide +kernel
theorem dX12_one_402 : decode cX12_one 402 = .ok (.istore 5, 2) := by decide +kernel
theorem dX12_one_404 : decode cX12_one 404 = .ok (.aload_n 0, 1) := by decide +kernel
theorem dX12_one_405 : decode cX12_one 405 = .ok (.getfield 174, 3) := by decide +kernel
theorem dX12_one_408 : decode cX12_one 408 = .ok (.ifCond .ge 14, 3) := by decide +kernel
theorem dX12_one_411 : decode cX12_one 411 = .ok (.aload_n 0, 1) := by decide +kernel
theorem dX12_one_412 : decode cX12_one 412 = .ok (.iload_n 1, 1) := by decide +kernel
theorem dX12_one_413 : decode cX12_one 413 = .ok (.iload_n 2, 1) := by decide +kernel
theorem dX12_one_414 : decode cX12_one 414 = .ok (.iconst 1, 1) := by decide +kernel
theorem dX12_one_415 : decode cX12_one 415 = .ok (.iadd, 1) := by decide +kernel
theorem dX12_one_416 : decode cX12_one 416 = .ok (.invokevirtual 203, 3) := by decide +kernel
theorem dX12_one_419 : decode cX12_one 419 = .ok (.goto 4, 3) := by decide +kernel
theorem dX12_one_422 : decode cX12_one 422 = .ok (.iconst 0, 1) := by decide +kernel
theorem dX12_one_423 : decode cX12_one 423 = .ok (.istore 6, 2) := by decide +kernel
theorem dX12_one_425 : decode cX12_one 425 = .ok (.aload_n 0, 1) := by decide +kernel
theorem dX12_one_426 : decode cX12_one 426 = .ok (.getfield 174, 3) := by decide +kernel
theorem dX12_one_429 : decode cX12_one 429 = .ok (.ifCond .ge 18, 3) := by decide +kernel
theorem dX12_one_432 : decode cX12_one 432 = .ok (.aload_n 0, 1) := by decide +kernel
theorem dX12_one_433 : decode cX12_one 433 = .ok (.iload 4, 2) := by decide +kernel
theorem dX12_one_435 : decode cX12_one 435 = .ok (.iload 6, 2) := by decide +kernel
theorem dX12_one_437 : decode cX12_one 437 = .ok (.bipush (-2), 2) := by decide +kernel
theorem dX12_one_439 : decode cX12_one 439 = .ok (.iload 5, 2) := by decide +kernel
theorem dX12_one_441 : decode cX12_one 441 = .ok (.invokevirtual 156, 3) := by decide +kernel
theorem dX12_one_444 : decode cX12_one 444 = .ok (.goto 4, 3) := by decide +kernel
theorem dX12_one_447 : decode cX12_one 447 = .ok (.iconst 0, 1) := by decide +kernel
theorem dX12_one_448 : decode cX12_one 448 = .ok (.ireturn, 1) := by decide +kernel
def f_X12_formulaAt_84 (F P : Nat) (S : xSt) (self_X12_implied : Nat → Int32 → xDt → Option (Int32 × xDt)) (s0 : Int32) (D : xDt) : Option (Int32 × xDt) :=
  some (s0, D)
set_option maxHeartbeats 4000000 in
theorem t_X12_formulaAt_84 {F P : Nat} {S : xSt} (hS : xWF S) {hh : Nat} (hhc : 2 ≤ hh) {self_X12_implied : Nat → Int32 → xDt → Option (Int32 × xDt)} (hself_X12_implied : ∀ {v0 : Nat} {v1 : Int32} {D : xDt} {r : Int32 × xDt}, xK S v0 12 → self_X12_implied v0 v1 D = some r → xSp md_X12_implied (hh, 0, 0) [.ref v0, .int v1] (S, D) (xQi S r)) {s0 : Int32} {D : xDt} {r : Int32 × xDt} (h : f_X12_formulaAt_84 F P S self_X12_implied s0 D = some r) : yEx md_X12_formulaAt (hh + 1) 84 [] [.int s0] S D (xQi S r) := by
  unfold f_X12_formulaAt_84 at h
  refine y_istore_n s0 rfl [(3, .int s0)] dX12_formulaAt_84 (by show _ < 5; decide) rfl ?_
  refine x_iload_n dX12_formulaAt_85 0 rfl ?_
  obtain rfl := Option.some.inj h
  exact y_iret rfl dX12_formulaAt_86

def f_X12_formulaAt_61 (F P : Nat) (S : xSt) (self_X12_implied : Nat → Int32 → xDt → Option (Int32 × xDt)) (v0 : Nat) (v3 : Int32) (s0 : Int32) (D : xDt) : Option (Int32 × xDt) :=
  if 0 ≤ (D.1 v0 18) then (f_X12_formulaAt_84 F P S self_X12_implied 0 D) else ((f_X12_node F P S v0 10 v3 s0 0 D).bind fun q1 => f_X12_formulaAt_84 F P S self_X12_implied q1.1 q1.2)
set_option maxHeartbeats 4000000 in
theorem t_X12_formulaAt_61 {F P : Nat} {S : xSt} (hS : xWF S) {hh : Nat} (hhc : 2 ≤ hh) {self_X12_implied : Nat → Int32 → xDt → Option (Int32 × xDt)} (hself_X12_implied : ∀ {v0 : Nat} {v1 : Int32} {D : xDt} {r : Int32 × xDt}, xK S v0 12 → self_X12_implied v0 v1 D = some r → xSp md_X12_implied (hh, 0, 0) [.ref v0, .int v1] (S, D) (xQi S r)) {v0 : Nat} {v3 : Int32} {s0 : Int32} {D : xDt} {r : Int32 × xDt} (k0 : xK S v0 12) (h : f_X12_formulaAt_61 F P S self_X12_implied v0 v3 s0 D = some r) : yEx md_X12_formulaAt (hh + 1) 61 [(0, .ref v0), (3, .int v3)] [.int s0] S D (xQi S r) := by
  unfold f_X12_formulaAt_61 at h
  refine y_istore s0 rfl [(4, .int s0), (0, .ref v0), (3, .int v3)] dX12_formulaAt_61 (by show _ < 5; decide) rfl ?_
  refine x_aload_n dX12_formulaAt_63 1 rfl ?_
  refine y_geti fl_RX12_174 dX12_formulaAt_64 rfl k0 ?_
  refine x_if_ge 83 dX12_formulaAt_67 (by decide) (fun c => ?_) (fun c => ?_)
  · rw [if_pos c] at h
    refine x_iconst 0 dX12_formulaAt_83 (by decide) ?_
    refine x_lv (lv' := []) [] rfl ?_
    exact t_X12_formulaAt_84 hS hhc hself_X12_implied h
  · rw [if_neg c] at h
    refine x_aload_n dX12_formulaAt_70 1 rfl ?_
    refine x_bipush 10 dX12_formulaAt_71 (by decide) ?_
    refine x_iload_n dX12_formulaAt_73 2 rfl ?_
    refine x_iload dX12_formulaAt_74 0 rfl ?_
    refine x_iconst 0 dX12_formulaAt_76 (by decide) ?_
    refine xbnd_e h (fun q1 e1 h => ?_)
    refine y_callVi (As := [.int 10, .int v3, .int s0, .int 0]) (q := q1) cv_RX12_156 dX12_formulaAt_77 k0 rfl (Nat.le_of_ble_eq_true rfl) (by omega) (S_X12_node hS k0 e1) ?_
    refine x_goto 84 dX12_formulaAt_80 (by decide) ?_
    refine x_lv (lv' := []) [] rfl ?_
    exact t_X12_formulaAt_84 hS hhc hself_X12_implied h

def f_X12_formulaAt_o (F P : Nat) (S : xSt) (self_X12_implied : Nat → Int32 → xDt → Option (Int32 × xDt)) (v0 : Nat) (v1 : Int32) (v2 : Int32) (D : xDt) : Option (Int32 × xDt) :=
  if v1 ≤ 15 then ((self_X12_implied v0 v1 D).bind fun q1 => if 0 ≤ (q1.2.1 v0 18) then (some (q1.1, q1.2)) else ((f_X12_look F P S v0 q1.2).bind fun q2 => if q2.1 = 61 then ((f_X12_counts F P S v0 q2.2).bind fun q3 => (f_X12_must F P S v0 61 q3).bind fun q4 => if 0 ≤ (q4.1 v0 18) then (f_X12_formulaAt_61 F P S self_X12_implied v0 q1.1 0 q4) else ((self_X12_implied v0 v1 q4).bind fun q5 => f_X12_formulaAt_61 F P S self_X12_implied v0 q1.1 q5.1 q5.2)) else (some (q1.1, q2.2)))) else (xlet (xup D.1 v0 18 v2, D.2) fun D6 => some (0, D6))
set_option maxHeartbeats 4000000 in
theorem S_X12_formulaAt_o {F P : Nat} {S : xSt} (hS : xWF S) {hh : Nat} (hhc : 2 ≤ hh) {self_X12_implied : Nat → Int32 → xDt → Option (Int32 × xDt)} (hself_X12_implied : ∀ {v0 : Nat} {v1 : Int32} {D : xDt} {r : Int32 × xDt}, xK S v0 12 → self_X12_implied v0 v1 D = some r → xSp md_X12_implied (hh, 0, 0) [.ref v0, .int v1] (S, D) (xQi S r)) {v0 : Nat} {v1 : Int32} {v2 : Int32} {D : xDt} {r : Int32 × xDt} (k0 : xK S v0 12) (h : f_X12_formulaAt_o F P S self_X12_implied v0 v1 v2 D = some r) : xSp md_X12_formulaAt ((hh + 1), 0, 0) [.ref v0, .int v1, .int v2] (S, D) (xQi S r) := by
  unfold f_X12_formulaAt_o at h
  refine xEntry (by decide) (Nat.le_of_ble_eq_true rfl) ?_
  refine x_lv (lv' := [(0, .ref v0), (1, .int v1), (2, .int v2)]) [0, 1, 2] rfl ?_
  refine x_iload_n dX12_formulaAt_0 1 rfl ?_
  refine x_bipush 15 dX12_formulaAt_1 (by decide) ?_
  refine x_icmp_le 13 dX12_formulaAt_3 (by decide) (fun c => ?_) (fun c => ?_)
  · rw [if_pos c] at h
    refine x_aload_n dX12_formulaAt_13 0 rfl ?_
    refine x_iload_n dX12_formulaAt_14 1 rfl ?_
    refine xbnd_e h (fun q1 e1 h => ?_)
    refine y_callVi (As := [.int v1]) (q := q1) cv_RX12_187 dX12_formulaAt_15 k0 rfl (Nat.le_of_ble_eq_true rfl) (by omega) (hself_X12_implied k0 e1) ?_
    refine y_istore_n q1.1 rfl [(3, .int q1.1), (0, .ref v0), (1, .int v1), (2, .int v2)] dX12_formulaAt_18 (by show _ < 5; decide) rfl ?_
    refine x_aload_n dX12_formulaAt_19 1 rfl ?_
    refine y_geti fl_RX12_174 dX12_formulaAt_20 rfl k0 ?_
    refine x_if_ge 85 dX12_formulaAt_23 (by decide) (fun c => ?_) (fun c => ?_)
    · rw [if_pos c] at h
      refine x_iload_n dX12_formulaAt_85 0 rfl ?_
      obtain rfl := Option.some.inj h
      exact y_iret rfl dX12_formulaAt_86
    · rw [if_neg c] at h
      refine x_aload_n dX12_formulaAt_26 1 rfl ?_
      refine xbnd_e h (fun q2 e2 h => ?_)
      refine y_callVi (As := []) (q := q2) cv_RX12_184 dX12_formulaAt_27 k0 rfl (Nat.le_of_ble_eq_true rfl) (by omega) (S_X12_look hS k0 e2) ?_
      refine x_bipush 61 dX12_formulaAt_30 (by decide) ?_
      refine x_icmp_ne 85 dX12_formulaAt_32 (by decide) (fun c => ?_) (fun c => ?_)
      · rw [if_neg c] at h
        refine x_iload_n dX12_formulaAt_85 0 rfl ?_
        obtain rfl := Option.some.inj h
        exact y_iret rfl dX12_formulaAt_86
      · rw [if_pos c] at h
        refine x_aload_n dX12_formulaAt_35 1 rfl ?_
        refine xbnd_e h (fun q3 e3 h => ?_)
        refine y_callVv (As := []) (q := q3) cv_RX12_190 dX12_formulaAt_36 k0 rfl (Nat.le_of_ble_eq_true rfl) (by omega) (S_X12_counts hS k0 e3) ?_
        refine x_aload_n dX12_formulaAt_39 1 rfl ?_
        refine x_bipush 61 dX12_formulaAt_40 (by decide) ?_
        refine xbnd_e h (fun q4 e4 h => ?_)
        refine y_callVv (As := [.int 61]) (q := q4) cv_RX12_193 dX12_formulaAt_42 k0 rfl (Nat.le_of_ble_eq_true rfl) (by omega) (S_X12_must hS k0 e4) ?_
        refine x_aload_n dX12_formulaAt_45 1 rfl ?_
        refine y_geti fl_RX12_174 dX12_formulaAt_46 rfl k0 ?_
        refine x_if_ge 60 dX12_formulaAt_49 (by decide) (fun c => ?_) (fun c => ?_)
        · rw [if_pos c] at h
          refine x_iconst 0 dX12_formulaAt_60 (by decide) ?_
          refine x_lv (lv' := [(0, .ref v0), (3, .int q1.1)]) [1, 0] rfl ?_
          exact t_X12_formulaAt_61 hS hhc hself_X12_implied k0 h
        · rw [if_neg c] at h
          refine x_aload_n dX12_formulaAt_52 1 rfl ?_
          refine x_iload_n dX12_formulaAt_53 2 rfl ?_
          refine xbnd_e h (fun q5 e5 h => ?_)
          refine y_callVi (As := [.int v1]) (q := q5) cv_RX12_187 dX12_formulaAt_54 k0 rfl (Nat.le_of_ble_eq_true rfl) (by omega) (hself_X12_implied k0 e5) ?_
          refine x_goto 61 dX12_formulaAt_57 (by decide) ?_
          refine x_lv (lv' := [(0, .ref v0), (3, .int q1.1)]) [1, 0] rfl ?_
          exact t_X12_formulaAt_61 hS hhc hself_X12_implied k0 h
  · rw [if_neg c] at h
    refine x_aload_n dX12_formulaAt_6 0 rfl ?_
    refine x_iload_n dX12_formulaAt_7 2 rfl ?_
    refine xlet_e h (fun D6 eD6 h => ?_)
    refine y_puti fp_RX12_174 dX12_formulaAt_8 rfl k0 eD6 ?_
    refine x_iconst 0 dX12_formulaAt_11 (by decide) ?_
    obtain rfl := Option.some.inj h
    exact y_iret rfl dX12_formulaAt_12

def f_X12_implied_69 (F P : Nat) (S : xSt) (self_X12_implied : Nat → Int32 → xDt → Option (Int32 × xDt)) (self_X12_either : Nat → Int32 → xDt → Option (Int32 × xDt)) (s0 : Int32) (D : xDt) : Option (Int32 × xDt) :=
  some (s0, D)
set_option maxHeartbeats 4000000 in
theorem t_X12_implied_69 {F P : Nat} {S : xSt} (hS : xWF S) {hh : Nat} (hhc : 2 ≤ hh) {self_X12_implied : Nat → Int32 → xDt → Option (Int32 × xDt)} (hself_X12_implied : ∀ {v0 : Nat} {v1 : Int32} {D : xDt} {r : Int32 × xDt}, xK S v0 12 → self_X12_implied v0 v1 D = some r → xSp md_X12_implied (hh, 0, 0) [.ref v0, .int v1] (S, D) (xQi S r)) {self_X12_either : Nat → Int32 → xDt → Option (Int32 × xDt)} (hself_X12_either : ∀ {v0 : Nat} {v1 : Int32} {D : xDt} {r : Int32 × xDt}, xK S v0 12 → self_X12_either v0 v1 D = some r → xSp md_X12_either (hh, 0, 0) [.ref v0, .int v1] (S, D) (xQi S r)) {s0 : Int32} {D : xDt} {r : Int32 × xDt} (h : f_X12_implied_69 F P S self_X12_implied self_X12_either s0 D = some r) : yEx md_X12_implied (hh + 1) 69 [] [.int s0] S D (xQi S r) := by
  unfold f_X12_implied_69 at h
  refine y_istore_n s0 rfl [(2, .int s0)] dX12_implied_69 (by show _ < 4; decide) rfl ?_
  refine x_iload_n dX12_implied_70 0 rfl ?_
  obtain rfl := Option.some.inj h
  exact y_iret rfl dX12_implied_71

def f_X12_implied_48 (F P : Nat) (S : xSt) (self_X12_implied : Nat → Int32 → xDt → Option (Int32 × xDt)) (self_X12_either : Nat → Int32 → xDt → Option (Int32 × xDt)) (v0 : Nat) (v2 : Int32) (s0 : Int32) (D : xDt) : Option (Int32 × xDt) :=
  if 0 ≤ (D.1 v0 18) then (f_X12_implied_69 F P S self_X12_implied self_X12_either 0 D) else ((f_X12_node F P S v0 11 v2 s0 0 D).bind fun q1 => f_X12_implied_69 F P S self_X12_implied self_X12_either q1.1 q1.2)
set_option maxHeartbeats 4000000 in
theorem t_X12_implied_48 {F P : Nat} {S : xSt} (hS : xWF S) {hh : Nat} (hhc : 2 ≤ hh) {self_X12_implied : Nat → Int32 → xDt → Option (Int32 × xDt)} (hself_X12_implied : ∀ {v0 : Nat} {v1 : Int32} {D : xDt} {r : Int32 × xDt}, xK S v0 12 → self_X12_implied v0 v1 D = some r → xSp md_X12_implied (hh, 0, 0) [.ref v0, .int v1] (S, D) (xQi S r)) {self_X12_either : Nat → Int32 → xDt → Option (Int32 × xDt)} (hself_X12_either : ∀ {v0 : Nat} {v1 : Int32} {D : xDt} {r : Int32 × xDt}, xK S v0 12 → self_X12_either v0 v1 D = some r → xSp md_X12_either (hh, 0, 0) [.ref v0, .int v1] (S, D) (xQi S r)) {v0 : Nat} {v2 : Int32} {s0 : Int32} {D : xDt} {r : Int32 × xDt} (k0 : xK S v0 12) (h : f_X12_implied_48 F P S self_X12_implied self_X12_either v0 v2 s0 D = some r) : yEx md_X12_implied (hh + 1) 48 [(0, .ref v0), (2, .int v2)] [.int s0] S D (xQi S r) := by
  unfold f_X12_implied_48 at h
  refine y_istore_n s0 rfl [(3, .int s0), (0, .ref v0), (2, .int v2)] dX12_implied_48 (by show _ < 4; decide) rfl ?_
  refine x_aload_n dX12_implied_49 1 rfl ?_
  refine y_geti fl_RX12_174 dX12_implied_50 rfl k0 ?_
  refine x_if_ge 68 dX12_implied_53 (by decide) (fun c => ?_) (fun c => ?_)
  · rw [if_pos c] at h
    refine x_iconst 0 dX12_implied_68 (by decide) ?_
    refine x_lv (lv' := []) [] rfl ?_
    exact t_X12_implied_69 hS hhc hself_X12_implied hself_X12_either h
  · rw [if_neg c] at h
    refine x_aload_n dX12_implied_56 1 rfl ?_
    refine x_bipush 11 dX12_implied_57 (by decide) ?_
    refine x_iload_n dX12_implied_59 2 rfl ?_
    refine x_iload_n dX12_implied_60 0 rfl ?_
    refine x_iconst 0 dX12_implied_61 (by decide) ?_
    refine xbnd_e h (fun q1 e1 h => ?_)
    refine y_callVi (As := [.int 11, .int v2, .int s0, .int 0]) (q := q1) cv_RX12_156 dX12_implied_62 k0 rfl (Nat.le_of_ble_eq_true rfl) (by omega) (S_X12_node hS k0 e1) ?_
    refine x_goto 69 dX12_implied_65 (by decide) ?_
    refine x_lv (lv' := []) [] rfl ?_
    exact t_X12_implied_69 hS hhc hself_X12_implied hself_X12_either h

def f_X12_implied_o (F P : Nat) (S : xSt) (self_X12_implied : Nat → Int32 → xDt → Option (Int32 × xDt)) (self_X12_either : Nat → Int32 → xDt → Option (Int32 × xDt)) (v0 : Nat) (v1 : Int32) (D : xDt) : Option (Int32 × xDt) :=
  (self_X12_either v0 v1 D).bind fun q1 => if 0 ≤ (q1.2.1 v0 18) then (some (q1.1, q1.2)) else ((f_X12_look F P S v0 q1.2).bind fun q2 => if q2.1 = 62 then ((f_X12_counts F P S v0 q2.2).bind fun q3 => (f_X12_must F P S v0 62 q3).bind fun q4 => if 0 ≤ (q4.1 v0 18) then (f_X12_implied_48 F P S self_X12_implied self_X12_either v0 q1.1 0 q4) else ((self_X12_implied v0 v1 q4).bind fun q5 => f_X12_implied_48 F P S self_X12_implied self_X12_either v0 q1.1 q5.1 q5.2)) else (some (q1.1, q2.2)))
set_option maxHeartbeats 4000000 in
theorem S_X12_implied_o {F P : Nat} {S : xSt} (hS : xWF S) {hh : Nat} (hhc : 2 ≤ hh) {self_X12_implied : Nat → Int32 → xDt → Option (Int32 × xDt)} (hself_X12_implied : ∀ {v0 : Nat} {v1 : Int32} {D : xDt} {r : Int32 × xDt}, xK S v0 12 → self_X12_implied v0 v1 D = some r → xSp md_X12_implied (hh, 0, 0) [.ref v0, .int v1] (S, D) (xQi S r)) {self_X12_either : Nat → Int32 → xDt → Option (Int32 × xDt)} (hself_X12_either : ∀ {v0 : Nat} {v1 : Int32} {D : xDt} {r : Int32 × xDt}, xK S v0 12 → self_X12_either v0 v1 D = some r → xSp md_X12_either (hh, 0, 0) [.ref v0, .int v1] (S, D) (xQi S r)) {v0 : Nat} {v1 : Int32} {D : xDt} {r : Int32 × xDt} (k0 : xK S v0 12) (h : f_X12_implied_o F P S self_X12_implied self_X12_either v0 v1 D = some r) : xSp md_X12_implied ((hh + 1), 0, 0) [.ref v0, .int v1] (S, D) (xQi S r) := by
  unfold f_X12_implied_o at h
  refine xEntry (by decide) (Nat.le_of_ble_eq_true rfl) ?_
  refine x_lv (lv' := [(0, .ref v0), (1, .int v1)]) [0, 1] rfl ?_
  refine x_aload_n dX12_implied_0 0 rfl ?_
  refine x_iload_n dX12_implied_1 1 rfl ?_
  refine xbnd_e h (fun q1 e1 h => ?_)
  refine y_callVi (As := [.int v1]) (q := q1) cv_RX12_197 dX12_implied_2 k0 rfl (Nat.le_of_ble_eq_true rfl) (by omega) (hself_X12_either k0 e1) ?_
  refine y_istore_n q1.1 rfl [(2, .int q1.1), (0, .ref v0), (1, .int v1)] dX12_implied_5 (by show _ < 4; decide) rfl ?_
  refine x_aload_n dX12_implied_6 1 rfl ?_
  refine y_geti fl_RX12_174 dX12_implied_7 rfl k0 ?_
  refine x_if_ge 70 dX12_implied_10 (by decide) (fun c => ?_) (fun c => ?_)
  · rw [if_pos c] at h
    refine x_iload_n dX12_implied_70 0 rfl ?_
    obtain rfl := Option.some.inj h
    exact y_iret rfl dX12_implied_71
  · rw [if_neg c] at h
    refine x_aload_n dX12_implied_13 1 rfl ?_
    refine xbnd_e h (fun q2 e2 h => ?_)
    refine y_callVi (As := []) (q := q2) cv_RX12_184 dX12_implied_14 k0 rfl (Nat.le_of_ble_eq_true rfl) (by omega) (S_X12_look hS k0 e2) ?_
    refine x_bipush 62 dX12_implied_17 (by decide) ?_
    refine x_icmp_ne 70 dX12_implied_19 (by decide) (fun c => ?_) (fun c => ?_)
    · rw [if_neg c] at h
      refine x_iload_n dX12_implied_70 0 rfl ?_
      obtain rfl := Option.some.inj h
      exact y_iret rfl dX12_implied_71
    · rw [if_pos c] at h
      refine x_aload_n dX12_implied_22 1 rfl ?_
      refine xbnd_e h (fun q3 e3 h => ?_)
      refine y_callVv (As := []) (q := q3) cv_RX12_190 dX12_implied_23 k0 rfl (Nat.le_of_ble_eq_true rfl) (by omega) (S_X12_counts hS k0 e3) ?_
      refine x_aload_n dX12_implied_26 1 rfl ?_
      refine x_bipush 62 dX12_implied_27 (by decide) ?_
      refine xbnd_e h (fun q4 e4 h => ?_)
      refine y_callVv (As := [.int 62]) (q := q4) cv_RX12_193 dX12_implied_29 k0 rfl (Nat.le_of_ble_eq_true rfl) (by omega) (S_X12_must hS k0 e4) ?_
      refine x_aload_n dX12_implied_32 1 rfl ?_
      refine y_geti fl_RX12_174 dX12_implied_33 rfl k0 ?_
      refine x_if_ge 47 dX12_implied_36 (by decide) (fun c => ?_) (fun c => ?_)
      · rw [if_pos c] at h
        refine x_iconst 0 dX12_implied_47 (by decide) ?_
        refine x_lv (lv' := [(0, .ref v0), (2, .int q1.1)]) [1, 0] rfl ?_
        exact t_X12_implied_48 hS hhc hself_X12_implied hself_X12_either k0 h
      · rw [if_neg c] at h
        refine x_aload_n dX12_implied_39 1 rfl ?_
        refine x_iload_n dX12_implied_40 2 rfl ?_
        refine xbnd_e h (fun q5 e5 h => ?_)
        refine y_callVi (As := [.int v1]) (q := q5) cv_RX12_187 dX12_implied_41 k0 rfl (Nat.le_of_ble_eq_true rfl) (by omega) (hself_X12_implied k0 e5) ?_
        refine x_goto 48 dX12_implied_44 (by decide) ?_
        refine x_lv (lv' := [(0, .ref v0), (2, .int q1.1)]) [1, 0] rfl ?_
        exact t_X12_implied_48 hS hhc hself_X12_implied hself_X12_either k0 h

def f_X12_either_69 (F P : Nat) (S : xSt) (self_X12_both : Nat → Int32 → xDt → Option (Int32 × xDt)) (rec_6 : Nat → Int32 → Int32 → xDt → Option (Int32 × xDt)) (v0 : Nat) (v1 : Int32) (s0 : Int32) (D : xDt) : Option (Int32 × xDt) :=
  rec_6 v0 v1 s0 D
set_option maxHeartbeats 4000000 in
theorem t_X12_either_69 {F P : Nat} {S : xSt} (hS : xWF S) {hh : Nat} (hhc : 2 ≤ hh) {self_X12_both : Nat → Int32 → xDt → Option (Int32 × xDt)} (hself_X12_both : ∀ {v0 : Nat} {v1 : Int32} {D : xDt} {r : Int32 × xDt}, xK S v0 12 → self_X12_both v0 v1 D = some r → xSp md_X12_both (hh, 0, 0) [.ref v0, .int v1] (S, D) (xQi S r)) {rec_6 : Nat → Int32 → Int32 → xDt → Option (Int32 × xDt)} (hrec_6 : ∀ {v0 : Nat} {v1 : Int32} {v2 : Int32} {D : xDt} {r : Int32 × xDt}, xK S v0 12 → rec_6 v0 v1 v2 D = some r → yEx md_X12_either (hh + 1) 6 [(0, .ref v0), (1, .int v1), (2, .int v2)] [] S D (xQi S r)) {v0 : Nat} {v1 : Int32} {s0 : Int32} {D : xDt} {r : Int32 × xDt} (k0 : xK S v0 12) (h : f_X12_either_69 F P S self_X12_both rec_6 v0 v1 s0 D = some r) : yEx md_X12_either (hh + 1) 69 [(0, .ref v0), (1, .int v1)] [.int s0] S D (xQi S r) := by
  unfold f_X12_either_69 at h
  refine y_istore_n s0 rfl [(2, .int s0), (0, .ref v0), (1, .int v1)] dX12_either_69 (by show _ < 4; decide) rfl ?_
  refine x_goto 6 dX12_either_70 (by decide) ?_
  refine x_lv (lv' := [(0, .ref v0), (1, .int v1), (2, .int s0)]) [1, 2, 0] rfl ?_
  exact hrec_6 k0 h

def f_X12_either_48 (F P : Nat) (S : xSt) (self_X12_both : Nat → Int32 → xDt → Option (Int32 × xDt)) (rec_6 : Nat → Int32 → Int32 → xDt → Option (Int32 × xDt)) (v0 : Nat) (v1 : Int32) (v2 : Int32) (s0 : Int32) (D : xDt) : Option (Int32 × xDt) :=
  if 0 ≤ (D.1 v0 18) then (f_X12_either_69 F P S self_X12_both rec_6 v0 v1 0 D) else ((f_X12_node F P S v0 12 v2 s0 0 D).bind fun q1 => f_X12_either_69 F P S self_X12_both rec_6 v0 v1 q1.1 q1.2)
set_option maxHeartbeats 4000000 in
theorem t_X12_either_48 {F P : Nat} {S : xSt} (hS : xWF S) {hh : Nat} (hhc : 2 ≤ hh) {self_X12_both : Nat → Int32 → xDt → Option (Int32 × xDt)} (hself_X12_both : ∀ {v0 : Nat} {v1 : Int32} {D : xDt} {r : Int32 × xDt}, xK S v0 12 → self_X12_both v0 v1 D = some r → xSp md_X12_both (hh, 0, 0) [.ref v0, .int v1] (S, D) (xQi S r)) {rec_6 : Nat → Int32 → Int32 → xDt → Option (Int32 × xDt)} (hrec_6 : ∀ {v0 : Nat} {v1 : Int32} {v2 : Int32} {D : xDt} {r : Int32 × xDt}, xK S v0 12 → rec_6 v0 v1 v2 D = some r → yEx md_X12_either (hh + 1) 6 [(0, .ref v0), (1, .int v1), (2, .int v2)] [] S D (xQi S r)) {v0 : Nat} {v1 : Int32} {v2 : Int32} {s0 : Int32} {D : xDt} {r : Int32 × xDt} (k0 : xK S v0 12) (h : f_X12_either_48 F P S self_X12_both rec_6 v0 v1 v2 s0 D = some r) : yEx md_X12_either (hh + 1) 48 [(0, .ref v0), (1, .int v1), (2, .int v2)] [.int s0] S D (xQi S r) := by
  unfold f_X12_either_48 at h
  refine y_istore_n s0 rfl [(3, .int s0), (0, .ref v0), (1, .int v1), (2, .int v2)] dX12_either_48 (by show _ < 4; decide) rfl ?_
  refine x_aload_n dX12_either_49 1 rfl ?_
  refine y_geti fl_RX12_174 dX12_either_50 rfl k0 ?_
  refine x_if_ge 68 dX12_either_53 (by decide) (fun c => ?_) (fun c => ?_)
  · rw [if_pos c] at h
    refine x_iconst 0 dX12_either_68 (by decide) ?_
    refine x_lv (lv' := [(0, .ref v0), (1, .int v1)]) [1, 2] rfl ?_
    exact t_X12_either_69 hS hhc hself_X12_both hrec_6 k0 h
  · rw [if_neg c] at h
    refine x_aload_n dX12_either_56 1 rfl ?_
    refine x_bipush 12 dX12_either_57 (by decide) ?_
    refine x_iload_n dX12_either_59 3 rfl ?_
    refine x_iload_n dX12_either_60 0 rfl ?_
    refine x_iconst 0 dX12_either_61 (by decide) ?_
    refine xbnd_e h (fun q1 e1 h => ?_)
    refine y_callVi (As := [.int 12, .int v2, .int s0, .int 0]) (q := q1) cv_RX12_156 dX12_either_62 k0 rfl (Nat.le_of_ble_eq_true rfl) (by omega) (S_X12_node hS k0 e1) ?_
    refine x_goto 69 dX12_either_65 (by decide) ?_
    refine x_lv (lv' := [(0, .ref v0), (1, .int v1)]) [1, 2] rfl ?_
    exact t_X12_either_69 hS hhc hself_X12_both hrec_6 k0 h

def f_X12_either_6s (F P : Nat) (S : xSt) (self_X12_both : Nat → Int32 → xDt → Option (Int32 × xDt)) (rec_6 : Nat → Int32 → Int32 → xDt → Option (Int32 × xDt)) (v0 : Nat) (v1 : Int32) (v2 : Int32) (D : xDt) : Option (Int32 × xDt) :=
  if 0 ≤ (D.1 v0 18) then (some (v2, D)) else ((f_X12_look F P S v0 D).bind fun q1 => if q1.1 = 124 then ((f_X12_counts F P S v0 q1.2).bind fun q2 => (f_X12_must F P S v0 124 q2).bind fun q3 => if 0 ≤ (q3.1 v0 18) then (f_X12_either_48 F P S self_X12_both rec_6 v0 v1 v2 0 q3) else ((self_X12_both v0 v1 q3).bind fun q4 => f_X12_either_48 F P S self_X12_both rec_6 v0 v1 v2 q4.1 q4.2)) else (some (v2, q1.2)))
def f_X12_either_6 (F P : Nat) (S : xSt) (self_X12_both : Nat → Int32 → xDt → Option (Int32 × xDt)) : Nat → Nat → Int32 → Int32 → xDt → Option (Int32 × xDt)
  | 0 => fun _ _ _ _ => none
  | n + 1 => f_X12_either_6s F P S self_X12_both (f_X12_either_6 F P S self_X12_both n)
set_option maxHeartbeats 4000000 in
theorem t_X12_either_6s {F P : Nat} {S : xSt} (hS : xWF S) {hh : Nat} (hhc : 2 ≤ hh) {self_X12_both : Nat → Int32 → xDt → Option (Int32 × xDt)} (hself_X12_both : ∀ {v0 : Nat} {v1 : Int32} {D : xDt} {r : Int32 × xDt}, xK S v0 12 → self_X12_both v0 v1 D = some r → xSp md_X12_both (hh, 0, 0) [.ref v0, .int v1] (S, D) (xQi S r)) {rec_6 : Nat → Int32 → Int32 → xDt → Option (Int32 × xDt)} (hrec_6 : ∀ {v0 : Nat} {v1 : Int32} {v2 : Int32} {D : xDt} {r : Int32 × xDt}, xK S v0 12 → rec_6 v0 v1 v2 D = some r → yEx md_X12_either (hh + 1) 6 [(0, .ref v0), (1, .int v1), (2, .int v2)] [] S D (xQi S r)) {v0 : Nat} {v1 : Int32} {v2 : Int32} {D : xDt} {r : Int32 × xDt} (k0 : xK S v0 12) (h : f_X12_either_6s F P S self_X12_both rec_6 v0 v1 v2 D = some r) : yEx md_X12_either (hh + 1) 6 [(0, .ref v0), (1, .int v1), (2, .int v2)] [] S D (xQi S r) := by
  unfold f_X12_either_6s at h
  refine x_aload_n dX12_either_6 0 rfl ?_
  refine y_geti fl_RX12_174 dX12_either_7 rfl k0 ?_
  refine x_if_ge 73 dX12_either_10 (by decide) (fun c => ?_) (fun c => ?_)
  · rw [if_pos c] at h
    refine x_iload_n dX12_either_73 2 rfl ?_
    obtain rfl := Option.some.inj h
    exact y_iret rfl dX12_either_74
  · rw [if_neg c] at h
    refine x_aload_n dX12_either_13 0 rfl ?_
    refine xbnd_e h (fun q1 e1 h => ?_)
    refine y_callVi (As := []) (q := q1) cv_RX12_184 dX12_either_14 k0 rfl (Nat.le_of_ble_eq_true rfl) (by omega) (S_X12_look hS k0 e1) ?_
    refine x_bipush 124 dX12_either_17 (by decide) ?_
    refine x_icmp_ne 73 dX12_either_19 (by decide) (fun c => ?_) (fun c => ?_)
    · rw [if_neg c] at h
      refine x_iload_n dX12_either_73 2 rfl ?_
      obtain rfl := Option.some.inj h
      exact y_iret rfl dX12_either_74
    · rw [if_pos c] at h
      refine x_aload_n dX12_either_22 0 rfl ?_
      refine xbnd_e h (fun q2 e2 h => ?_)
      refine y_callVv (As := []) (q := q2) cv_RX12_190 dX12_either_23 k0 rfl (Nat.le_of_ble_eq_true rfl) (by omega) (S_X12_counts hS k0 e2) ?_
      refine x_aload_n dX12_either_26 0 rfl ?_
      refine x_bipush 124 dX12_either_27 (by decide) ?_
      refine xbnd_e h (fun q3 e3 h => ?_)
      refine y_callVv (As := [.int 124]) (q := q3) cv_RX12_193 dX12_either_29 k0 rfl (Nat.le_of_ble_eq_true rfl) (by omega) (S_X12_must hS k0 e3) ?_
      refine x_aload_n dX12_either_32 0 rfl ?_
      refine y_geti fl_RX12_174 dX12_either_33 rfl k0 ?_
      refine x_if_ge 47 dX12_either_36 (by decide) (fun c => ?_) (fun c => ?_)
      · rw [if_pos c] at h
        refine x_iconst 0 dX12_either_47 (by decide) ?_
        exact t_X12_either_48 hS hhc hself_X12_both hrec_6 k0 h
      · rw [if_neg c] at h
        refine x_aload_n dX12_either_39 0 rfl ?_
        refine x_iload_n dX12_either_40 1 rfl ?_
        refine xbnd_e h (fun q4 e4 h => ?_)
        refine y_callVi (As := [.int v1]) (q := q4) cv_RX12_200 dX12_either_41 k0 rfl (Nat.le_of_ble_eq_true rfl) (by omega) (hself_X12_both k0 e4) ?_
        refine x_goto 48 dX12_either_44 (by decide) ?_
        exact t_X12_either_48 hS hhc hself_X12_both hrec_6 k0 h
theorem t_X12_either_6 {F P : Nat} {S : xSt} (hS : xWF S) {hh : Nat} (hhc : 2 ≤ hh) {self_X12_both : Nat → Int32 → xDt → Option (Int32 × xDt)} (hself_X12_both : ∀ {v0 : Nat} {v1 : Int32} {D : xDt} {r : Int32 × xDt}, xK S v0 12 → self_X12_both v0 v1 D = some r → xSp md_X12_both (hh, 0, 0) [.ref v0, .int v1] (S, D) (xQi S r)) : ∀ (n : Nat) {v0 : Nat} {v1 : Int32} {v2 : Int32} {D : xDt} {r : Int32 × xDt}, xK S v0 12 → f_X12_either_6 F P S self_X12_both n v0 v1 v2 D = some r → yEx md_X12_either (hh + 1) 6 [(0, .ref v0), (1, .int v1), (2, .int v2)] [] S D (xQi S r) := by
  intro n
  induction n with
  | zero => intros; rename_i h; cases h
  | succ n ih =>
    intro v0 v1 v2 D r k0 h
    exact t_X12_either_6s hS hhc hself_X12_both (fun k0 h => ih k0 h) k0 h

def f_X12_either_o (F P : Nat) (S : xSt) (self_X12_both : Nat → Int32 → xDt → Option (Int32 × xDt)) (v0 : Nat) (v1 : Int32) (D : xDt) : Option (Int32 × xDt) :=
  (self_X12_both v0 v1 D).bind fun q1 => f_X12_either_6 F P S self_X12_both F v0 v1 q1.1 q1.2
set_option maxHeartbeats 4000000 in
theorem S_X12_either_o {F P : Nat} {S : xSt} (hS : xWF S) {hh : Nat} (hhc : 2 ≤ hh) {self_X12_both : Nat → Int32 → xDt → Option (Int32 × xDt)} (hself_X12_both : ∀ {v0 : Nat} {v1 : Int32} {D : xDt} {r : Int32 × xDt}, xK S v0 12 → self_X12_both v0 v1 D = some r → xSp md_X12_both (hh, 0, 0) [.ref v0, .int v1] (S, D) (xQi S r)) {v0 : Nat} {v1 : Int32} {D : xDt} {r : Int32 × xDt} (k0 : xK S v0 12) (h : f_X12_either_o F P S self_X12_both v0 v1 D = some r) : xSp md_X12_either ((hh + 1), 0, 0) [.ref v0, .int v1] (S, D) (xQi S r) := by
  unfold f_X12_either_o at h
  refine xEntry (by decide) (Nat.le_of_ble_eq_true rfl) ?_
  refine x_lv (lv' := [(0, .ref v0), (1, .int v1)]) [0, 1] rfl ?_
  refine x_aload_n dX12_either_0 0 rfl ?_
  refine x_iload_n dX12_either_1 1 rfl ?_
  refine xbnd_e h (fun q1 e1 h => ?_)
  refine y_callVi (As := [.int v1]) (q := q1) cv_RX12_200 dX12_either_2 k0 rfl (Nat.le_of_ble_eq_true rfl) (by omega) (hself_X12_both k0 e1) ?_
  refine y_istore_n q1.1 rfl [(2, .int q1.1), (0, .ref v0), (1, .int v1)] dX12_either_5 (by show _ < 4; decide) rfl ?_
  refine x_lv (lv' := [(0, .ref v0), (1, .int v1), (2, .int q1.1)]) [1, 2, 0] rfl ?_
  exact t_X12_either_6 hS hhc hself_X12_both F k0 h

def f_X12_both_71 (F P : Nat) (S : xSt) (self_X12_one : Nat → Int32 → Int32 → xDt → Option (Int32 × xDt)) (rec_7 : Nat → Int32 → Int32 → xDt → Option (Int32 × xDt)) (v0 : Nat) (v1 : Int32) (s0 : Int32) (D : xDt) : Option (Int32 × xDt) :=
  rec_7 v0 v1 s0 D
set_option maxHeartbeats 4000000 in
theorem t_X12_both_71 {F P : Nat} {S : xSt} (hS : xWF S) {hh : Nat} (hhc : 2 ≤ hh) {self_X12_one : Nat → Int32 → Int32 → xDt → Option (Int32 × xDt)} (hself_X12_one : ∀ {v0 : Nat} {v1 : Int32} {v2 : Int32} {D : xDt} {r : Int32 × xDt}, xK S v0 12 → self_X12_one v0 v1 v2 D = some r → xSp md_X12_one (hh, 0, 0) [.ref v0, .int v1, .int v2] (S, D) (xQi S r)) {rec_7 : Nat → Int32 → Int32 → xDt → Option (Int32 × xDt)} (hrec_7 : ∀ {v0 : Nat} {v1 : Int32} {v2 : Int32} {D : xDt} {r : Int32 × xDt}, xK S v0 12 → rec_7 v0 v1 v2 D = some r → yEx md_X12_both (hh + 1) 7 [(0, .ref v0), (1, .int v1), (2, .int v2)] [] S D (xQi S r)) {v0 : Nat} {v1 : Int32} {s0 : Int32} {D : xDt} {r : Int32 × xDt} (k0 : xK S v0 12) (h : f_X12_both_71 F P S self_X12_one rec_7 v0 v1 s0 D = some r) : yEx md_X12_both (hh + 1) 71 [(0, .ref v0), (1, .int v1)] [.int s0] S D (xQi S r) := by
  unfold f_X12_both_71 at h
  refine y_istore_n s0 rfl [(2, .int s0), (0, .ref v0), (1, .int v1)] dX12_both_71 (by show _ < 4; decide) rfl ?_
  refine x_goto 7 dX12_both_72 (by decide) ?_
  refine x_lv (lv' := [(0, .ref v0), (1, .int v1), (2, .int s0)]) [1, 2, 0] rfl ?_
  exact hrec_7 k0 h

def f_X12_both_50 (F P : Nat) (S : xSt) (self_X12_one : Nat → Int32 → Int32 → xDt → Option (Int32 × xDt)) (rec_7 : Nat → Int32 → Int32 → xDt → Option (Int32 × xDt)) (v0 : Nat) (v1 : Int32) (v2 : Int32) (s0 : Int32) (D : xDt) : Option (Int32 × xDt) :=
  if 0 ≤ (D.1 v0 18) then (f_X12_both_71 F P S self_X12_one rec_7 v0 v1 0 D) else ((f_X12_node F P S v0 13 v2 s0 0 D).bind fun q1 => f_X12_both_71 F P S self_X12_one rec_7 v0 v1 q1.1 q1.2)
set_option maxHeartbeats 4000000 in
theorem t_X12_both_50 {F P : Nat} {S : xSt} (hS : xWF S) {hh : Nat} (hhc : 2 ≤ hh) {self_X12_one : Nat → Int32 → Int32 → xDt → Option (Int32 × xDt)} (hself_X12_one : ∀ {v0 : Nat} {v1 : Int32} {v2 : Int32} {D : xDt} {r : Int32 × xDt}, xK S v0 12 → self_X12_one v0 v1 v2 D = some r → xSp md_X12_one (hh, 0, 0) [.ref v0, .int v1, .int v2] (S, D) (xQi S r)) {rec_7 : Nat → Int32 → Int32 → xDt → Option (Int32 × xDt)} (hrec_7 : ∀ {v0 : Nat} {v1 : Int32} {v2 : Int32} {D : xDt} {r : Int32 × xDt}, xK S v0 12 → rec_7 v0 v1 v2 D = some r → yEx md_X12_both (hh + 1) 7 [(0, .ref v0), (1, .int v1), (2, .int v2)] [] S D (xQi S r)) {v0 : Nat} {v1 : Int32} {v2 : Int32} {s0 : Int32} {D : xDt} {r : Int32 × xDt} (k0 : xK S v0 12) (h : f_X12_both_50 F P S self_X12_one rec_7 v0 v1 v2 s0 D = some r) : yEx md_X12_both (hh + 1) 50 [(0, .ref v0), (1, .int v1), (2, .int v2)] [.int s0] S D (xQi S r) := by
  unfold f_X12_both_50 at h
  refine y_istore_n s0 rfl [(3, .int s0), (0, .ref v0), (1, .int v1), (2, .int v2)] dX12_both_50 (by show _ < 4; decide) rfl ?_
  refine x_aload_n dX12_both_51 1 rfl ?_
  refine y_geti fl_RX12_174 dX12_both_52 rfl k0 ?_
  refine x_if_ge 70 dX12_both_55 (by decide) (fun c => ?_) (fun c => ?_)
  · rw [if_pos c] at h
    refine x_iconst 0 dX12_both_70 (by decide) ?_
    refine x_lv (lv' := [(0, .ref v0), (1, .int v1)]) [1, 2] rfl ?_
    exact t_X12_both_71 hS hhc hself_X12_one hrec_7 k0 h
  · rw [if_neg c] at h
    refine x_aload_n dX12_both_58 1 rfl ?_
    refine x_bipush 13 dX12_both_59 (by decide) ?_
    refine x_iload_n dX12_both_61 3 rfl ?_
    refine x_iload_n dX12_both_62 0 rfl ?_
    refine x_iconst 0 dX12_both_63 (by decide) ?_
    refine xbnd_e h (fun q1 e1 h => ?_)
    refine y_callVi (As := [.int 13, .int v2, .int s0, .int 0]) (q := q1) cv_RX12_156 dX12_both_64 k0 rfl (Nat.le_of_ble_eq_true rfl) (by omega) (S_X12_node hS k0 e1) ?_
    refine x_goto 71 dX12_both_67 (by decide) ?_
    refine x_lv (lv' := [(0, .ref v0), (1, .int v1)]) [1, 2] rfl ?_
    exact t_X12_both_71 hS hhc hself_X12_one hrec_7 k0 h

def f_X12_both_7s (F P : Nat) (S : xSt) (self_X12_one : Nat → Int32 → Int32 → xDt → Option (Int32 × xDt)) (rec_7 : Nat → Int32 → Int32 → xDt → Option (Int32 × xDt)) (v0 : Nat) (v1 : Int32) (v2 : Int32) (D : xDt) : Option (Int32 × xDt) :=
  if 0 ≤ (D.1 v0 18) then (some (v2, D)) else ((f_X12_look F P S v0 D).bind fun q1 => if q1.1 = 38 then ((f_X12_counts F P S v0 q1.2).bind fun q2 => (f_X12_must F P S v0 38 q2).bind fun q3 => if 0 ≤ (q3.1 v0 18) then (f_X12_both_50 F P S self_X12_one rec_7 v0 v1 v2 0 q3) else ((self_X12_one v0 v1 0 q3).bind fun q4 => f_X12_both_50 F P S self_X12_one rec_7 v0 v1 v2 q4.1 q4.2)) else (some (v2, q1.2)))
def f_X12_both_7 (F P : Nat) (S : xSt) (self_X12_one : Nat → Int32 → Int32 → xDt → Option (Int32 × xDt)) : Nat → Nat → Int32 → Int32 → xDt → Option (Int32 × xDt)
  | 0 => fun _ _ _ _ => none
  | n + 1 => f_X12_both_7s F P S self_X12_one (f_X12_both_7 F P S self_X12_one n)
set_option maxHeartbeats 4000000 in
theorem t_X12_both_7s {F P : Nat} {S : xSt} (hS : xWF S) {hh : Nat} (hhc : 2 ≤ hh) {self_X12_one : Nat → Int32 → Int32 → xDt → Option (Int32 × xDt)} (hself_X12_one : ∀ {v0 : Nat} {v1 : Int32} {v2 : Int32} {D : xDt} {r : Int32 × xDt}, xK S v0 12 → self_X12_one v0 v1 v2 D = some r → xSp md_X12_one (hh, 0, 0) [.ref v0, .int v1, .int v2] (S, D) (xQi S r)) {rec_7 : Nat → Int32 → Int32 → xDt → Option (Int32 × xDt)} (hrec_7 : ∀ {v0 : Nat} {v1 : Int32} {v2 : Int32} {D : xDt} {r : Int32 × xDt}, xK S v0 12 → rec_7 v0 v1 v2 D = some r → yEx md_X12_both (hh + 1) 7 [(0, .ref v0), (1, .int v1), (2, .int v2)] [] S D (xQi S r)) {v0 : Nat} {v1 : Int32} {v2 : Int32} {D : xDt} {r : Int32 × xDt} (k0 : xK S v0 12) (h : f_X12_both_7s F P S self_X12_one rec_7 v0 v1 v2 D = some r) : yEx md_X12_both (hh + 1) 7 [(0, .ref v0), (1, .int v1), (2, .int v2)] [] S D (xQi S r) := by
  unfold f_X12_both_7s at h
  refine x_aload_n dX12_both_7 0 rfl ?_
  refine y_geti fl_RX12_174 dX12_both_8 rfl k0 ?_
  refine x_if_ge 75 dX12_both_11 (by decide) (fun c => ?_) (fun c => ?_)
  · rw [if_pos c] at h
    refine x_iload_n dX12_both_75 2 rfl ?_
    obtain rfl := Option.some.inj h
    exact y_iret rfl dX12_both_76
  · rw [if_neg c] at h
    refine x_aload_n dX12_both_14 0 rfl ?_
    refine xbnd_e h (fun q1 e1 h => ?_)
    refine y_callVi (As := []) (q := q1) cv_RX12_184 dX12_both_15 k0 rfl (Nat.le_of_ble_eq_true rfl) (by omega) (S_X12_look hS k0 e1) ?_
    refine x_bipush 38 dX12_both_18 (by decide) ?_
    refine x_icmp_ne 75 dX12_both_20 (by decide) (fun c => ?_) (fun c => ?_)
    · rw [if_neg c] at h
      refine x_iload_n dX12_both_75 2 rfl ?_
      obtain rfl := Option.some.inj h
      exact y_iret rfl dX12_both_76
    · rw [if_pos c] at h
      refine x_aload_n dX12_both_23 0 rfl ?_
      refine xbnd_e h (fun q2 e2 h => ?_)
      refine y_callVv (As := []) (q := q2) cv_RX12_190 dX12_both_24 k0 rfl (Nat.le_of_ble_eq_true rfl) (by omega) (S_X12_counts hS k0 e2) ?_
      refine x_aload_n dX12_both_27 0 rfl ?_
      refine x_bipush 38 dX12_both_28 (by decide) ?_
      refine xbnd_e h (fun q3 e3 h => ?_)
      refine y_callVv (As := [.int 38]) (q := q3) cv_RX12_193 dX12_both_30 k0 rfl (Nat.le_of_ble_eq_true rfl) (by omega) (S_X12_must hS k0 e3) ?_
      refine x_aload_n dX12_both_33 0 rfl ?_
      refine y_geti fl_RX12_174 dX12_both_34 rfl k0 ?_
      refine x_if_ge 49 dX12_both_37 (by decide) (fun c => ?_) (fun c => ?_)
      · rw [if_pos c] at h
        refine x_iconst 0 dX12_both_49 (by decide) ?_
        exact t_X12_both_50 hS hhc hself_X12_one hrec_7 k0 h
      · rw [if_neg c] at h
        refine x_aload_n dX12_both_40 0 rfl ?_
        refine x_iload_n dX12_both_41 1 rfl ?_
        refine x_iconst 0 dX12_both_42 (by decide) ?_
        refine xbnd_e h (fun q4 e4 h => ?_)
        refine y_callVi (As := [.int v1, .int 0]) (q := q4) cv_RX12_203 dX12_both_43 k0 rfl (Nat.le_of_ble_eq_true rfl) (by omega) (hself_X12_one k0 e4) ?_
        refine x_goto 50 dX12_both_46 (by decide) ?_
        exact t_X12_both_50 hS hhc hself_X12_one hrec_7 k0 h
theorem t_X12_both_7 {F P : Nat} {S : xSt} (hS : xWF S) {hh : Nat} (hhc : 2 ≤ hh) {self_X12_one : Nat → Int32 → Int32 → xDt → Option (Int32 × xDt)} (hself_X12_one : ∀ {v0 : Nat} {v1 : Int32} {v2 : Int32} {D : xDt} {r : Int32 × xDt}, xK S v0 12 → self_X12_one v0 v1 v2 D = some r → xSp md_X12_one (hh, 0, 0) [.ref v0, .int v1, .int v2] (S, D) (xQi S r)) : ∀ (n : Nat) {v0 : Nat} {v1 : Int32} {v2 : Int32} {D : xDt} {r : Int32 × xDt}, xK S v0 12 → f_X12_both_7 F P S self_X12_one n v0 v1 v2 D = some r → yEx md_X12_both (hh + 1) 7 [(0, .ref v0), (1, .int v1), (2, .int v2)] [] S D (xQi S r) := by
  intro n
  induction n with
  | zero => intros; rename_i h; cases h
  | succ n ih =>
    intro v0 v1 v2 D r k0 h
    exact t_X12_both_7s hS hhc hself_X12_one (fun k0 h => ih k0 h) k0 h

def f_X12_both_o (F P : Nat) (S : xSt) (self_X12_one : Nat → Int32 → Int32 → xDt → Option (Int32 × xDt)) (v0 : Nat) (v1 : Int32) (D : xDt) : Option (Int32 × xDt) :=
  (self_X12_one v0 v1 0 D).bind fun q1 => f_X12_both_7 F P S self_X12_one F v0 v1 q1.1 q1.2
set_option maxHeartbeats 4000000 in
theorem S_X12_both_o {F P : Nat} {S : xSt} (hS : xWF S) {hh : Nat} (hhc : 2 ≤ hh) {self_X12_one : Nat → Int32 → Int32 → xDt → Option (Int32 × xDt)} (hself_X12_one : ∀ {v0 : Nat} {v1 : Int32} {v2 : Int32} {D : xDt} {r : Int32 × xDt}, xK S v0 12 → self_X12_one v0 v1 v2 D = some r → xSp md_X12_one (hh, 0, 0) [.ref v0, .int v1, .int v2] (S, D) (xQi S r)) {v0 : Nat} {v1 : Int32} {D : xDt} {r : Int32 × xDt} (k0 : xK S v0 12) (h : f_X12_both_o F P S self_X12_one v0 v1 D = some r) : xSp md_X12_both ((hh + 1), 0, 0) [.ref v0, .int v1] (S, D) (xQi S r) := by
  unfold f_X12_both_o at h
  refine xEntry (by decide) (Nat.le_of_ble_eq_true rfl) ?_
  refine x_lv (lv' := [(0, .ref v0), (1, .int v1)]) [0, 1] rfl ?_
  refine x_aload_n dX12_both_0 0 rfl ?_
  refine x_iload_n dX12_both_1 1 rfl ?_
  refine x_iconst 0 dX12_both_2 (by decide) ?_
  refine xbnd_e h (fun q1 e1 h => ?_)
  refine y_callVi (As := [.int v1, .int 0]) (q := q1) cv_RX12_203 dX12_both_3 k0 rfl (Nat.le_of_ble_eq_true rfl) (by omega) (hself_X12_one k0 e1) ?_
  refine y_istore_n q1.1 rfl [(2, .int q1.1), (0, .ref v0), (1, .int v1)] dX12_both_6 (by show _ < 4; decide) rfl ?_
  refine x_lv (lv' := [(0, .ref v0), (1, .int v1), (2, .int q1.1)]) [1, 2, 0] rfl ?_
  exact t_X12_both_7 hS hhc hself_X12_one F k0 h

def f_X12_one_60 (F P : Nat) (S : xSt) (self_X12_formulaAt : Nat → Int32 → Int32 → xDt → Option (Int32 × xDt)) (self_X12_one : Nat → Int32 → Int32 → xDt → Option (Int32 × xDt)) (v0 : Nat) (v3 : Int32) (s0 : Int32) (s1 : Int32) (s2 : Nat) (D : xDt) : Option (Int32 × xDt) :=
  xlet (xup D.1 s2 17 (s1 + s0), D.2) fun D1 => if (D1.1 v0 18) < 0 then (if v3 = 48 then ((f_X12_node F P S v0 2 (-2) (-2) 0 D1).bind fun q4 => some (q4.1, q4.2)) else (if v3 = 49 then ((f_X12_node F P S v0 3 (-2) (-2) 0 D1).bind fun q3 => some (q3.1, q3.2)) else ((f_X12_node F P S v0 1 (-2) (-2) (v3 - 97) D1).bind fun q2 => some (q2.1, q2.2)))) else (some (0, D1))
set_option maxHeartbeats 4000000 in
theorem t_X12_one_60 {F P : Nat} {S : xSt} (hS : xWF S) {hh : Nat} (hhc : 2 ≤ hh) {self_X12_formulaAt : Nat → Int32 → Int32 → xDt → Option (Int32 × xDt)} (hself_X12_formulaAt : ∀ {v0 : Nat} {v1 : Int32} {v2 : Int32} {D : xDt} {r : Int32 × xDt}, xK S v0 12 → self_X12_formulaAt v0 v1 v2 D = some r → xSp md_X12_formulaAt (hh, 0, 0) [.ref v0, .int v1, .int v2] (S, D) (xQi S r)) {self_X12_one : Nat → Int32 → Int32 → xDt → Option (Int32 × xDt)} (hself_X12_one : ∀ {v0 : Nat} {v1 : Int32} {v2 : Int32} {D : xDt} {r : Int32 × xDt}, xK S v0 12 → self_X12_one v0 v1 v2 D = some r → xSp md_X12_one (hh, 0, 0) [.ref v0, .int v1, .int v2] (S, D) (xQi S r)) {v0 : Nat} {v3 : Int32} {s0 : Int32} {s1 : Int32} {s2 : Nat} {D : xDt} {r : Int32 × xDt} (k0 : xK S v0 12) (ks2 : xK S s2 12) (h : f_X12_one_60 F P S self_X12_formulaAt self_X12_one v0 v3 s0 s1 s2 D = some r) : yEx md_X12_one (hh + 1) 60 [(0, .ref v0), (3, .int v3)] [.int s0, .int s1, .ref s2] S D (xQi S r) := by
  unfold f_X12_one_60 at h
  refine x_iadd dX12_one_60 ?_
  refine xlet_e h (fun D1 eD1 h => ?_)
  refine y_puti fp_RX12_171 dX12_one_61 rfl ks2 eD1 ?_
  refine x_aload_n dX12_one_64 0 rfl ?_
  refine y_geti fl_RX12_174 dX12_one_65 rfl k0 ?_
  refine x_if_lt 75 dX12_one_68 (by decide) (fun c => ?_) (fun c => ?_)
  · rw [if_pos c] at h
    refine x_iload_n dX12_one_75 1 rfl ?_
    refine x_bipush 48 dX12_one_76 (by decide) ?_
    refine x_icmp_ne 94 dX12_one_78 (by decide) (fun c => ?_) (fun c => ?_)
    · rw [if_neg c] at h
      refine x_iload_n dX12_one_94 1 rfl ?_
      refine x_bipush 49 dX12_one_95 (by decide) ?_
      refine x_icmp_ne 113 dX12_one_97 (by decide) (fun c => ?_) (fun c => ?_)
      · rw [if_neg c] at h
        refine x_aload_n dX12_one_113 0 rfl ?_
        refine x_iconst 1 dX12_one_114 (by decide) ?_
        refine x_bipush (-2) dX12_one_115 (by decide) ?_
        refine x_bipush (-2) dX12_one_117 (by decide) ?_
        refine x_iload_n dX12_one_119 1 rfl ?_
        refine x_bipush 97 dX12_one_120 (by decide) ?_
        refine x_isub dX12_one_122 ?_
        refine xbnd_e h (fun q2 e2 h => ?_)
        refine y_callVi (As := [.int 1, .int (-2), .int (-2), .int (v3 - 97)]) (q := q2) cv_RX12_156 dX12_one_123 k0 rfl (Nat.le_of_ble_eq_true rfl) (by omega) (S_X12_node hS k0 e2) ?_
        obtain rfl := Option.some.inj h
        exact y_iret rfl dX12_one_126
      · rw [if_pos c] at h
        refine x_aload_n dX12_one_100 0 rfl ?_
        refine x_iconst 3 dX12_one_101 (by decide) ?_
        refine x_bipush (-2) dX12_one_102 (by decide) ?_
        refine x_bipush (-2) dX12_one_104 (by decide) ?_
        refine x_iconst 0 dX12_one_106 (by decide) ?_
        refine xbnd_e h (fun q3 e3 h => ?_)
        refine y_callVi (As := [.int 3, .int (-2), .int (-2), .int 0]) (q := q3) cv_RX12_156 dX12_one_107 k0 rfl (Nat.le_of_ble_eq_true rfl) (by omega) (S_X12_node hS k0 e3) ?_
        refine x_goto 126 dX12_one_110 (by decide) ?_
        obtain rfl := Option.some.inj h
        exact y_iret rfl dX12_one_126
    · rw [if_pos c] at h
      refine x_aload_n dX12_one_81 0 rfl ?_
      refine x_iconst 2 dX12_one_82 (by decide) ?_
      refine x_bipush (-2) dX12_one_83 (by decide) ?_
      refine x_bipush (-2) dX12_one_85 (by decide) ?_
      refine x_iconst 0 dX12_one_87 (by decide) ?_
      refine xbnd_e h (fun q4 e4 h => ?_)
      refine y_callVi (As := [.int 2, .int (-2), .int (-2), .int 0]) (q := q4) cv_RX12_156 dX12_one_88 k0 rfl (Nat.le_of_ble_eq_true rfl) (by omega) (S_X12_node hS k0 e4) ?_
      refine x_goto 126 dX12_one_91 (by decide) ?_
      obtain rfl := Option.some.inj h
      exact y_iret rfl dX12_one_126
  · rw [if_neg c] at h
    refine x_iconst 0 dX12_one_71 (by decide) ?_
    refine x_goto 126 dX12_one_72 (by decide) ?_
    obtain rfl := Option.some.inj h
    exact y_iret rfl dX12_one_126

def f_X12_one_39 (F P : Nat) (S : xSt) (self_X12_formulaAt : Nat → Int32 → Int32 → xDt → Option (Int32 × xDt)) (self_X12_one : Nat → Int32 → Int32 → xDt → Option (Int32 × xDt)) (v0 : Nat) (v3 : Int32) (D : xDt) : Option (Int32 × xDt) :=
  (f_X12_counts F P S v0 D).bind fun q1 => if 0 ≤ (q1.1 v0 18) then (f_X12_one_60 F P S self_X12_formulaAt self_X12_one v0 v3 0 (q1.1 v0 17) v0 q1) else (f_X12_one_60 F P S self_X12_formulaAt self_X12_one v0 v3 1 (q1.1 v0 17) v0 q1)
set_option maxHeartbeats 4000000 in
theorem t_X12_one_39 {F P : Nat} {S : xSt} (hS : xWF S) {hh : Nat} (hhc : 2 ≤ hh) {self_X12_formulaAt : Nat → Int32 → Int32 → xDt → Option (Int32 × xDt)} (hself_X12_formulaAt : ∀ {v0 : Nat} {v1 : Int32} {v2 : Int32} {D : xDt} {r : Int32 × xDt}, xK S v0 12 → self_X12_formulaAt v0 v1 v2 D = some r → xSp md_X12_formulaAt (hh, 0, 0) [.ref v0, .int v1, .int v2] (S, D) (xQi S r)) {self_X12_one : Nat → Int32 → Int32 → xDt → Option (Int32 × xDt)} (hself_X12_one : ∀ {v0 : Nat} {v1 : Int32} {v2 : Int32} {D : xDt} {r : Int32 × xDt}, xK S v0 12 → self_X12_one v0 v1 v2 D = some r → xSp md_X12_one (hh, 0, 0) [.ref v0, .int v1, .int v2] (S, D) (xQi S r)) {v0 : Nat} {v3 : Int32} {D : xDt} {r : Int32 × xDt} (k0 : xK S v0 12) (h : f_X12_one_39 F P S self_X12_formulaAt self_X12_one v0 v3 D = some r) : yEx md_X12_one (hh + 1) 39 [(0, .ref v0), (3, .int v3)] [] S D (xQi S r) := by
  unfold f_X12_one_39 at h
  refine x_aload_n dX12_one_39 0 rfl ?_
  refine xbnd_e h (fun q1 e1 h => ?_)
  refine y_callVv (As := []) (q := q1) cv_RX12_190 dX12_one_40 k0 rfl (Nat.le_of_ble_eq_true rfl) (by omega) (S_X12_counts hS k0 e1) ?_
  refine x_aload_n dX12_one_43 0 rfl ?_
  refine x_dup dX12_one_44 rfl ?_
  refine y_geti fl_RX12_171 dX12_one_45 rfl k0 ?_
  refine x_aload_n dX12_one_48 0 rfl ?_
  refine y_geti fl_RX12_174 dX12_one_49 rfl k0 ?_
  refine x_if_ge 59 dX12_one_52 (by decide) (fun c => ?_) (fun c => ?_)
  · rw [if_pos c] at h
    refine x_iconst 0 dX12_one_59 (by decide) ?_
    exact t_X12_one_60 hS hhc hself_X12_formulaAt hself_X12_one k0 k0 h
  · rw [if_neg c] at h
    refine x_iconst 1 dX12_one_55 (by decide) ?_
    refine x_goto 60 dX12_one_56 (by decide) ?_
    exact t_X12_one_60 hS hhc hself_X12_formulaAt hself_X12_one k0 k0 h

def f_X12_one_263 (F P : Nat) (S : xSt) (self_X12_formulaAt : Nat → Int32 → Int32 → xDt → Option (Int32 × xDt)) (self_X12_one : Nat → Int32 → Int32 → xDt → Option (Int32 × xDt)) (v4 : Int32) (v5 : Int32) (s0 : Int32) (s1 : Nat) (D : xDt) : Option (Int32 × xDt) :=
  (f_X12_node F P S s1 s0 v4 v5 0 D).bind fun q1 => some (q1.1, q1.2)
set_option maxHeartbeats 4000000 in
theorem t_X12_one_263 {F P : Nat} {S : xSt} (hS : xWF S) {hh : Nat} (hhc : 2 ≤ hh) {self_X12_formulaAt : Nat → Int32 → Int32 → xDt → Option (Int32 × xDt)} (hself_X12_formulaAt : ∀ {v0 : Nat} {v1 : Int32} {v2 : Int32} {D : xDt} {r : Int32 × xDt}, xK S v0 12 → self_X12_formulaAt v0 v1 v2 D = some r → xSp md_X12_formulaAt (hh, 0, 0) [.ref v0, .int v1, .int v2] (S, D) (xQi S r)) {self_X12_one : Nat → Int32 → Int32 → xDt → Option (Int32 × xDt)} (hself_X12_one : ∀ {v0 : Nat} {v1 : Int32} {v2 : Int32} {D : xDt} {r : Int32 × xDt}, xK S v0 12 → self_X12_one v0 v1 v2 D = some r → xSp md_X12_one (hh, 0, 0) [.ref v0, .int v1, .int v2] (S, D) (xQi S r)) {v4 : Int32} {v5 : Int32} {s0 : Int32} {s1 : Nat} {D : xDt} {r : Int32 × xDt} (ks1 : xK S s1 12) (h : f_X12_one_263 F P S self_X12_formulaAt self_X12_one v4 v5 s0 s1 D = some r) : yEx md_X12_one (hh + 1) 263 [(4, .int v4), (5, .int v5)] [.int s0, .ref s1] S D (xQi S r) := by
  unfold f_X12_one_263 at h
  refine x_iload dX12_one_263 0 rfl ?_
  refine x_iload dX12_one_265 1 rfl ?_
  refine x_iconst 0 dX12_one_267 (by decide) ?_
  refine xbnd_e h (fun q1 e1 h => ?_)
  refine y_callVi (As := [.int s0, .int v4, .int v5, .int 0]) (q := q1) cv_RX12_156 dX12_one_268 ks1 rfl (Nat.le_of_ble_eq_true rfl) (by omega) (S_X12_node hS ks1 e1) ?_
  refine x_goto 275 dX12_one_271 (by decide) ?_
  obtain rfl := Option.some.inj h
  exact y_iret rfl dX12_one_275

def f_X12_one_240 (F P : Nat) (S : xSt) (self_X12_formulaAt : Nat → Int32 → Int32 → xDt → Option (Int32 × xDt)) (self_X12_one : Nat → Int32 → Int32 → xDt → Option (Int32 × xDt)) (v0 : Nat) (v3 : Int32) (v4 : Int32) (s0 : Int32) (D : xDt) : Option (Int32 × xDt) :=
  if 0 ≤ (D.1 v0 18) then (some (0, D)) else (if v3 = 91 then (f_X12_one_263 F P S self_X12_formulaAt self_X12_one v4 s0 14 v0 D) else (f_X12_one_263 F P S self_X12_formulaAt self_X12_one v4 s0 15 v0 D))
set_option maxHeartbeats 4000000 in
theorem t_X12_one_240 {F P : Nat} {S : xSt} (hS : xWF S) {hh : Nat} (hhc : 2 ≤ hh) {self_X12_formulaAt : Nat → Int32 → Int32 → xDt → Option (Int32 × xDt)} (hself_X12_formulaAt : ∀ {v0 : Nat} {v1 : Int32} {v2 : Int32} {D : xDt} {r : Int32 × xDt}, xK S v0 12 → self_X12_formulaAt v0 v1 v2 D = some r → xSp md_X12_formulaAt (hh, 0, 0) [.ref v0, .int v1, .int v2] (S, D) (xQi S r)) {self_X12_one : Nat → Int32 → Int32 → xDt → Option (Int32 × xDt)} (hself_X12_one : ∀ {v0 : Nat} {v1 : Int32} {v2 : Int32} {D : xDt} {r : Int32 × xDt}, xK S v0 12 → self_X12_one v0 v1 v2 D = some r → xSp md_X12_one (hh, 0, 0) [.ref v0, .int v1, .int v2] (S, D) (xQi S r)) {v0 : Nat} {v3 : Int32} {v4 : Int32} {s0 : Int32} {D : xDt} {r : Int32 × xDt} (k0 : xK S v0 12) (h : f_X12_one_240 F P S self_X12_formulaAt self_X12_one v0 v3 v4 s0 D = some r) : yEx md_X12_one (hh + 1) 240 [(0, .ref v0), (3, .int v3), (4, .int v4)] [.int s0] S D (xQi S r) := by
  unfold f_X12_one_240 at h
  refine y_istore s0 rfl [(5, .int s0), (0, .ref v0), (3, .int v3), (4, .int v4)] dX12_one_240 (by show _ < 7; decide) rfl ?_
  refine x_aload_n dX12_one_242 1 rfl ?_
  refine y_geti fl_RX12_174 dX12_one_243 rfl k0 ?_
  refine x_if_ge 274 dX12_one_246 (by decide) (fun c => ?_) (fun c => ?_)
  · rw [if_pos c] at h
    refine x_iconst 0 dX12_one_274 (by decide) ?_
    obtain rfl := Option.some.inj h
    exact y_iret rfl dX12_one_275
  · rw [if_neg c] at h
    refine x_aload_n dX12_one_249 1 rfl ?_
    refine x_iload_n dX12_one_250 2 rfl ?_
    refine x_bipush 91 dX12_one_251 (by decide) ?_
    refine x_icmp_ne 261 dX12_one_253 (by decide) (fun c => ?_) (fun c => ?_)
    · rw [if_neg c] at h
      refine x_bipush 15 dX12_one_261 (by decide) ?_
      refine x_lv (lv' := [(4, .int v4), (5, .int s0)]) [3, 0] rfl ?_
      exact t_X12_one_263 hS hhc hself_X12_formulaAt hself_X12_one k0 h
    · rw [if_pos c] at h
      refine x_bipush 14 dX12_one_256 (by decide) ?_
      refine x_goto 263 dX12_one_258 (by decide) ?_
      refine x_lv (lv' := [(4, .int v4), (5, .int s0)]) [3, 0] rfl ?_
      exact t_X12_one_263 hS hhc hself_X12_formulaAt hself_X12_one k0 h

def f_X12_one_212 (F P : Nat) (S : xSt) (self_X12_formulaAt : Nat → Int32 → Int32 → xDt → Option (Int32 × xDt)) (self_X12_one : Nat → Int32 → Int32 → xDt → Option (Int32 × xDt)) (v0 : Nat) (v1 : Int32) (v2 : Int32) (v3 : Int32) (s0 : Int32) (D : xDt) : Option (Int32 × xDt) :=
  (f_X12_must F P S v0 (v3 + 2) D).bind fun q1 => if 0 ≤ (q1.1 v0 18) then (f_X12_one_240 F P S self_X12_formulaAt self_X12_one v0 v3 s0 0 q1) else ((self_X12_one v0 v1 (v2 + 1) q1).bind fun q2 => f_X12_one_240 F P S self_X12_formulaAt self_X12_one v0 v3 s0 q2.1 q2.2)
set_option maxHeartbeats 4000000 in
theorem t_X12_one_212 {F P : Nat} {S : xSt} (hS : xWF S) {hh : Nat} (hhc : 2 ≤ hh) {self_X12_formulaAt : Nat → Int32 → Int32 → xDt → Option (Int32 × xDt)} (hself_X12_formulaAt : ∀ {v0 : Nat} {v1 : Int32} {v2 : Int32} {D : xDt} {r : Int32 × xDt}, xK S v0 12 → self_X12_formulaAt v0 v1 v2 D = some r → xSp md_X12_formulaAt (hh, 0, 0) [.ref v0, .int v1, .int v2] (S, D) (xQi S r)) {self_X12_one : Nat → Int32 → Int32 → xDt → Option (Int32 × xDt)} (hself_X12_one : ∀ {v0 : Nat} {v1 : Int32} {v2 : Int32} {D : xDt} {r : Int32 × xDt}, xK S v0 12 → self_X12_one v0 v1 v2 D = some r → xSp md_X12_one (hh, 0, 0) [.ref v0, .int v1, .int v2] (S, D) (xQi S r)) {v0 : Nat} {v1 : Int32} {v2 : Int32} {v3 : Int32} {s0 : Int32} {D : xDt} {r : Int32 × xDt} (k0 : xK S v0 12) (h : f_X12_one_212 F P S self_X12_formulaAt self_X12_one v0 v1 v2 v3 s0 D = some r) : yEx md_X12_one (hh + 1) 212 [(0, .ref v0), (1, .int v1), (2, .int v2), (3, .int v3)] [.int s0] S D (xQi S r) := by
  unfold f_X12_one_212 at h
  refine y_istore s0 rfl [(4, .int s0), (0, .ref v0), (1, .int v1), (2, .int v2), (3, .int v3)] dX12_one_212 (by show _ < 7; decide) rfl ?_
  refine x_aload_n dX12_one_214 1 rfl ?_
  refine x_iload_n dX12_one_215 4 rfl ?_
  refine x_iconst 2 dX12_one_216 (by decide) ?_
  refine x_iadd dX12_one_217 ?_
  refine xbnd_e h (fun q1 e1 h => ?_)
  refine y_callVv (As := [.int (v3 + 2)]) (q := q1) cv_RX12_193 dX12_one_218 k0 rfl (Nat.le_of_ble_eq_true rfl) (by omega) (S_X12_must hS k0 e1) ?_
  refine x_aload_n dX12_one_221 1 rfl ?_
  refine y_geti fl_RX12_174 dX12_one_222 rfl k0 ?_
  refine x_if_ge 239 dX12_one_225 (by decide) (fun c => ?_) (fun c => ?_)
  · rw [if_pos c] at h
    refine x_iconst 0 dX12_one_239 (by decide) ?_
    refine x_lv (lv' := [(0, .ref v0), (3, .int v3), (4, .int s0)]) [1, 4, 0] rfl ?_
    exact t_X12_one_240 hS hhc hself_X12_formulaAt hself_X12_one k0 h
  · rw [if_neg c] at h
    refine x_aload_n dX12_one_228 1 rfl ?_
    refine x_iload_n dX12_one_229 2 rfl ?_
    refine x_iload_n dX12_one_230 3 rfl ?_
    refine x_iconst 1 dX12_one_231 (by decide) ?_
    refine x_iadd dX12_one_232 ?_
    refine xbnd_e h (fun q2 e2 h => ?_)
    refine y_callVi (As := [.int v1, .int (v2 + 1)]) (q := q2) cv_RX12_203 dX12_one_233 k0 rfl (Nat.le_of_ble_eq_true rfl) (by omega) (hself_X12_one k0 e2) ?_
    refine x_goto 240 dX12_one_236 (by decide) ?_
    refine x_lv (lv' := [(0, .ref v0), (3, .int v3), (4, .int s0)]) [1, 4, 0] rfl ?_
    exact t_X12_one_240 hS hhc hself_X12_formulaAt hself_X12_one k0 h

def f_X12_one_179 (F P : Nat) (S : xSt) (self_X12_formulaAt : Nat → Int32 → Int32 → xDt → Option (Int32 × xDt)) (self_X12_one : Nat → Int32 → Int32 → xDt → Option (Int32 × xDt)) (v0 : Nat) (v1 : Int32) (v2 : Int32) (v3 : Int32) (D : xDt) : Option (Int32 × xDt) :=
  (f_X12_counts F P S v0 D).bind fun q1 => (f_X12_must F P S v0 v3 q1).bind fun q2 => if 0 ≤ (q2.1 v0 18) then (f_X12_one_212 F P S self_X12_formulaAt self_X12_one v0 v1 v2 v3 0 q2) else ((self_X12_formulaAt v0 (v1 + 1) ((q2.1 v0 17) - 1) q2).bind fun q3 => f_X12_one_212 F P S self_X12_formulaAt self_X12_one v0 v1 v2 v3 q3.1 q3.2)
set_option maxHeartbeats 4000000 in
theorem t_X12_one_179 {F P : Nat} {S : xSt} (hS : xWF S) {hh : Nat} (hhc : 2 ≤ hh) {self_X12_formulaAt : Nat → Int32 → Int32 → xDt → Option (Int32 × xDt)} (hself_X12_formulaAt : ∀ {v0 : Nat} {v1 : Int32} {v2 : Int32} {D : xDt} {r : Int32 × xDt}, xK S v0 12 → self_X12_formulaAt v0 v1 v2 D = some r → xSp md_X12_formulaAt (hh, 0, 0) [.ref v0, .int v1, .int v2] (S, D) (xQi S r)) {self_X12_one : Nat → Int32 → Int32 → xDt → Option (Int32 × xDt)} (hself_X12_one : ∀ {v0 : Nat} {v1 : Int32} {v2 : Int32} {D : xDt} {r : Int32 × xDt}, xK S v0 12 → self_X12_one v0 v1 v2 D = some r → xSp md_X12_one (hh, 0, 0) [.ref v0, .int v1, .int v2] (S, D) (xQi S r)) {v0 : Nat} {v1 : Int32} {v2 : Int32} {v3 : Int32} {D : xDt} {r : Int32 × xDt} (k0 : xK S v0 12) (h : f_X12_one_179 F P S self_X12_formulaAt self_X12_one v0 v1 v2 v3 D = some r) : yEx md_X12_one (hh + 1) 179 [(0, .ref v0), (1, .int v1), (2, .int v2), (3, .int v3)] [] S D (xQi S r) := by
  unfold f_X12_one_179 at h
  refine x_aload_n dX12_one_179 0 rfl ?_
  refine xbnd_e h (fun q1 e1 h => ?_)
  refine y_callVv (As := []) (q := q1) cv_RX12_190 dX12_one_180 k0 rfl (Nat.le_of_ble_eq_true rfl) (by omega) (S_X12_counts hS k0 e1) ?_
  refine x_aload_n dX12_one_183 0 rfl ?_
  refine x_iload_n dX12_one_184 3 rfl ?_
  refine xbnd_e h (fun q2 e2 h => ?_)
  refine y_callVv (As := [.int v3]) (q := q2) cv_RX12_193 dX12_one_185 k0 rfl (Nat.le_of_ble_eq_true rfl) (by omega) (S_X12_must hS k0 e2) ?_
  refine x_aload_n dX12_one_188 0 rfl ?_
  refine y_geti fl_RX12_174 dX12_one_189 rfl k0 ?_
  refine x_if_ge 211 dX12_one_192 (by decide) (fun c => ?_) (fun c => ?_)
  · rw [if_pos c] at h
    refine x_iconst 0 dX12_one_211 (by decide) ?_
    exact t_X12_one_212 hS hhc hself_X12_formulaAt hself_X12_one k0 h
  · rw [if_neg c] at h
    refine x_aload_n dX12_one_195 0 rfl ?_
    refine x_iload_n dX12_one_196 1 rfl ?_
    refine x_iconst 1 dX12_one_197 (by decide) ?_
    refine x_iadd dX12_one_198 ?_
    refine x_aload_n dX12_one_199 0 rfl ?_
    refine y_geti fl_RX12_171 dX12_one_200 rfl k0 ?_
    refine x_iconst 1 dX12_one_203 (by decide) ?_
    refine x_isub dX12_one_204 ?_
    refine xbnd_e h (fun q3 e3 h => ?_)
    refine y_callVi (As := [.int (v1 + 1), .int ((q2.1 v0 17) - 1)]) (q := q3) cv_RX12_206 dX12_one_205 k0 rfl (Nat.le_of_ble_eq_true rfl) (by omega) (hself_X12_formulaAt k0 e3) ?_
    refine x_goto 212 dX12_one_208 (by decide) ?_
    exact t_X12_one_212 hS hhc hself_X12_formulaAt hself_X12_one k0 h

def f_X12_one_423 (F P : Nat) (S : xSt) (self_X12_formulaAt : Nat → Int32 → Int32 → xDt → Option (Int32 × xDt)) (self_X12_one : Nat → Int32 → Int32 → xDt → Option (Int32 × xDt)) (v0 : Nat) (v4 : Int32) (v5 : Int32) (s0 : Int32) (D : xDt) : Option (Int32 × xDt) :=
  if 0 ≤ (D.1 v0 18) then (some (0, D)) else ((f_X12_node F P S v0 v4 s0 (-2) v5 D).bind fun q1 => some (q1.1, q1.2))
set_option maxHeartbeats 4000000 in
theorem t_X12_one_423 {F P : Nat} {S : xSt} (hS : xWF S) {hh : Nat} (hhc : 2 ≤ hh) {self_X12_formulaAt : Nat → Int32 → Int32 → xDt → Option (Int32 × xDt)} (hself_X12_formulaAt : ∀ {v0 : Nat} {v1 : Int32} {v2 : Int32} {D : xDt} {r : Int32 × xDt}, xK S v0 12 → self_X12_formulaAt v0 v1 v2 D = some r → xSp md_X12_formulaAt (hh, 0, 0) [.ref v0, .int v1, .int v2] (S, D) (xQi S r)) {self_X12_one : Nat → Int32 → Int32 → xDt → Option (Int32 × xDt)} (hself_X12_one : ∀ {v0 : Nat} {v1 : Int32} {v2 : Int32} {D : xDt} {r : Int32 × xDt}, xK S v0 12 → self_X12_one v0 v1 v2 D = some r → xSp md_X12_one (hh, 0, 0) [.ref v0, .int v1, .int v2] (S, D) (xQi S r)) {v0 : Nat} {v4 : Int32} {v5 : Int32} {s0 : Int32} {D : xDt} {r : Int32 × xDt} (k0 : xK S v0 12) (h : f_X12_one_423 F P S self_X12_formulaAt self_X12_one v0 v4 v5 s0 D = some r) : yEx md_X12_one (hh + 1) 423 [(0, .ref v0), (4, .int v4), (5, .int v5)] [.int s0] S D (xQi S r) := by
  unfold f_X12_one_423 at h
  refine y_istore s0 rfl [(6, .int s0), (0, .ref v0), (4, .int v4), (5, .int v5)] dX12_one_423 (by show _ < 7; decide) rfl ?_
  refine x_aload_n dX12_one_425 1 rfl ?_
  refine y_geti fl_RX12_174 dX12_one_426 rfl k0 ?_
  refine x_if_ge 447 dX12_one_429 (by decide) (fun c => ?_) (fun c => ?_)
  · rw [if_pos c] at h
    refine x_iconst 0 dX12_one_447 (by decide) ?_
    obtain rfl := Option.some.inj h
    exact y_iret rfl dX12_one_448
  · rw [if_neg c] at h
    refine x_aload_n dX12_one_432 1 rfl ?_
    refine x_iload dX12_one_433 2 rfl ?_
    refine x_iload dX12_one_435 0 rfl ?_
    refine x_bipush (-2) dX12_one_437 (by decide) ?_
    refine x_iload dX12_one_439 3 rfl ?_
    refine xbnd_e h (fun q1 e1 h => ?_)
    refine y_callVi (As := [.int v4, .int s0, .int (-2), .int v5]) (q := q1) cv_RX12_156 dX12_one_441 k0 rfl (Nat.le_of_ble_eq_true rfl) (by omega) (S_X12_node hS k0 e1) ?_
    refine x_goto 448 dX12_one_444 (by decide) ?_
    obtain rfl := Option.some.inj h
    exact y_iret rfl dX12_one_448

def f_X12_one_402 (F P : Nat) (S : xSt) (self_X12_formulaAt : Nat → Int32 → Int32 → xDt → Option (Int32 × xDt)) (self_X12_one : Nat → Int32 → Int32 → xDt → Option (Int32 × xDt)) (v0 : Nat) (v1 : Int32) (v2 : Int32) (v4 : Int32) (s0 : Int32) (D : xDt) : Option (Int32 × xDt) :=
  if 0 ≤ (D.1 v0 18) then (f_X12_one_423 F P S self_X12_formulaAt self_X12_one v0 v4 s0 0 D) else ((self_X12_one v0 v1 (v2 + 1) D).bind fun q1 => f_X12_one_423 F P S self_X12_formulaAt self_X12_one v0 v4 s0 q1.1 q1.2)
set_option maxHeartbeats 4000000 in
theorem t_X12_one_402 {F P : Nat} {S : xSt} (hS : xWF S) {hh : Nat} (hhc : 2 ≤ hh) {self_X12_formulaAt : Nat → Int32 → Int32 → xDt → Option (Int32 × xDt)} (hself_X12_formulaAt : ∀ {v0 : Nat} {v1 : Int32} {v2 : Int32} {D : xDt} {r : Int32 × xDt}, xK S v0 12 → self_X12_formulaAt v0 v1 v2 D = some r → xSp md_X12_formulaAt (hh, 0, 0) [.ref v0, .int v1, .int v2] (S, D) (xQi S r)) {self_X12_one : Nat → Int32 → Int32 → xDt → Option (Int32 × xDt)} (hself_X12_one : ∀ {v0 : Nat} {v1 : Int32} {v2 : Int32} {D : xDt} {r : Int32 × xDt}, xK S v0 12 → self_X12_one v0 v1 v2 D = some r → xSp md_X12_one (hh, 0, 0) [.ref v0, .int v1, .int v2] (S, D) (xQi S r)) {v0 : Nat} {v1 : Int32} {v2 : Int32} {v4 : Int32} {s0 : Int32} {D : xDt} {r : Int32 × xDt} (k0 : xK S v0 12) (h : f_X12_one_402 F P S self_X12_formulaAt self_X12_one v0 v1 v2 v4 s0 D = some r) : yEx md_X12_one (hh + 1) 402 [(0, .ref v0), (1, .int v1), (2, .int v2), (4, .int v4)] [.int s0] S D (xQi S r) := by
  unfold f_X12_one_402 at h
  refine y_istore s0 rfl [(5, .int s0), (0, .ref v0), (1, .int v1), (2, .int v2), (4, .int v4)] dX12_one_402 (by show _ < 7; decide) rfl ?_
  refine x_aload_n dX12_one_404 1 rfl ?_
  refine y_geti fl_RX12_174 dX12_one_405 rfl k0 ?_
  refine x_if_ge 422 dX12_one_408 (by decide) (fun c => ?_) (fun c => ?_)
  · rw [if_pos c] at h
    refine x_iconst 0 dX12_one_422 (by decide) ?_
    refine x_lv (lv' := [(0, .ref v0), (4, .int v4), (5, .int s0)]) [1, 4, 0] rfl ?_
    exact t_X12_one_423 hS hhc hself_X12_formulaAt hself_X12_one k0 h
  · rw [if_neg c] at h
    refine x_aload_n dX12_one_411 1 rfl ?_
    refine x_iload_n dX12_one_412 2 rfl ?_
    refine x_iload_n dX12_one_413 3 rfl ?_
    refine x_iconst 1 dX12_one_414 (by decide) ?_
    refine x_iadd dX12_one_415 ?_
    refine xbnd_e h (fun q1 e1 h => ?_)
    refine y_callVi (As := [.int v1, .int (v2 + 1)]) (q := q1) cv_RX12_203 dX12_one_416 k0 rfl (Nat.le_of_ble_eq_true rfl) (by omega) (hself_X12_one k0 e1) ?_
    refine x_goto 423 dX12_one_419 (by decide) ?_
    refine x_lv (lv' := [(0, .ref v0), (4, .int v4), (5, .int s0)]) [1, 4, 0] rfl ?_
    exact t_X12_one_423 hS hhc hself_X12_formulaAt hself_X12_one k0 h

def f_X12_one_395 (F P : Nat) (S : xSt) (self_X12_formulaAt : Nat → Int32 → Int32 → xDt → Option (Int32 × xDt)) (self_X12_one : Nat → Int32 → Int32 → xDt → Option (Int32 × xDt)) (v0 : Nat) (v1 : Int32) (v2 : Int32) (v4 : Int32) (s0 : Int32) (s1 : Nat) (D : xDt) : Option (Int32 × xDt) :=
  (f_X12_group F P S s1 s0 D).bind fun q1 => f_X12_one_402 F P S self_X12_formulaAt self_X12_one v0 v1 v2 v4 q1.1 q1.2
set_option maxHeartbeats 4000000 in
theorem t_X12_one_395 {F P : Nat} {S : xSt} (hS : xWF S) {hh : Nat} (hhc : 2 ≤ hh) {self_X12_formulaAt : Nat → Int32 → Int32 → xDt → Option (Int32 × xDt)} (hself_X12_formulaAt : ∀ {v0 : Nat} {v1 : Int32} {v2 : Int32} {D : xDt} {r : Int32 × xDt}, xK S v0 12 → self_X12_formulaAt v0 v1 v2 D = some r → xSp md_X12_formulaAt (hh, 0, 0) [.ref v0, .int v1, .int v2] (S, D) (xQi S r)) {self_X12_one : Nat → Int32 → Int32 → xDt → Option (Int32 × xDt)} (hself_X12_one : ∀ {v0 : Nat} {v1 : Int32} {v2 : Int32} {D : xDt} {r : Int32 × xDt}, xK S v0 12 → self_X12_one v0 v1 v2 D = some r → xSp md_X12_one (hh, 0, 0) [.ref v0, .int v1, .int v2] (S, D) (xQi S r)) {v0 : Nat} {v1 : Int32} {v2 : Int32} {v4 : Int32} {s0 : Int32} {s1 : Nat} {D : xDt} {r : Int32 × xDt} (k0 : xK S v0 12) (ks1 : xK S s1 12) (h : f_X12_one_395 F P S self_X12_formulaAt self_X12_one v0 v1 v2 v4 s0 s1 D = some r) : yEx md_X12_one (hh + 1) 395 [(0, .ref v0), (1, .int v1), (2, .int v2), (4, .int v4)] [.int s0, .ref s1] S D (xQi S r) := by
  unfold f_X12_one_395 at h
  refine xbnd_e h (fun q1 e1 h => ?_)
  refine y_callVi (As := [.int s0]) (q := q1) cv_RX12_209 dX12_one_395 ks1 rfl (Nat.le_of_ble_eq_true rfl) (by omega) (S_X12_group hS ks1 e1) ?_
  refine x_goto 402 dX12_one_398 (by decide) ?_
  exact t_X12_one_402 hS hhc hself_X12_formulaAt hself_X12_one k0 h

def f_X12_one_390 (F P : Nat) (S : xSt) (self_X12_formulaAt : Nat → Int32 → Int32 → xDt → Option (Int32 × xDt)) (self_X12_one : Nat → Int32 → Int32 → xDt → Option (Int32 × xDt)) (v0 : Nat) (v1 : Int32) (v2 : Int32) (v4 : Int32) (s0 : Nat) (D : xDt) : Option (Int32 × xDt) :=
  f_X12_one_395 F P S self_X12_formulaAt self_X12_one v0 v1 v2 v4 1 s0 D
set_option maxHeartbeats 4000000 in
theorem t_X12_one_390 {F P : Nat} {S : xSt} (hS : xWF S) {hh : Nat} (hhc : 2 ≤ hh) {self_X12_formulaAt : Nat → Int32 → Int32 → xDt → Option (Int32 × xDt)} (hself_X12_formulaAt : ∀ {v0 : Nat} {v1 : Int32} {v2 : Int32} {D : xDt} {r : Int32 × xDt}, xK S v0 12 → self_X12_formulaAt v0 v1 v2 D = some r → xSp md_X12_formulaAt (hh, 0, 0) [.ref v0, .int v1, .int v2] (S, D) (xQi S r)) {self_X12_one : Nat → Int32 → Int32 → xDt → Option (Int32 × xDt)} (hself_X12_one : ∀ {v0 : Nat} {v1 : Int32} {v2 : Int32} {D : xDt} {r : Int32 × xDt}, xK S v0 12 → self_X12_one v0 v1 v2 D = some r → xSp md_X12_one (hh, 0, 0) [.ref v0, .int v1, .int v2] (S, D) (xQi S r)) {v0 : Nat} {v1 : Int32} {v2 : Int32} {v4 : Int32} {s0 : Nat} {D : xDt} {r : Int32 × xDt} (k0 : xK S v0 12) (ks0 : xK S s0 12) (h : f_X12_one_390 F P S self_X12_formulaAt self_X12_one v0 v1 v2 v4 s0 D = some r) : yEx md_X12_one (hh + 1) 390 [(0, .ref v0), (1, .int v1), (2, .int v2), (4, .int v4)] [.ref s0] S D (xQi S r) := by
  unfold f_X12_one_390 at h
  refine x_iconst 1 dX12_one_390 (by decide) ?_
  refine x_goto 395 dX12_one_391 (by decide) ?_
  exact t_X12_one_395 hS hhc hself_X12_formulaAt hself_X12_one k0 ks0 h

def f_X12_one_401 (F P : Nat) (S : xSt) (self_X12_formulaAt : Nat → Int32 → Int32 → xDt → Option (Int32 × xDt)) (self_X12_one : Nat → Int32 → Int32 → xDt → Option (Int32 × xDt)) (v0 : Nat) (v1 : Int32) (v2 : Int32) (v4 : Int32) (D : xDt) : Option (Int32 × xDt) :=
  f_X12_one_402 F P S self_X12_formulaAt self_X12_one v0 v1 v2 v4 0 D
set_option maxHeartbeats 4000000 in
theorem t_X12_one_401 {F P : Nat} {S : xSt} (hS : xWF S) {hh : Nat} (hhc : 2 ≤ hh) {self_X12_formulaAt : Nat → Int32 → Int32 → xDt → Option (Int32 × xDt)} (hself_X12_formulaAt : ∀ {v0 : Nat} {v1 : Int32} {v2 : Int32} {D : xDt} {r : Int32 × xDt}, xK S v0 12 → self_X12_formulaAt v0 v1 v2 D = some r → xSp md_X12_formulaAt (hh, 0, 0) [.ref v0, .int v1, .int v2] (S, D) (xQi S r)) {self_X12_one : Nat → Int32 → Int32 → xDt → Option (Int32 × xDt)} (hself_X12_one : ∀ {v0 : Nat} {v1 : Int32} {v2 : Int32} {D : xDt} {r : Int32 × xDt}, xK S v0 12 → self_X12_one v0 v1 v2 D = some r → xSp md_X12_one (hh, 0, 0) [.ref v0, .int v1, .int v2] (S, D) (xQi S r)) {v0 : Nat} {v1 : Int32} {v2 : Int32} {v4 : Int32} {D : xDt} {r : Int32 × xDt} (k0 : xK S v0 12) (h : f_X12_one_401 F P S self_X12_formulaAt self_X12_one v0 v1 v2 v4 D = some r) : yEx md_X12_one (hh + 1) 401 [(0, .ref v0), (1, .int v1), (2, .int v2), (4, .int v4)] [] S D (xQi S r) := by
  unfold f_X12_one_401 at h
  refine x_iconst 0 dX12_one_401 (by decide) ?_
  exact t_X12_one_402 hS hhc hself_X12_formulaAt hself_X12_one k0 h

def f_X12_one_342 (F P : Nat) (S : xSt) (self_X12_formulaAt : Nat → Int32 → Int32 → xDt → Option (Int32 × xDt)) (self_X12_one : Nat → Int32 → Int32 → xDt → Option (Int32 × xDt)) (v0 : Nat) (v1 : Int32) (v2 : Int32) (v3 : Int32) (s0 : Int32) (D : xDt) : Option (Int32 × xDt) :=
  if 0 ≤ s0 then ((f_X12_counts F P S v0 D).bind fun q1 => (f_X12_must F P S v0 v3 q1).bind fun q2 => if 0 ≤ (q2.1 v0 18) then (f_X12_one_401 F P S self_X12_formulaAt self_X12_one v0 v1 v2 s0 q2) else (if s0 = 4 then (f_X12_one_401 F P S self_X12_formulaAt self_X12_one v0 v1 v2 s0 q2) else (if s0 = 5 then (f_X12_one_390 F P S self_X12_formulaAt self_X12_one v0 v1 v2 s0 v0 q2) else (if s0 = 6 then (f_X12_one_390 F P S self_X12_formulaAt self_X12_one v0 v1 v2 s0 v0 q2) else (f_X12_one_395 F P S self_X12_formulaAt self_X12_one v0 v1 v2 s0 0 v0 q2))))) else ((f_X12_bad F P S v0 D).bind fun q3 => some (q3.1, q3.2))
set_option maxHeartbeats 4000000 in
theorem t_X12_one_342 {F P : Nat} {S : xSt} (hS : xWF S) {hh : Nat} (hhc : 2 ≤ hh) {self_X12_formulaAt : Nat → Int32 → Int32 → xDt → Option (Int32 × xDt)} (hself_X12_formulaAt : ∀ {v0 : Nat} {v1 : Int32} {v2 : Int32} {D : xDt} {r : Int32 × xDt}, xK S v0 12 → self_X12_formulaAt v0 v1 v2 D = some r → xSp md_X12_formulaAt (hh, 0, 0) [.ref v0, .int v1, .int v2] (S, D) (xQi S r)) {self_X12_one : Nat → Int32 → Int32 → xDt → Option (Int32 × xDt)} (hself_X12_one : ∀ {v0 : Nat} {v1 : Int32} {v2 : Int32} {D : xDt} {r : Int32 × xDt}, xK S v0 12 → self_X12_one v0 v1 v2 D = some r → xSp md_X12_one (hh, 0, 0) [.ref v0, .int v1, .int v2] (S, D) (xQi S r)) {v0 : Nat} {v1 : Int32} {v2 : Int32} {v3 : Int32} {s0 : Int32} {D : xDt} {r : Int32 × xDt} (k0 : xK S v0 12) (h : f_X12_one_342 F P S self_X12_formulaAt self_X12_one v0 v1 v2 v3 s0 D = some r) : yEx md_X12_one (hh + 1) 342 [(0, .ref v0), (1, .int v1), (2, .int v2), (3, .int v3)] [.int s0] S D (xQi S r) := by
  unfold f_X12_one_342 at h
  refine y_istore s0 rfl [(4, .int s0), (0, .ref v0), (1, .int v1), (2, .int v2), (3, .int v3)] dX12_one_342 (by show _ < 7; decide) rfl ?_
  refine x_iload dX12_one_344 0 rfl ?_
  refine x_if_ge 354 dX12_one_346 (by decide) (fun c => ?_) (fun c => ?_)
  · rw [if_pos c] at h
    refine x_aload_n dX12_one_354 1 rfl ?_
    refine xbnd_e h (fun q1 e1 h => ?_)
    refine y_callVv (As := []) (q := q1) cv_RX12_190 dX12_one_355 k0 rfl (Nat.le_of_ble_eq_true rfl) (by omega) (S_X12_counts hS k0 e1) ?_
    refine x_aload_n dX12_one_358 1 rfl ?_
    refine x_iload_n dX12_one_359 4 rfl ?_
    refine xbnd_e h (fun q2 e2 h => ?_)
    refine y_callVv (As := [.int v3]) (q := q2) cv_RX12_193 dX12_one_360 k0 rfl (Nat.le_of_ble_eq_true rfl) (by omega) (S_X12_must hS k0 e2) ?_
    refine x_aload_n dX12_one_363 1 rfl ?_
    refine y_geti fl_RX12_174 dX12_one_364 rfl k0 ?_
    refine x_if_ge 401 dX12_one_367 (by decide) (fun c => ?_) (fun c => ?_)
    · rw [if_pos c] at h
      refine x_lv (lv' := [(0, .ref v0), (1, .int v1), (2, .int v2), (4, .int s0)]) [1, 2, 3, 0] rfl ?_
      exact t_X12_one_401 hS hhc hself_X12_formulaAt hself_X12_one k0 h
    · rw [if_neg c] at h
      refine x_iload dX12_one_370 0 rfl ?_
      refine x_iconst 4 dX12_one_372 (by decide) ?_
      refine x_icmp_eq 401 dX12_one_373 (by decide) (fun c => ?_) (fun c => ?_)
      · rw [if_pos c] at h
        refine x_lv (lv' := [(0, .ref v0), (1, .int v1), (2, .int v2), (4, .int s0)]) [1, 2, 3, 0] rfl ?_
        exact t_X12_one_401 hS hhc hself_X12_formulaAt hself_X12_one k0 h
      · rw [if_neg c] at h
        refine x_aload_n dX12_one_376 1 rfl ?_
        refine x_iload dX12_one_377 0 rfl ?_
        refine x_iconst 5 dX12_one_379 (by decide) ?_
        refine x_icmp_eq 390 dX12_one_380 (by decide) (fun c => ?_) (fun c => ?_)
        · rw [if_pos c] at h
          refine x_lv (lv' := [(0, .ref v0), (1, .int v1), (2, .int v2), (4, .int s0)]) [1, 2, 3, 0] rfl ?_
          exact t_X12_one_390 hS hhc hself_X12_formulaAt hself_X12_one k0 k0 h
        · rw [if_neg c] at h
          refine x_iload dX12_one_383 0 rfl ?_
          refine x_bipush 6 dX12_one_385 (by decide) ?_
          refine x_icmp_ne 394 dX12_one_387 (by decide) (fun c => ?_) (fun c => ?_)
          · rw [if_neg c] at h
            refine x_iconst 0 dX12_one_394 (by decide) ?_
            refine x_lv (lv' := [(0, .ref v0), (1, .int v1), (2, .int v2), (4, .int s0)]) [1, 2, 3, 0] rfl ?_
            exact t_X12_one_395 hS hhc hself_X12_formulaAt hself_X12_one k0 k0 h
          · rw [if_pos c] at h
            refine x_lv (lv' := [(0, .ref v0), (1, .int v1), (2, .int v2), (4, .int s0)]) [1, 2, 3, 0] rfl ?_
            exact t_X12_one_390 hS hhc hself_X12_formulaAt hself_X12_one k0 k0 h
  · rw [if_neg c] at h
    refine x_aload_n dX12_one_349 1 rfl ?_
    refine xbnd_e h (fun q3 e3 h => ?_)
    refine y_callVi (As := []) (q := q3) cv_RX12_180 dX12_one_350 k0 rfl (Nat.le_of_ble_eq_true rfl) (by omega) (S_X12_bad hS k0 e3) ?_
    obtain rfl := Option.some.inj h
    exact y_iret rfl dX12_one_353

def f_X12_one_o (F P : Nat) (S : xSt) (self_X12_formulaAt : Nat → Int32 → Int32 → xDt → Option (Int32 × xDt)) (self_X12_one : Nat → Int32 → Int32 → xDt → Option (Int32 × xDt)) (v0 : Nat) (v1 : Int32) (v2 : Int32) (D : xDt) : Option (Int32 × xDt) :=
  (f_X12_look F P S v0 D).bind fun q1 => if v2 ≤ 30 then ((f_X12_in F P S q1.1 97 104 q1.2).bind fun q2 => if q2.1 = 0 then (if q1.1 = 48 then (f_X12_one_39 F P S self_X12_formulaAt self_X12_one v0 q1.1 q2.2) else (if q1.1 = 49 then (f_X12_one_39 F P S self_X12_formulaAt self_X12_one v0 q1.1 q2.2) else (if q1.1 = 40 then (xlet (xup q2.2.1 v0 17 ((q2.2.1 v0 17) + 1), q2.2.2) fun D3 => (self_X12_formulaAt v0 (v1 + 1) ((D3.1 v0 17) - 1) D3).bind fun q4 => (f_X12_must F P S v0 41 q4.2).bind fun q5 => some (q4.1, q5)) else (if q1.1 = 91 then (f_X12_one_179 F P S self_X12_formulaAt self_X12_one v0 v1 v2 q1.1 q2.2) else (if q1.1 = 123 then (f_X12_one_179 F P S self_X12_formulaAt self_X12_one v0 v1 v2 q1.1 q2.2) else (if q1.1 = 126 then (f_X12_one_342 F P S self_X12_formulaAt self_X12_one v0 v1 v2 q1.1 4 q2.2) else (if q1.1 = 75 then (f_X12_one_342 F P S self_X12_formulaAt self_X12_one v0 v1 v2 q1.1 5 q2.2) else (if q1.1 = 80 then (f_X12_one_342 F P S self_X12_formulaAt self_X12_one v0 v1 v2 q1.1 6 q2.2) else (if q1.1 = 69 then (f_X12_one_342 F P S self_X12_formulaAt self_X12_one v0 v1 v2 q1.1 7 q2.2) else (if q1.1 = 67 then (f_X12_one_342 F P S self_X12_formulaAt self_X12_one v0 v1 v2 q1.1 8 q2.2) else (if q1.1 = 68 then (f_X12_one_342 F P S self_X12_formulaAt self_X12_one v0 v1 v2 q1.1 9 q2.2) else (f_X12_one_342 F P S self_X12_formulaAt self_X12_one v0 v1 v2 q1.1 (-2) q2.2)))))))))))) else (f_X12_one_39 F P S self_X12_formulaAt self_X12_one v0 q1.1 q2.2)) else ((f_X12_bad F P S v0 q1.2).bind fun q6 => some (q6.1, q6.2))
set_option maxHeartbeats 4000000 in
theorem S_X12_one_o {F P : Nat} {S : xSt} (hS : xWF S) {hh : Nat} (hhc : 2 ≤ hh) {self_X12_formulaAt : Nat → Int32 → Int32 → xDt → Option (Int32 × xDt)} (hself_X12_formulaAt : ∀ {v0 : Nat} {v1 : Int32} {v2 : Int32} {D : xDt} {r : Int32 × xDt}, xK S v0 12 → self_X12_formulaAt v0 v1 v2 D = some r → xSp md_X12_formulaAt (hh, 0, 0) [.ref v0, .int v1, .int v2] (S, D) (xQi S r)) {self_X12_one : Nat → Int32 → Int32 → xDt → Option (Int32 × xDt)} (hself_X12_one : ∀ {v0 : Nat} {v1 : Int32} {v2 : Int32} {D : xDt} {r : Int32 × xDt}, xK S v0 12 → self_X12_one v0 v1 v2 D = some r → xSp md_X12_one (hh, 0, 0) [.ref v0, .int v1, .int v2] (S, D) (xQi S r)) {v0 : Nat} {v1 : Int32} {v2 : Int32} {D : xDt} {r : Int32 × xDt} (k0 : xK S v0 12) (h : f_X12_one_o F P S self_X12_formulaAt self_X12_one v0 v1 v2 D = some r) : xSp md_X12_one ((hh + 1), 0, 0) [.ref v0, .int v1, .int v2] (S, D) (xQi S r) := by
  unfold f_X12_one_o at h
  refine xEntry (by decide) (Nat.le_of_ble_eq_true rfl) ?_
  refine x_lv (lv' := [(0, .ref v0), (1, .int v1), (2, .int v2)]) [0, 1, 2] rfl ?_
  refine x_aload_n dX12_one_0 0 rfl ?_
  refine xbnd_e h (fun q1 e1 h => ?_)
  refine y_callVi (As := []) (q := q1) cv_RX12_184 dX12_one_1 k0 rfl (Nat.le_of_ble_eq_true rfl) (by omega) (S_X12_look hS k0 e1) ?_
  refine y_istore_n q1.1 rfl [(3, .int q1.1), (0, .ref v0), (1, .int v1), (2, .int v2)] dX12_one_4 (by show _ < 7; decide) rfl ?_
  refine x_iload_n dX12_one_5 3 rfl ?_
  refine x_bipush 30 dX12_one_6 (by decide) ?_
  refine x_icmp_le 16 dX12_one_8 (by decide) (fun c => ?_) (fun c => ?_)
  · rw [if_pos c] at h
    refine x_iload_n dX12_one_16 0 rfl ?_
    refine x_bipush 97 dX12_one_17 (by decide) ?_
    refine x_bipush 104 dX12_one_19 (by decide) ?_
    refine xbnd_e h (fun q2 e2 h => ?_)
    refine y_callSi (As := [.int q1.1, .int 97, .int 104]) (q := q2) cs_RX12_10 dX12_one_21 rfl (Nat.le_of_ble_eq_true rfl) (by omega) (S_X12_in hS e2) ?_
    refine x_if_ne 39 dX12_one_24 (by decide) (fun c => ?_) (fun c => ?_)
    · rw [if_neg c] at h
      refine x_lv (lv' := [(0, .ref v0), (3, .int q1.1)]) [1, 0] rfl ?_
      exact t_X12_one_39 hS hhc hself_X12_formulaAt hself_X12_one k0 h
    · rw [if_pos c] at h
      refine x_iload_n dX12_one_27 0 rfl ?_
      refine x_bipush 48 dX12_one_28 (by decide) ?_
      refine x_icmp_eq 39 dX12_one_30 (by decide) (fun c => ?_) (fun c => ?_)
      · rw [if_pos c] at h
        refine x_lv (lv' := [(0, .ref v0), (3, .int q1.1)]) [1, 0] rfl ?_
        exact t_X12_one_39 hS hhc hself_X12_formulaAt hself_X12_one k0 h
      · rw [if_neg c] at h
        refine x_iload_n dX12_one_33 0 rfl ?_
        refine x_bipush 49 dX12_one_34 (by decide) ?_
        refine x_icmp_ne 127 dX12_one_36 (by decide) (fun c => ?_) (fun c => ?_)
        · rw [if_neg c] at h
          refine x_iload_n dX12_one_127 0 rfl ?_
          refine x_bipush 40 dX12_one_128 (by decide) ?_
          refine x_icmp_ne 167 dX12_one_130 (by decide) (fun c => ?_) (fun c => ?_)
          · rw [if_neg c] at h
            refine x_iload_n dX12_one_167 0 rfl ?_
            refine x_bipush 91 dX12_one_168 (by decide) ?_
            refine x_icmp_eq 179 dX12_one_170 (by decide) (fun c => ?_) (fun c => ?_)
            · rw [if_pos c] at h
              refine x_lv (lv' := [(0, .ref v0), (1, .int v1), (2, .int v2), (3, .int q1.1)]) [1, 2, 3, 0] rfl ?_
              exact t_X12_one_179 hS hhc hself_X12_formulaAt hself_X12_one k0 h
            · rw [if_neg c] at h
              refine x_iload_n dX12_one_173 0 rfl ?_
              refine x_bipush 123 dX12_one_174 (by decide) ?_
              refine x_icmp_ne 276 dX12_one_176 (by decide) (fun c => ?_) (fun c => ?_)
              · rw [if_neg c] at h
                refine x_iload_n dX12_one_276 0 rfl ?_
                refine x_bipush 126 dX12_one_277 (by decide) ?_
                refine x_icmp_ne 286 dX12_one_279 (by decide) (fun c => ?_) (fun c => ?_)
                · rw [if_neg c] at h
                  refine x_iload_n dX12_one_286 0 rfl ?_
                  refine x_bipush 75 dX12_one_287 (by decide) ?_
                  refine x_icmp_ne 296 dX12_one_289 (by decide) (fun c => ?_) (fun c => ?_)
                  · rw [if_neg c] at h
                    refine x_iload_n dX12_one_296 0 rfl ?_
                    refine x_bipush 80 dX12_one_297 (by decide) ?_
                    refine x_icmp_ne 307 dX12_one_299 (by decide) (fun c => ?_) (fun c => ?_)
                    · rw [if_neg c] at h
                      refine x_iload_n dX12_one_307 0 rfl ?_
                      refine x_bipush 69 dX12_one_308 (by decide) ?_
                      refine x_icmp_ne 318 dX12_one_310 (by decide) (fun c => ?_) (fun c => ?_)
                      · rw [if_neg c] at h
                        refine x_iload_n dX12_one_318 0 rfl ?_
                        refine x_bipush 67 dX12_one_319 (by decide) ?_
                        refine x_icmp_ne 329 dX12_one_321 (by decide) (fun c => ?_) (fun c => ?_)
                        · rw [if_neg c] at h
                          refine x_iload_n dX12_one_329 0 rfl ?_
                          refine x_bipush 68 dX12_one_330 (by decide) ?_
                          refine x_icmp_ne 340 dX12_one_332 (by decide) (fun c => ?_) (fun c => ?_)
                          · rw [if_neg c] at h
                            refine x_bipush (-2) dX12_one_340 (by decide) ?_
                            refine x_lv (lv' := [(0, .ref v0), (1, .int v1), (2, .int v2), (3, .int q1.1)]) [1, 2, 3, 0] rfl ?_
                            exact t_X12_one_342 hS hhc hself_X12_formulaAt hself_X12_one k0 h
                          · rw [if_pos c] at h
                            refine x_bipush 9 dX12_one_335 (by decide) ?_
                            refine x_goto 342 dX12_one_337 (by decide) ?_
                            refine x_lv (lv' := [(0, .ref v0), (1, .int v1), (2, .int v2), (3, .int q1.1)]) [1, 2, 3, 0] rfl ?_
                            exact t_X12_one_342 hS hhc hself_X12_formulaAt hself_X12_one k0 h
                        · rw [if_pos c] at h
                          refine x_bipush 8 dX12_one_324 (by decide) ?_
                          refine x_goto 342 dX12_one_326 (by decide) ?_
                          refine x_lv (lv' := [(0, .ref v0), (1, .int v1), (2, .int v2), (3, .int q1.1)]) [1, 2, 3, 0] rfl ?_
                          exact t_X12_one_342 hS hhc hself_X12_formulaAt hself_X12_one k0 h
                      · rw [if_pos c] at h
                        refine x_bipush 7 dX12_one_313 (by decide) ?_
                        refine x_goto 342 dX12_one_315 (by decide) ?_
                        refine x_lv (lv' := [(0, .ref v0), (1, .int v1), (2, .int v2), (3, .int q1.1)]) [1, 2, 3, 0] rfl ?_
                        exact t_X12_one_342 hS hhc hself_X12_formulaAt hself_X12_one k0 h
                    · rw [if_pos c] at h
                      refine x_bipush 6 dX12_one_302 (by decide) ?_
                      refine x_goto 342 dX12_one_304 (by decide) ?_
                      refine x_lv (lv' := [(0, .ref v0), (1, .int v1), (2, .int v2), (3, .int q1.1)]) [1, 2, 3, 0] rfl ?_
                      exact t_X12_one_342 hS hhc hself_X12_formulaAt hself_X12_one k0 h
                  · rw [if_pos c] at h
                    refine x_iconst 5 dX12_one_292 (by decide) ?_
                    refine x_goto 342 dX12_one_293 (by decide) ?_
                    refine x_lv (lv' := [(0, .ref v0), (1, .int v1), (2, .int v2), (3, .int q1.1)]) [1, 2, 3, 0] rfl ?_
                    exact t_X12_one_342 hS hhc hself_X12_formulaAt hself_X12_one k0 h
                · rw [if_pos c] at h
                  refine x_iconst 4 dX12_one_282 (by decide) ?_
                  refine x_goto 342 dX12_one_283 (by decide) ?_
                  refine x_lv (lv' := [(0, .ref v0), (1, .int v1), (2, .int v2), (3, .int q1.1)]) [1, 2, 3, 0] rfl ?_
                  exact t_X12_one_342 hS hhc hself_X12_formulaAt hself_X12_one k0 h
              · rw [if_pos c] at h
                refine x_lv (lv' := [(0, .ref v0), (1, .int v1), (2, .int v2), (3, .int q1.1)]) [1, 2, 3, 0] rfl ?_
                exact t_X12_one_179 hS hhc hself_X12_formulaAt hself_X12_one k0 h
          · rw [if_pos c] at h
            refine x_aload_n dX12_one_133 1 rfl ?_
            refine x_dup dX12_one_134 rfl ?_
            refine y_geti fl_RX12_171 dX12_one_135 rfl k0 ?_
            refine x_iconst 1 dX12_one_138 (by decide) ?_
            refine x_iadd dX12_one_139 ?_
            refine xlet_e h (fun D3 eD3 h => ?_)
            refine y_puti fp_RX12_171 dX12_one_140 rfl k0 eD3 ?_
            refine x_aload_n dX12_one_143 1 rfl ?_
            refine x_iload_n dX12_one_144 2 rfl ?_
            refine x_iconst 1 dX12_one_145 (by decide) ?_
            refine x_iadd dX12_one_146 ?_
            refine x_aload_n dX12_one_147 1 rfl ?_
            refine y_geti fl_RX12_171 dX12_one_148 rfl k0 ?_
            refine x_iconst 1 dX12_one_151 (by decide) ?_
            refine x_isub dX12_one_152 ?_
            refine xbnd_e h (fun q4 e4 h => ?_)
            refine y_callVi (As := [.int (v1 + 1), .int ((D3.1 v0 17) - 1)]) (q := q4) cv_RX12_206 dX12_one_153 k0 rfl (Nat.le_of_ble_eq_true rfl) (by omega) (hself_X12_formulaAt k0 e4) ?_
            refine y_istore q4.1 rfl [(4, .int q4.1), (3, .int q1.1), (0, .ref v0), (1, .int v1), (2, .int v2)] dX12_one_156 (by show _ < 7; decide) rfl ?_
            refine x_aload_n dX12_one_158 2 rfl ?_
            refine x_bipush 41 dX12_one_159 (by decide) ?_
            refine xbnd_e h (fun q5 e5 h => ?_)
            refine y_callVv (As := [.int 41]) (q := q5) cv_RX12_193 dX12_one_161 k0 rfl (Nat.le_of_ble_eq_true rfl) (by omega) (S_X12_must hS k0 e5) ?_
            refine x_iload dX12_one_164 0 rfl ?_
            obtain rfl := Option.some.inj h
            exact y_iret rfl dX12_one_166
        · rw [if_pos c] at h
          refine x_lv (lv' := [(0, .ref v0), (3, .int q1.1)]) [1, 0] rfl ?_
          exact t_X12_one_39 hS hhc hself_X12_formulaAt hself_X12_one k0 h
  · rw [if_neg c] at h
    refine x_aload_n dX12_one_11 1 rfl ?_
    refine xbnd_e h (fun q6 e6 h => ?_)
    refine y_callVi (As := []) (q := q6) cv_RX12_180 dX12_one_12 k0 rfl (Nat.le_of_ble_eq_true rfl) (by omega) (S_X12_bad hS k0 e6) ?_
    obtain rfl := Option.some.inj h
    exact y_iret rfl dX12_one_15

def f_X12_formulaAt_all (F P : Nat) (S : xSt) : Nat → (Nat → Int32 → Int32 → xDt → Option (Int32 × xDt)) × (Nat → Int32 → xDt → Option (Int32 × xDt)) × (Nat → Int32 → xDt → Option (Int32 × xDt)) × (Nat → Int32 → xDt → Option (Int32 × xDt)) × (Nat → Int32 → Int32 → xDt → Option (Int32 × xDt))
  | 0 => (fun _ _ _ _ => none, fun _ _ _ => none, fun _ _ _ => none, fun _ _ _ => none, fun _ _ _ _ => none)
  | n + 1 => (f_X12_formulaAt_o F P S (f_X12_formulaAt_all F P S n).2.1, f_X12_implied_o F P S (f_X12_formulaAt_all F P S n).2.1 (f_X12_formulaAt_all F P S n).2.2.1, f_X12_either_o F P S (f_X12_formulaAt_all F P S n).2.2.2.1, f_X12_both_o F P S (f_X12_formulaAt_all F P S n).2.2.2.2, f_X12_one_o F P S (f_X12_formulaAt_all F P S n).1 (f_X12_formulaAt_all F P S n).2.2.2.2)
def f_X12_formulaAt (F P : Nat) (S : xSt) (n : Nat) : Nat → Int32 → Int32 → xDt → Option (Int32 × xDt) := (f_X12_formulaAt_all F P S n).1
def f_X12_implied (F P : Nat) (S : xSt) (n : Nat) : Nat → Int32 → xDt → Option (Int32 × xDt) := (f_X12_formulaAt_all F P S n).2.1
def f_X12_either (F P : Nat) (S : xSt) (n : Nat) : Nat → Int32 → xDt → Option (Int32 × xDt) := (f_X12_formulaAt_all F P S n).2.2.1
def f_X12_both (F P : Nat) (S : xSt) (n : Nat) : Nat → Int32 → xDt → Option (Int32 × xDt) := (f_X12_formulaAt_all F P S n).2.2.2.1
def f_X12_one (F P : Nat) (S : xSt) (n : Nat) : Nat → Int32 → Int32 → xDt → Option (Int32 × xDt) := (f_X12_formulaAt_all F P S n).2.2.2.2
theorem S_X12_formulaAt_all {F P : Nat} {S : xSt} (hS : xWF S) : ∀ (n : Nat), (∀ {v0 : Nat} {v1 : Int32} {v2 : Int32} {D : xDt} {r : Int32 × xDt}, xK S v0 12 → f_X12_formulaAt F P S n v0 v1 v2 D = some r → xSp md_X12_formulaAt (n + 2, 0, 0) [.ref v0, .int v1, .int v2] (S, D) (xQi S r)) ∧ (∀ {v0 : Nat} {v1 : Int32} {D : xDt} {r : Int32 × xDt}, xK S v0 12 → f_X12_implied F P S n v0 v1 D = some r → xSp md_X12_implied (n + 2, 0, 0) [.ref v0, .int v1] (S, D) (xQi S r)) ∧ (∀ {v0 : Nat} {v1 : Int32} {D : xDt} {r : Int32 × xDt}, xK S v0 12 → f_X12_either F P S n v0 v1 D = some r → xSp md_X12_either (n + 2, 0, 0) [.ref v0, .int v1] (S, D) (xQi S r)) ∧ (∀ {v0 : Nat} {v1 : Int32} {D : xDt} {r : Int32 × xDt}, xK S v0 12 → f_X12_both F P S n v0 v1 D = some r → xSp md_X12_both (n + 2, 0, 0) [.ref v0, .int v1] (S, D) (xQi S r)) ∧ (∀ {v0 : Nat} {v1 : Int32} {v2 : Int32} {D : xDt} {r : Int32 × xDt}, xK S v0 12 → f_X12_one F P S n v0 v1 v2 D = some r → xSp md_X12_one (n + 2, 0, 0) [.ref v0, .int v1, .int v2] (S, D) (xQi S r)) := by
  intro n
  induction n with
  | zero => exact ⟨(by intros; rename_i h; cases h), (by intros; rename_i h; cases h), (by intros; rename_i h; cases h), (by intros; rename_i h; cases h), (by intros; rename_i h; cases h)⟩
  | succ n ih =>
    obtain ⟨ih_X12_formulaAt, ih_X12_implied, ih_X12_either, ih_X12_both, ih_X12_one⟩ := ih
    rw [show n + 1 + 2 = n + 2 + 1 by omega]
    exact ⟨fun k0 h => S_X12_formulaAt_o hS (hh := n + 2) (by omega) (fun k0 h => ih_X12_implied k0 h) k0 h, fun k0 h => S_X12_implied_o hS (hh := n + 2) (by omega) (fun k0 h => ih_X12_implied k0 h) (fun k0 h => ih_X12_either k0 h) k0 h, fun k0 h => S_X12_either_o hS (hh := n + 2) (by omega) (fun k0 h => ih_X12_both k0 h) k0 h, fun k0 h => S_X12_both_o hS (hh := n + 2) (by omega) (fun k0 h => ih_X12_one k0 h) k0 h, fun k0 h => S_X12_one_o hS (hh := n + 2) (by omega) (fun k0 h => ih_X12_formulaAt k0 h) (fun k0 h => ih_X12_one k0 h) k0 h⟩
theorem S_X12_formulaAt {F P : Nat} {S : xSt} (hS : xWF S) (n : Nat) {v0 : Nat} {v1 : Int32} {v2 : Int32} {D : xDt} {r : Int32 × xDt} (k0 : xK S v0 12) (h : f_X12_formulaAt F P S n v0 v1 v2 D = some r) : xSp md_X12_formulaAt (n + 2, 0, 0) [.ref v0, .int v1, .int v2] (S, D) (xQi S r) := (S_X12_formulaAt_all hS n).1 k0 h
theorem S_X12_implied {F P : Nat} {S : xSt} (hS : xWF S) (n : Nat) {v0 : Nat} {v1 : Int32} {D : xDt} {r : Int32 × xDt} (k0 : xK S v0 12) (h : f_X12_implied F P S n v0 v1 D = some r) : xSp md_X12_implied (n + 2, 0, 0) [.ref v0, .int v1] (S, D) (xQi S r) := (S_X12_formulaAt_all hS n).2.1 k0 h
theorem S_X12_either {F P : Nat} {S : xSt} (hS : xWF S) (n : Nat) {v0 : Nat} {v1 : Int32} {D : xDt} {r : Int32 × xDt} (k0 : xK S v0 12) (h : f_X12_either F P S n v0 v1 D = some r) : xSp md_X12_either (n + 2, 0, 0) [.ref v0, .int v1] (S, D) (xQi S r) := (S_X12_formulaAt_all hS n).2.2.1 k0 h
theorem S_X12_both {F P : Nat} {S : xSt} (hS : xWF S) (n : Nat) {v0 : Nat} {v1 : Int32} {D : xDt} {r : Int32 × xDt} (k0 : xK S v0 12) (h : f_X12_both F P S n v0 v1 D = some r) : xSp md_X12_both (n + 2, 0, 0) [.ref v0, .int v1] (S, D) (xQi S r) := (S_X12_formulaAt_all hS n).2.2.2.1 k0 h
theorem S_X12_one {F P : Nat} {S : xSt} (hS : xWF S) (n : Nat) {v0 : Nat} {v1 : Int32} {v2 : Int32} {D : xDt} {r : Int32 × xDt} (k0 : xK S v0 12) (h : f_X12_one F P S n v0 v1 v2 D = some r) : xSp md_X12_one (n + 2, 0, 0) [.ref v0, .int v1, .int v2] (S, D) (xQi S r) := (S_X12_formulaAt_all hS n).2.2.2.2 k0 h

theorem dX12_moved_0 : decode cX12_moved 0 = .ok (.aload_n 0, 1) := by decide +kernel
theorem dX12_moved_1 : decode cX12_moved 1 = .ok (.iload_n 1, 1) := by decide +kernel
theorem dX12_moved_2 : decode cX12_moved 2 = .ok (.invokevirtual 164, 3) := by decide +kernel
theorem dX12_moved_5 : decode cX12_moved 5 = .ok (.istore 4, 2) := by decide +kernel
theorem dX12_moved_7 : decode cX12_moved 7 = .ok (.iconst 0, 1) := by decide +kernel
theorem dX12_moved_8 : decode cX12_moved 8 = .ok (.istore 5, 2) := by decide +kernel
theorem dX12_moved_10 : decode cX12_moved 10 = .ok (.iload 5, 2) := by decide +kernel
theorem dX12_moved_12 : decode cX12_moved 12 = .ok (.iload_n 3, 1) := by decide +kernel
theorem dX12_moved_13 : decode cX12_moved 13 = .ok (.if_icmp .ge 127, 3) := by decide +kernel
theorem dX12_moved_16 : decode cX12_moved 16 = .ok (.aload_n 0, 1) := by decide +kernel
theorem dX12_moved_17 : decode cX12_moved 17 = .ok (.getfield 72, 3) := by decide +kernel
theorem dX12_moved_20 : decode cX12_moved 20 = .ok (.iload 5, 2) := by decide +kernel
theorem dX12_moved_22 : decode cX12_moved 22 = .ok (.aload_n 0, 1) := by decide +kernel
theorem dX12_moved_23 : decode cX12_moved 23 = .ok (.getfield 72, 3) := by decide +kernel
theorem dX12_moved_26 : decode cX12_moved 26 = .ok (.iload_n 2, 1) := by decide +kernel
theorem dX12_moved_27 : decode cX12_moved 27 = .ok (.iload 5, 2) := by decide +kernel
theorem dX12_moved_29 : decode cX12_moved 29 = .ok (.iadd, 1) := by decide +kernel
theorem dX12_moved_30 : decode cX12_moved 30 = .ok (.iaload, 1) := by decide +kernel
theorem dX12_moved_31 : decode cX12_moved 31 = .ok (.iastore, 1) := by decide +kernel
theorem dX12_moved_32 : decode cX12_moved 32 = .ok (.aload_n 0, 1) := by decide +kernel
theorem dX12_moved_33 : decode cX12_moved 33 = .ok (.getfield 75, 3) := by decide +kernel
theorem dX12_moved_36 : decode cX12_moved 36 = .ok (.iload 5, 2) := by decide +kernel
theorem dX12_moved_38 : decode cX12_moved 38 = .ok (.aload_n 0, 1) := by decide +kernel
theorem dX12_moved_39 : decode cX12_moved 39 = .ok (.getfield 75, 3) := by decide +kernel
theorem dX12_moved_42 : decode cX12_moved 42 = .ok (.iload_n 2, 1) := by decide +kernel
theorem dX12_moved_43 : decode cX12_moved 43 = .ok (.iload 5, 2) := by decide +kernel
theorem dX12_moved_45 : decode cX12_moved 45 = .ok (.iadd, 1) := by decide +kernel
theorem dX12_moved_46 : decode cX12_moved 46 = .ok (.iaload, 1) := by decide +kernel
theorem dX12_moved_47 : decode cX12_moved 47 = .ok (.ifCond .ge 8, 3) := by decide +kernel
theorem dX12_moved_50 : decode cX12_moved 50 = .ok (.bipush (-2), 2) := by decide +kernel
theorem dX12_moved_52 : decode cX12_moved 52 = .ok (.goto 14, 3) := by decide +kernel
theorem dX12_moved_55 : decode cX12_moved 55 = .ok (.aload_n 0, 1) := by decide +kernel
theorem dX12_moved_56 : decode cX12_moved 56 = .ok (.getfield 75, 3) := by decide +kernel
theorem dX12_moved_59 : decode cX12_moved 59 = .ok (.iload_n 2, 1) := by decide +kernel
theorem dX12_moved_60 : decode cX12_moved 60 = .ok (.iload 5, 2) := by decide +kernel
theorem dX12_moved_62 : decode cX12_moved 62 = .ok (.iadd, 1) := by decide +kernel
theorem dX12_moved_63 : decode cX12_moved 63 = .ok (.iaload, 1) := by decide +kernel
theorem dX12_moved_64 : decode cX12_moved 64 = .ok (.iload_n 2, 1) := by decide +kernel
theorem dX12_moved_65 : decode cX12_moved 65 = .ok (.isub, 1) := by decide +kernel
theorem dX12_moved_66 : decode cX12_moved 66 = .ok (.iastore, 1) := by decide +kernel
theorem dX12_moved_67 : decode cX12_moved 67 = .ok (.aload_n 0, 1) := by decide +kernel
theorem dX12_moved_68 : decode cX12_moved 68 = .ok (.getfield 78, 3) := by decide +kernel
theorem dX12_moved_71 : decode cX12_moved 71 = .ok (.iload 5, 2) := by decide +kernel
theorem dX12_moved_73 : decode cX12_moved 73 = .ok (.aload_n 0, 1) := by decide +kernel
theorem dX12_moved_74 : decode cX12_moved 74 = .ok (.getfield 78, 3) := by decide +kernel
theorem dX12_moved_77 : decode cX12_moved 77 = .ok (.iload_n 2, 1) := by decide +kernel
theorem dX12_moved_78 : decode cX12_moved 78 = .ok (.iload 5, 2) := by decide +kernel
theorem dX12_moved_80 : decode cX12_moved 80 = .ok (.iadd, 1) := by decide +kernel
theorem dX12_moved_81 : decode cX12_moved 81 = .ok (.iaload, 1) := by decide +kernel
theorem dX12_moved_82 : decode cX12_moved 82 = .ok (.ifCond .ge 8, 3) := by decide +kernel
theorem dX12_moved_85 : decode cX12_moved 85 = .ok (.bipush (-2), 2) := by decide +kernel
theorem dX12_moved_87 : decode cX12_moved 87 = .ok (.goto 14, 3) := by decide +kernel
theorem dX12_moved_90 : decode cX12_moved 90 = .ok (.aload_n 0, 1) := by decide +kernel
theorem dX12_moved_91 : decode cX12_moved 91 = .ok (.getfield 78, 3) := by decide +kernel
theorem dX12_moved_94 : decode cX12_moved 94 = .ok (.iload_n 2, 1) := by decide +kernel
theorem dX12_moved_95 : decode cX12_moved 95 = .ok (.iload 5, 2) := by decide +kernel
theorem dX12_moved_97 : decode cX12_moved 97 = .ok (.iadd, 1) := by decide +kernel
theorem dX12_moved_98 : decode cX12_moved 98 = .ok (.iaload, 1) := by decide +kernel
theorem dX12_moved_99 : decode cX12_moved 99 = .ok (.iload_n 2, 1) := by decide +kernel
theorem dX12_moved_100 : decode cX12_moved 100 = .ok (.isub, 1) := by decide +kernel
theorem dX12_moved_101 : decode cX12_moved 101 = .ok (.iastore, 1) := by decide +kernel
theorem dX12_moved_102 : decode cX12_moved 102 = .ok (.aload_n 0, 1) := by decide +kernel
theorem dX12_moved_103 : decode cX12_moved 103 = .ok (.getfield 81, 3) := by decide +kernel
theorem dX12_moved_106 : decode cX12_moved 106 = .ok (.iload 5, 2) := by decide +kernel
theorem dX12_moved_108 : decode cX12_moved 108 = .ok (.aload_n 0, 1) := by decide +kernel
theorem dX12_moved_109 : decode cX12_moved 109 = .ok (.getfield 81, 3) := by decide +kernel
theorem dX12_moved_112 : decode cX12_moved 112 = .ok (.iload_n 2, 1) := by decide +kernel
theorem dX12_moved_113 : decode cX12_moved 113 = .ok (.iload 5, 2) := by decide +kernel
theorem dX12_moved_115 : decode cX12_moved 115 = .ok (.iadd, 1) := by decide +kernel
theorem dX12_moved_116 : decode cX12_moved 116 = .ok (.iaload, 1) := by decide +kernel
theorem dX12_moved_117 : decode cX12_moved 117 = .ok (.iastore, 1) := by decide +kernel
theorem dX12_moved_118 : decode cX12_moved 118 = .ok (.aload_n 0, 1) := by decide +kernel
theorem dX12_moved_119 : decode cX12_moved 119 = .ok (.getfield 84, 3) := by decide +kernel
theorem dX12_moved_122 : decode cX12_moved 122 = .ok (.iload 5, 2) := by decide +kernel
theorem dX12_moved_124 : decode cX12_moved 124 = .ok (.aload_n 0, 1) := by decide +kernel
theorem dX12_moved_125 : decode cX12_moved 125 = .ok (.getfield 84, 3) := by decide +kernel
theorem dX12_moved_128 : decode cX12_moved 128 = .ok (.iload_n 2, 1) := by decide +kernel
theorem dX12_moved_129 : decode cX12_moved 129 = .ok (.iload 5, 2) := by decide +kernel
theorem dX12_moved_131 : decode cX12_moved 131 = .ok (.iadd, 1) := by decide +kernel
theorem dX12_moved_132 : decode cX12_moved 132 = .ok (.iaload, 1) := by decide +kernel
theorem dX12_moved_133 : decode cX12_moved 133 = .ok (.iastore, 1) := by decide +kernel
theorem dX12_moved_134 : decode cX12_moved 134 = .ok (.iinc 5 1, 3) := by decide +kernel
theorem dX12_moved_137 : decode cX12_moved 137 = .ok (.goto (-127), 3) := by decide +kernel
theorem dX12_moved_140 : decode cX12_moved 140 = .ok (.iload 4, 2) := by decide +kernel
theorem dX12_moved_142 : decode cX12_moved 142 = .ok (.iload_n 2, 1) := by decide +kernel
theorem dX12_moved_143 : decode cX12_moved 143 = .ok (.isub, 1) := by decide +kernel
theorem dX12_moved_144 : decode cX12_moved 144 = .ok (.ireturn, 1) := by decide +kernel
def f_X12_moved_101 (F P : Nat) (S : xSt) (rec_10 : Nat → Int32 → Int32 → Int32 → Int32 → xDt → Option (Int32 × xDt)) (v0 : Nat) (v2 : Int32) (v3 : Int32) (v4 : Int32) (v5 : Int32) (s0 : Int32) (s1 : Int32) (s2 : Nat) (D : xDt) : Option (Int32 × xDt) :=
  xgrd (xin s1 (xl S s2)) (xlet (xup D.1 s2 (s1).toNatClampNeg s0, D.2) fun D2 => xgrd (xin (v2 + v5) (xl S (xr S v0 11))) (xgrd (xin v5 (xl S (xr S v0 11))) (xlet (xup D2.1 (xr S v0 11) (v5).toNatClampNeg (D2.1 (xr S v0 11) (v2 + v5).toNatClampNeg), D2.2) fun D5 => xgrd (xin (v2 + v5) (xl S (xr S v0 12))) (xgrd (xin v5 (xl S (xr S v0 12))) (xlet (xup D5.1 (xr S v0 12) (v5).toNatClampNeg (D5.1 (xr S v0 12) (v2 + v5).toNatClampNeg), D5.2) fun D8 => xlet (v5 + 1) fun v5_9 => rec_10 v0 v2 v3 v4 v5_9 D8)))))
set_option maxHeartbeats 4000000 in
theorem t_X12_moved_101 {F P : Nat} {S : xSt} (hS : xWF S) {rec_10 : Nat → Int32 → Int32 → Int32 → Int32 → xDt → Option (Int32 × xDt)} (hrec_10 : ∀ {v0 : Nat} {v2 : Int32} {v3 : Int32} {v4 : Int32} {v5 : Int32} {D : xDt} {r : Int32 × xDt}, xK S v0 12 → rec_10 v0 v2 v3 v4 v5 D = some r → yEx md_X12_moved (P + 2) 10 [(0, .ref v0), (2, .int v2), (3, .int v3), (4, .int v4), (5, .int v5)] [] S D (xQi S r)) {v0 : Nat} {v2 : Int32} {v3 : Int32} {v4 : Int32} {v5 : Int32} {s0 : Int32} {s1 : Int32} {s2 : Nat} {D : xDt} {r : Int32 × xDt} (k0 : xK S v0 12) (ks2 : xK S s2 100) (h : f_X12_moved_101 F P S rec_10 v0 v2 v3 v4 v5 s0 s1 s2 D = some r) : yEx md_X12_moved (P + 2) 101 [(0, .ref v0), (2, .int v2), (3, .int v3), (4, .int v4), (5, .int v5)] [.int s0, .int s1, .ref s2] S D (xQi S r) := by
  unfold f_X12_moved_101 at h
  refine xgrd_e h (fun g1 h => ?_)
  refine xlet_e h (fun D2 eD2 h => ?_)
  refine y_iast dX12_moved_101 ks2 g1 eD2 ?_
  refine x_aload_n dX12_moved_102 0 rfl ?_
  refine y_getr (kd := 100) hS fl_RX12_81 dX12_moved_103 rfl k0 ?_
  refine x_iload dX12_moved_106 4 rfl ?_
  refine x_aload_n dX12_moved_108 0 rfl ?_
  refine y_getr (kd := 100) hS fl_RX12_81 dX12_moved_109 rfl k0 ?_
  refine x_iload_n dX12_moved_112 1 rfl ?_
  refine x_iload dX12_moved_113 4 rfl ?_
  refine x_iadd dX12_moved_115 ?_
  refine xgrd_e h (fun g3 h => ?_)
  refine y_iald dX12_moved_116 ((hS.f k0 11 100 rfl).2) g3 ?_
  refine xgrd_e h (fun g4 h => ?_)
  refine xlet_e h (fun D5 eD5 h => ?_)
  refine y_iast dX12_moved_117 ((hS.f k0 11 100 rfl).2) g4 eD5 ?_
  refine x_aload_n dX12_moved_118 0 rfl ?_
  refine y_getr (kd := 100) hS fl_RX12_84 dX12_moved_119 rfl k0 ?_
  refine x_iload dX12_moved_122 4 rfl ?_
  refine x_aload_n dX12_moved_124 0 rfl ?_
  refine y_getr (kd := 100) hS fl_RX12_84 dX12_moved_125 rfl k0 ?_
  refine x_iload_n dX12_moved_128 1 rfl ?_
  refine x_iload dX12_moved_129 4 rfl ?_
  refine x_iadd dX12_moved_131 ?_
  refine xgrd_e h (fun g6 h => ?_)
  refine y_iald dX12_moved_132 ((hS.f k0 12 100 rfl).2) g6 ?_
  refine xgrd_e h (fun g7 h => ?_)
  refine xlet_e h (fun D8 eD8 h => ?_)
  refine y_iast dX12_moved_133 ((hS.f k0 12 100 rfl).2) g7 eD8 ?_
  refine xlet_e h (fun v5_9 ev5_9 h => ?_)
  refine y_iinc v5_9 ev5_9 (by decide) [(5, .int v5_9), (0, .ref v0), (2, .int v2), (3, .int v3), (4, .int v4)] dX12_moved_134 4 rfl (by show _ < 6; decide) rfl ?_
  refine x_goto 10 dX12_moved_137 (by decide) ?_
  refine x_lv (lv' := [(0, .ref v0), (2, .int v2), (3, .int v3), (4, .int v4), (5, .int v5_9)]) [1, 2, 3, 4, 0] rfl ?_
  exact hrec_10 k0 h

def f_X12_moved_66 (F P : Nat) (S : xSt) (rec_10 : Nat → Int32 → Int32 → Int32 → Int32 → xDt → Option (Int32 × xDt)) (v0 : Nat) (v2 : Int32) (v3 : Int32) (v4 : Int32) (v5 : Int32) (s0 : Int32) (s1 : Int32) (s2 : Nat) (D : xDt) : Option (Int32 × xDt) :=
  xgrd (xin s1 (xl S s2)) (xlet (xup D.1 s2 (s1).toNatClampNeg s0, D.2) fun D2 => xgrd (xin (v2 + v5) (xl S (xr S v0 10))) (if 0 ≤ (D2.1 (xr S v0 10) (v2 + v5).toNatClampNeg) then (xgrd (xin (v2 + v5) (xl S (xr S v0 10))) (f_X12_moved_101 F P S rec_10 v0 v2 v3 v4 v5 ((D2.1 (xr S v0 10) (v2 + v5).toNatClampNeg) - v2) v5 (xr S v0 10) D2)) else (f_X12_moved_101 F P S rec_10 v0 v2 v3 v4 v5 (-2) v5 (xr S v0 10) D2)))
set_option maxHeartbeats 4000000 in
theorem t_X12_moved_66 {F P : Nat} {S : xSt} (hS : xWF S) {rec_10 : Nat → Int32 → Int32 → Int32 → Int32 → xDt → Option (Int32 × xDt)} (hrec_10 : ∀ {v0 : Nat} {v2 : Int32} {v3 : Int32} {v4 : Int32} {v5 : Int32} {D : xDt} {r : Int32 × xDt}, xK S v0 12 → rec_10 v0 v2 v3 v4 v5 D = some r → yEx md_X12_moved (P + 2) 10 [(0, .ref v0), (2, .int v2), (3, .int v3), (4, .int v4), (5, .int v5)] [] S D (xQi S r)) {v0 : Nat} {v2 : Int32} {v3 : Int32} {v4 : Int32} {v5 : Int32} {s0 : Int32} {s1 : Int32} {s2 : Nat} {D : xDt} {r : Int32 × xDt} (k0 : xK S v0 12) (ks2 : xK S s2 100) (h : f_X12_moved_66 F P S rec_10 v0 v2 v3 v4 v5 s0 s1 s2 D = some r) : yEx md_X12_moved (P + 2) 66 [(0, .ref v0), (2, .int v2), (3, .int v3), (4, .int v4), (5, .int v5)] [.int s0, .int s1, .ref s2] S D (xQi S r) := by
  unfold f_X12_moved_66 at h
  refine xgrd_e h (fun g1 h => ?_)
  refine xlet_e h (fun D2 eD2 h => ?_)
  refine y_iast dX12_moved_66 ks2 g1 eD2 ?_
  refine x_aload_n dX12_moved_67 0 rfl ?_
  refine y_getr (kd := 100) hS fl_RX12_78 dX12_moved_68 rfl k0 ?_
  refine x_iload dX12_moved_71 4 rfl ?_
  refine x_aload_n dX12_moved_73 0 rfl ?_
  refine y_getr (kd := 100) hS fl_RX12_78 dX12_moved_74 rfl k0 ?_
  refine x_iload_n dX12_moved_77 1 rfl ?_
  refine x_iload dX12_moved_78 4 rfl ?_
  refine x_iadd dX12_moved_80 ?_
  refine xgrd_e h (fun g3 h => ?_)
  refine y_iald dX12_moved_81 ((hS.f k0 10 100 rfl).2) g3 ?_
  refine x_if_ge 90 dX12_moved_82 (by decide) (fun c => ?_) (fun c => ?_)
  · rw [if_pos c] at h
    refine x_aload_n dX12_moved_90 0 rfl ?_
    refine y_getr (kd := 100) hS fl_RX12_78 dX12_moved_91 rfl k0 ?_
    refine x_iload_n dX12_moved_94 1 rfl ?_
    refine x_iload dX12_moved_95 4 rfl ?_
    refine x_iadd dX12_moved_97 ?_
    refine xgrd_e h (fun g4 h => ?_)
    refine y_iald dX12_moved_98 ((hS.f k0 10 100 rfl).2) g4 ?_
    refine x_iload_n dX12_moved_99 1 rfl ?_
    refine x_isub dX12_moved_100 ?_
    exact t_X12_moved_101 hS hrec_10 k0 ((hS.f k0 10 100 rfl).2) h
  · rw [if_neg c] at h
    refine x_bipush (-2) dX12_moved_85 (by decide) ?_
    refine x_goto 101 dX12_moved_87 (by decide) ?_
    exact t_X12_moved_101 hS hrec_10 k0 ((hS.f k0 10 100 rfl).2) h

def f_X12_moved_10s (F P : Nat) (S : xSt) (rec_10 : Nat → Int32 → Int32 → Int32 → Int32 → xDt → Option (Int32 × xDt)) (v0 : Nat) (v2 : Int32) (v3 : Int32) (v4 : Int32) (v5 : Int32) (D : xDt) : Option (Int32 × xDt) :=
  if v3 ≤ v5 then (some (v4 - v2, D)) else (xgrd (xin (v2 + v5) (xl S (xr S v0 8))) (xgrd (xin v5 (xl S (xr S v0 8))) (xlet (xup D.1 (xr S v0 8) (v5).toNatClampNeg (D.1 (xr S v0 8) (v2 + v5).toNatClampNeg), D.2) fun D3 => xgrd (xin (v2 + v5) (xl S (xr S v0 9))) (if 0 ≤ (D3.1 (xr S v0 9) (v2 + v5).toNatClampNeg) then (xgrd (xin (v2 + v5) (xl S (xr S v0 9))) (f_X12_moved_66 F P S rec_10 v0 v2 v3 v4 v5 ((D3.1 (xr S v0 9) (v2 + v5).toNatClampNeg) - v2) v5 (xr S v0 9) D3)) else (f_X12_moved_66 F P S rec_10 v0 v2 v3 v4 v5 (-2) v5 (xr S v0 9) D3)))))
def f_X12_moved_10 (F P : Nat) (S : xSt) : Nat → Nat → Int32 → Int32 → Int32 → Int32 → xDt → Option (Int32 × xDt)
  | 0 => fun _ _ _ _ _ _ => none
  | n + 1 => f_X12_moved_10s F P S (f_X12_moved_10 F P S n)
set_option maxHeartbeats 4000000 in
theorem t_X12_moved_10s {F P : Nat} {S : xSt} (hS : xWF S) {rec_10 : Nat → Int32 → Int32 → Int32 → Int32 → xDt → Option (Int32 × xDt)} (hrec_10 : ∀ {v0 : Nat} {v2 : Int32} {v3 : Int32} {v4 : Int32} {v5 : Int32} {D : xDt} {r : Int32 × xDt}, xK S v0 12 → rec_10 v0 v2 v3 v4 v5 D = some r → yEx md_X12_moved (P + 2) 10 [(0, .ref v0), (2, .int v2), (3, .int v3), (4, .int v4), (5, .int v5)] [] S D (xQi S r)) {v0 : Nat} {v2 : Int32} {v3 : Int32} {v4 : Int32} {v5 : Int32} {D : xDt} {r : Int32 × xDt} (k0 : xK S v0 12) (h : f_X12_moved_10s F P S rec_10 v0 v2 v3 v4 v5 D = some r) : yEx md_X12_moved (P + 2) 10 [(0, .ref v0), (2, .int v2), (3, .int v3), (4, .int v4), (5, .int v5)] [] S D (xQi S r) := by
  unfold f_X12_moved_10s at h
  refine x_iload dX12_moved_10 4 rfl ?_
  refine x_iload_n dX12_moved_12 2 rfl ?_
  refine x_icmp_ge 140 dX12_moved_13 (by decide) (fun c => ?_) (fun c => ?_)
  · rw [if_pos c] at h
    refine x_iload dX12_moved_140 3 rfl ?_
    refine x_iload_n dX12_moved_142 1 rfl ?_
    refine x_isub dX12_moved_143 ?_
    obtain rfl := Option.some.inj h
    exact y_iret rfl dX12_moved_144
  · rw [if_neg c] at h
    refine x_aload_n dX12_moved_16 0 rfl ?_
    refine y_getr (kd := 100) hS fl_RX12_72 dX12_moved_17 rfl k0 ?_
    refine x_iload dX12_moved_20 4 rfl ?_
    refine x_aload_n dX12_moved_22 0 rfl ?_
    refine y_getr (kd := 100) hS fl_RX12_72 dX12_moved_23 rfl k0 ?_
    refine x_iload_n dX12_moved_26 1 rfl ?_
    refine x_iload dX12_moved_27 4 rfl ?_
    refine x_iadd dX12_moved_29 ?_
    refine xgrd_e h (fun g1 h => ?_)
    refine y_iald dX12_moved_30 ((hS.f k0 8 100 rfl).2) g1 ?_
    refine xgrd_e h (fun g2 h => ?_)
    refine xlet_e h (fun D3 eD3 h => ?_)
    refine y_iast dX12_moved_31 ((hS.f k0 8 100 rfl).2) g2 eD3 ?_
    refine x_aload_n dX12_moved_32 0 rfl ?_
    refine y_getr (kd := 100) hS fl_RX12_75 dX12_moved_33 rfl k0 ?_
    refine x_iload dX12_moved_36 4 rfl ?_
    refine x_aload_n dX12_moved_38 0 rfl ?_
    refine y_getr (kd := 100) hS fl_RX12_75 dX12_moved_39 rfl k0 ?_
    refine x_iload_n dX12_moved_42 1 rfl ?_
    refine x_iload dX12_moved_43 4 rfl ?_
    refine x_iadd dX12_moved_45 ?_
    refine xgrd_e h (fun g4 h => ?_)
    refine y_iald dX12_moved_46 ((hS.f k0 9 100 rfl).2) g4 ?_
    refine x_if_ge 55 dX12_moved_47 (by decide) (fun c => ?_) (fun c => ?_)
    · rw [if_pos c] at h
      refine x_aload_n dX12_moved_55 0 rfl ?_
      refine y_getr (kd := 100) hS fl_RX12_75 dX12_moved_56 rfl k0 ?_
      refine x_iload_n dX12_moved_59 1 rfl ?_
      refine x_iload dX12_moved_60 4 rfl ?_
      refine x_iadd dX12_moved_62 ?_
      refine xgrd_e h (fun g5 h => ?_)
      refine y_iald dX12_moved_63 ((hS.f k0 9 100 rfl).2) g5 ?_
      refine x_iload_n dX12_moved_64 1 rfl ?_
      refine x_isub dX12_moved_65 ?_
      exact t_X12_moved_66 hS hrec_10 k0 ((hS.f k0 9 100 rfl).2) h
    · rw [if_neg c] at h
      refine x_bipush (-2) dX12_moved_50 (by decide) ?_
      refine x_goto 66 dX12_moved_52 (by decide) ?_
      exact t_X12_moved_66 hS hrec_10 k0 ((hS.f k0 9 100 rfl).2) h
theorem t_X12_moved_10 {F P : Nat} {S : xSt} (hS : xWF S) : ∀ (n : Nat) {v0 : Nat} {v2 : Int32} {v3 : Int32} {v4 : Int32} {v5 : Int32} {D : xDt} {r : Int32 × xDt}, xK S v0 12 → f_X12_moved_10 F P S n v0 v2 v3 v4 v5 D = some r → yEx md_X12_moved (P + 2) 10 [(0, .ref v0), (2, .int v2), (3, .int v3), (4, .int v4), (5, .int v5)] [] S D (xQi S r) := by
  intro n
  induction n with
  | zero => intros; rename_i h; cases h
  | succ n ih =>
    intro v0 v2 v3 v4 v5 D r k0 h
    exact t_X12_moved_10s hS (fun k0 h => ih k0 h) k0 h

def f_X12_moved (F P : Nat) (S : xSt) (v0 : Nat) (v1 : Int32) (v2 : Int32) (v3 : Int32) (D : xDt) : Option (Int32 × xDt) :=
  (f_X12_copied F P S P v0 v1 D).bind fun q1 => f_X12_moved_10 F P S F v0 v2 v3 q1.1 0 q1.2
set_option maxHeartbeats 4000000 in
theorem S_X12_moved {F P : Nat} {S : xSt} (hS : xWF S) {v0 : Nat} {v1 : Int32} {v2 : Int32} {v3 : Int32} {D : xDt} {r : Int32 × xDt} (k0 : xK S v0 12) (h : f_X12_moved F P S v0 v1 v2 v3 D = some r) : xSp md_X12_moved ((P + 2), 0, 0) [.ref v0, .int v1, .int v2, .int v3] (S, D) (xQi S r) := by
  unfold f_X12_moved at h
  refine xEntry (by decide) (Nat.le_of_ble_eq_true rfl) ?_
  refine x_lv (lv' := [(0, .ref v0), (1, .int v1), (2, .int v2), (3, .int v3)]) [0, 1, 2, 3] rfl ?_
  refine x_aload_n dX12_moved_0 0 rfl ?_
  refine x_iload_n dX12_moved_1 1 rfl ?_
  refine xbnd_e h (fun q1 e1 h => ?_)
  refine y_callVi (As := [.int v1]) (q := q1) cv_RX12_164 dX12_moved_2 k0 rfl (Nat.le_of_ble_eq_true rfl) (by omega) (S_X12_copied hS P k0 e1) ?_
  refine y_istore q1.1 rfl [(4, .int q1.1), (0, .ref v0), (1, .int v1), (2, .int v2), (3, .int v3)] dX12_moved_5 (by show _ < 6; decide) rfl ?_
  refine x_iconst 0 dX12_moved_7 (by decide) ?_
  refine y_istore 0 rfl [(5, .int 0), (4, .int q1.1), (0, .ref v0), (1, .int v1), (2, .int v2), (3, .int v3)] dX12_moved_8 (by show _ < 6; decide) rfl ?_
  refine x_lv (lv' := [(0, .ref v0), (2, .int v2), (3, .int v3), (4, .int q1.1), (5, .int 0)]) [2, 4, 5, 1, 0] rfl ?_
  exact t_X12_moved_10 hS F k0 h

theorem dX12_formula_0 : decode cX12_formula 0 = .ok (.aload_n 0, 1) := by decide +kernel
theorem dX12_formula_1 : decode cX12_formula 1 = .ok (.iconst 0, 1) := by decide +kernel
theorem dX12_formula_2 : decode cX12_formula 2 = .ok (.putfield 171, 3) := by decide +kernel
theorem dX12_formula_5 : decode cX12_formula 5 = .ok (.aload_n 0, 1) := by decide +kernel
theorem dX12_formula_6 : decode cX12_formula 6 = .ok (.bipush (-2), 2) := by decide +kernel
theorem dX12_formula_8 : decode cX12_formula 8 = .ok (.putfield 174, 3) := by decide +kernel
theorem dX12_formula_11 : decode cX12_formula 11 = .ok (.aload_n 0, 1) := by decide +kernel
theorem dX12_formula_12 : decode cX12_formula 12 = .ok (.iconst 0, 1) := by decide +kernel
theorem dX12_formula_13 : decode cX12_formula 13 = .ok (.putfield 177, 3) := by decide +kernel
theorem dX12_formula_16 : decode cX12_formula 16 = .ok (.aload_n 0, 1) := by decide +kernel
theorem dX12_formula_17 : decode cX12_formula 17 = .ok (.sipush 12800, 3) := by decide +kernel
theorem dX12_formula_20 : decode cX12_formula 20 = .ok (.putfield 153, 3) := by decide +kernel
theorem dX12_formula_23 : decode cX12_formula 23 = .ok (.aload_n 0, 1) := by decide +kernel
theorem dX12_formula_24 : decode cX12_formula 24 = .ok (.iconst 0, 1) := by decide +kernel
theorem dX12_formula_25 : decode cX12_formula 25 = .ok (.bipush (-2), 2) := by decide +kernel
theorem dX12_formula_27 : decode cX12_formula 27 = .ok (.invokevirtual 206, 3) := by decide +kernel
theorem dX12_formula_30 : decode cX12_formula 30 = .ok (.istore_n 1, 1) := by decide +kernel
theorem dX12_formula_31 : decode cX12_formula 31 = .ok (.aload_n 0, 1) := by decide +kernel
theorem dX12_formula_32 : decode cX12_formula 32 = .ok (.getfield 174, 3) := by decide +kernel
theorem dX12_formula_35 : decode cX12_formula 35 = .ok (.ifCond .ge 17, 3) := by decide +kernel
theorem dX12_formula_38 : decode cX12_formula 38 = .ok (.aload_n 0, 1) := by decide +kernel
theorem dX12_formula_39 : decode cX12_formula 39 = .ok (.invokevirtual 184, 3) := by decide +kernel
theorem dX12_formula_42 : decode cX12_formula 42 = .ok (.bipush (-2), 2) := by decide +kernel
theorem dX12_formula_44 : decode cX12_formula 44 = .ok (.if_icmp .eq 8, 3) := by decide +kernel
theorem dX12_formula_47 : decode cX12_formula 47 = .ok (.aload_n 0, 1) := by decide +kernel
theorem dX12_formula_48 : decode cX12_formula 48 = .ok (.invokevirtual 180, 3) := by decide +kernel
theorem dX12_formula_51 : decode cX12_formula 51 = .ok (.pop, 1) := by decide +kernel
theorem dX12_formula_52 : decode cX12_formula 52 = .ok (.aload_n 0, 1) := by decide +kernel
theorem dX12_formula_53 : decode cX12_formula 53 = .ok (.iconst 0, 1) := by decide +kernel
theorem dX12_formula_54 : decode cX12_formula 54 = .ok (.putfield 168, 3) := by decide +kernel
theorem dX12_formula_57 : decode cX12_formula 57 = .ok (.aload_n 0, 1) := by decide +kernel
theorem dX12_formula_58 : decode cX12_formula 58 = .ok (.getfield 174, 3) := by decide +kernel
theorem dX12_formula_61 : decode cX12_formula 61 = .ok (.ifCond .lt 11, 3) := by decide +kernel
theorem dX12_formula_64 : decode cX12_formula 64 = .ok (.bipush (-10), 2) := by decide +kernel
theorem dX12_formula_66 : decode cX12_formula 66 = .ok (.aload_n 0, 1) := by decide +kernel
theorem dX12_formula_67 : decode cX12_formula 67 = .ok (.getfield 174, 3) := by decide +kernel
theorem dX12_formula_70 : decode cX12_formula 70 = .ok (.isub, 1) := by decide +kernel
theorem dX12_formula_71 : decode cX12_formula 71 = .ok (.ireturn, 1) := by decide +kernel
theorem dX12_formula_72 : decode cX12_formula 72 = .ok (.aload_n 0, 1) := by decide +kernel
theorem dX12_formula_73 : decode cX12_formula 73 = .ok (.getfield 153, 3) := by decide +kernel
theorem dX12_formula_76 : decode cX12_formula 76 = .ok (.istore_n 2, 1) := by decide +kernel
theorem dX12_formula_77 : decode cX12_formula 77 = .ok (.aload_n 0, 1) := by decide +kernel
theorem dX12_formula_78 : decode cX12_formula 78 = .ok (.getfield 84, 3) := by decide +kernel
theorem dX12_formula_81 : decode cX12_formula 81 = .ok (.iload_n 1, 1) := by decide +kernel
theorem dX12_formula_82 : decode cX12_formula 82 = .ok (.iaload, 1) := by decide +kernel
theorem dX12_formula_83 : decode cX12_formula 83 = .ok (.istore_n 3, 1) := by decide +kernel
theorem dX12_formula_84 : decode cX12_formula 84 = .ok (.aload_n 0, 1) := by decide +kernel
theorem dX12_formula_85 : decode cX12_formula 85 = .ok (.aload_n 0, 1) := by decide +kernel
theorem dX12_formula_86 : decode cX12_formula 86 = .ok (.iload_n 1, 1) := by decide +kernel
theorem dX12_formula_87 : decode cX12_formula 87 = .ok (.iload_n 2, 1) := by decide +kernel
theorem dX12_formula_88 : decode cX12_formula 88 = .ok (.iload_n 3, 1) := by decide +kernel
theorem dX12_formula_89 : decode cX12_formula 89 = .ok (.invokevirtual 213, 3) := by decide +kernel
theorem dX12_formula_92 : decode cX12_formula 92 = .ok (.putfield 160, 3) := by decide +kernel
theorem dX12_formula_95 : decode cX12_formula 95 = .ok (.iload_n 3, 1) := by decide +kernel
theorem dX12_formula_96 : decode cX12_formula 96 = .ok (.ireturn, 1) := by decide +kernel
def f_X12_formula_52 (F P : Nat) (S : xSt) (v0 : Nat) (v1 : Int32) (D : xDt) : Option (Int32 × xDt) :=
  xlet (xup D.1 v0 16 0, D.2) fun D1 => if (D1.1 v0 18) < 0 then (xlet (D1.1 v0 13) fun v2_2 => xgrd (xin v1 (xl S (xr S v0 12))) (xlet (D1.1 (xr S v0 12) (v1).toNatClampNeg) fun v3_4 => (f_X12_moved F P S v0 v1 v2_2 v3_4 D1).bind fun q5 => xlet (xup q5.2.1 v0 14 q5.1, q5.2.2) fun D6 => some (v3_4, D6))) else (some ((-10) - (D1.1 v0 18), D1))
set_option maxHeartbeats 4000000 in
theorem t_X12_formula_52 {F P : Nat} {S : xSt} (hS : xWF S) {v0 : Nat} {v1 : Int32} {D : xDt} {r : Int32 × xDt} (k0 : xK S v0 12) (h : f_X12_formula_52 F P S v0 v1 D = some r) : yEx md_X12_formula (P + 3) 52 [(0, .ref v0), (1, .int v1)] [] S D (xQi S r) := by
  unfold f_X12_formula_52 at h
  refine x_aload_n dX12_formula_52 0 rfl ?_
  refine x_iconst 0 dX12_formula_53 (by decide) ?_
  refine xlet_e h (fun D1 eD1 h => ?_)
  refine y_puti fp_RX12_168 dX12_formula_54 rfl k0 eD1 ?_
  refine x_aload_n dX12_formula_57 0 rfl ?_
  refine y_geti fl_RX12_174 dX12_formula_58 rfl k0 ?_
  refine x_if_lt 72 dX12_formula_61 (by decide) (fun c => ?_) (fun c => ?_)
  · rw [if_pos c] at h
    refine x_aload_n dX12_formula_72 0 rfl ?_
    refine y_geti fl_RX12_153 dX12_formula_73 rfl k0 ?_
    refine xlet_e h (fun v2_2 ev2_2 h => ?_)
    refine y_istore_n v2_2 ev2_2 [(2, .int v2_2), (0, .ref v0), (1, .int v1)] dX12_formula_76 (by show _ < 4; decide) rfl ?_
    refine x_aload_n dX12_formula_77 1 rfl ?_
    refine y_getr (kd := 100) hS fl_RX12_84 dX12_formula_78 rfl k0 ?_
    refine x_iload_n dX12_formula_81 2 rfl ?_
    refine xgrd_e h (fun g3 h => ?_)
    refine y_iald dX12_formula_82 ((hS.f k0 12 100 rfl).2) g3 ?_
    refine xlet_e h (fun v3_4 ev3_4 h => ?_)
    refine y_istore_n v3_4 ev3_4 [(3, .int v3_4), (2, .int v2_2), (0, .ref v0), (1, .int v1)] dX12_formula_83 (by show _ < 4; decide) rfl ?_
    refine x_aload_n dX12_formula_84 2 rfl ?_
    refine x_aload_n dX12_formula_85 2 rfl ?_
    refine x_iload_n dX12_formula_86 3 rfl ?_
    refine x_iload_n dX12_formula_87 1 rfl ?_
    refine x_iload_n dX12_formula_88 0 rfl ?_
    refine xbnd_e h (fun q5 e5 h => ?_)
    refine y_callVi (As := [.int v1, .int v2_2, .int v3_4]) (q := q5) cv_RX12_213 dX12_formula_89 k0 rfl (Nat.le_of_ble_eq_true rfl) (by omega) (S_X12_moved hS k0 e5) ?_
    refine xlet_e h (fun D6 eD6 h => ?_)
    refine y_puti fp_RX12_160 dX12_formula_92 rfl k0 eD6 ?_
    refine x_iload_n dX12_formula_95 0 rfl ?_
    obtain rfl := Option.some.inj h
    exact y_iret rfl dX12_formula_96
  · rw [if_neg c] at h
    refine x_bipush (-10) dX12_formula_64 (by decide) ?_
    refine x_aload_n dX12_formula_66 0 rfl ?_
    refine y_geti fl_RX12_174 dX12_formula_67 rfl k0 ?_
    refine x_isub dX12_formula_70 ?_
    obtain rfl := Option.some.inj h
    exact y_iret rfl dX12_formula_71

def f_X12_formula (F P : Nat) (S : xSt) (v0 : Nat) (D : xDt) : Option (Int32 × xDt) :=
  xlet (xup D.1 v0 17 0, D.2) fun D1 => xlet (xup D1.1 v0 18 (-2), D1.2) fun D2 => xlet (xup D2.1 v0 19 0, D2.2) fun D3 => xlet (xup D3.1 v0 13 12800, D3.2) fun D4 => (f_X12_formulaAt F P S P v0 0 (-2) D4).bind fun q5 => if 0 ≤ (q5.2.1 v0 18) then (f_X12_formula_52 F P S v0 q5.1 q5.2) else ((f_X12_look F P S v0 q5.2).bind fun q6 => if q6.1 = (-2) then (f_X12_formula_52 F P S v0 q5.1 q6.2) else ((f_X12_bad F P S v0 q6.2).bind fun q7 => f_X12_formula_52 F P S v0 q5.1 q7.2))
set_option maxHeartbeats 4000000 in
theorem S_X12_formula {F P : Nat} {S : xSt} (hS : xWF S) {v0 : Nat} {D : xDt} {r : Int32 × xDt} (k0 : xK S v0 12) (h : f_X12_formula F P S v0 D = some r) : xSp md_X12_formula ((P + 3), 0, 0) [.ref v0] (S, D) (xQi S r) := by
  unfold f_X12_formula at h
  refine xEntry (by decide) (Nat.le_of_ble_eq_true rfl) ?_
  refine x_lv (lv' := [(0, .ref v0)]) [0] rfl ?_
  refine x_aload_n dX12_formula_0 0 rfl ?_
  refine x_iconst 0 dX12_formula_1 (by decide) ?_
  refine xlet_e h (fun D1 eD1 h => ?_)
  refine y_puti fp_RX12_171 dX12_formula_2 rfl k0 eD1 ?_
  refine x_aload_n dX12_formula_5 0 rfl ?_
  refine x_bipush (-2) dX12_formula_6 (by decide) ?_
  refine xlet_e h (fun D2 eD2 h => ?_)
  refine y_puti fp_RX12_174 dX12_formula_8 rfl k0 eD2 ?_
  refine x_aload_n dX12_formula_11 0 rfl ?_
  refine x_iconst 0 dX12_formula_12 (by decide) ?_
  refine xlet_e h (fun D3 eD3 h => ?_)
  refine y_puti fp_RX12_177 dX12_formula_13 rfl k0 eD3 ?_
  refine x_aload_n dX12_formula_16 0 rfl ?_
  refine x_sipush 12800 dX12_formula_17 (by decide) ?_
  refine xlet_e h (fun D4 eD4 h => ?_)
  refine y_puti fp_RX12_153 dX12_formula_20 rfl k0 eD4 ?_
  refine x_aload_n dX12_formula_23 0 rfl ?_
  refine x_iconst 0 dX12_formula_24 (by decide) ?_
  refine x_bipush (-2) dX12_formula_25 (by decide) ?_
  refine xbnd_e h (fun q5 e5 h => ?_)
  refine y_callVi (As := [.int 0, .int (-2)]) (q := q5) cv_RX12_206 dX12_formula_27 k0 rfl (Nat.le_of_ble_eq_true rfl) (by omega) (S_X12_formulaAt hS P k0 e5) ?_
  refine y_istore_n q5.1 rfl [(1, .int q5.1), (0, .ref v0)] dX12_formula_30 (by show _ < 4; decide) rfl ?_
  refine x_aload_n dX12_formula_31 1 rfl ?_
  refine y_geti fl_RX12_174 dX12_formula_32 rfl k0 ?_
  refine x_if_ge 52 dX12_formula_35 (by decide) (fun c => ?_) (fun c => ?_)
  · rw [if_pos c] at h
    refine x_lv (lv' := [(0, .ref v0), (1, .int q5.1)]) [1, 0] rfl ?_
    exact t_X12_formula_52 hS k0 h
  · rw [if_neg c] at h
    refine x_aload_n dX12_formula_38 1 rfl ?_
    refine xbnd_e h (fun q6 e6 h => ?_)
    refine y_callVi (As := []) (q := q6) cv_RX12_184 dX12_formula_39 k0 rfl (Nat.le_of_ble_eq_true rfl) (by omega) (S_X12_look hS k0 e6) ?_
    refine x_bipush (-2) dX12_formula_42 (by decide) ?_
    refine x_icmp_eq 52 dX12_formula_44 (by decide) (fun c => ?_) (fun c => ?_)
    · rw [if_pos c] at h
      refine x_lv (lv' := [(0, .ref v0), (1, .int q5.1)]) [1, 0] rfl ?_
      exact t_X12_formula_52 hS k0 h
    · rw [if_neg c] at h
      refine x_aload_n dX12_formula_47 1 rfl ?_
      refine xbnd_e h (fun q7 e7 h => ?_)
      refine y_callVi (As := []) (q := q7) cv_RX12_180 dX12_formula_48 k0 rfl (Nat.le_of_ble_eq_true rfl) (by omega) (S_X12_bad hS k0 e7) ?_
      refine x_pop dX12_formula_51 rfl ?_
      refine x_lv (lv' := [(0, .ref v0), (1, .int q5.1)]) [1, 0] rfl ?_
      exact t_X12_formula_52 hS k0 h

theorem dX12_ofAtom_0 : decode cX12_ofAtom 0 = .ok (.lconst 0, 1) := by decide +kernel
theorem dX12_ofAtom_1 : decode cX12_ofAtom 1 = .ok (.lstore_n 2, 1) := by decide +kernel
theorem dX12_ofAtom_2 : decode cX12_ofAtom 2 = .ok (.iconst 0, 1) := by decide +kernel
theorem dX12_ofAtom_3 : decode cX12_ofAtom 3 = .ok (.istore 4, 2) := by decide +kernel
theorem dX12_ofAtom_5 : decode cX12_ofAtom 5 = .ok (.iload 4, 2) := by decide +kernel
theorem dX12_ofAtom_7 : decode cX12_ofAtom 7 = .ok (.aload_n 0, 1) := by decide +kernel
theorem dX12_ofAtom_8 : decode cX12_ofAtom 8 = .ok (.getfield 7, 3) := by decide +kernel
theorem dX12_ofAtom_11 : decode cX12_ofAtom 11 = .ok (.if_icmp .ge 35, 3) := by decide +kernel
theorem dX12_ofAtom_14 : decode cX12_ofAtom 14 = .ok (.lload_n 2, 1) := by decide +kernel
theorem dX12_ofAtom_15 : decode cX12_ofAtom 15 = .ok (.aload_n 0, 1) := by decide +kernel
theorem dX12_ofAtom_16 : decode cX12_ofAtom 16 = .ok (.getfield 31, 3) := by decide +kernel
theorem dX12_ofAtom_19 : decode cX12_ofAtom 19 = .ok (.iload 4, 2) := by decide +kernel
theorem dX12_ofAtom_21 : decode cX12_ofAtom 21 = .ok (.iaload, 1) := by decide +kernel
theorem dX12_ofAtom_22 : decode cX12_ofAtom 22 = .ok (.iload_n 1, 1) := by decide +kernel
theorem dX12_ofAtom_23 : decode cX12_ofAtom 23 = .ok (.ishr, 1) := by decide +kernel
theorem dX12_ofAtom_24 : decode cX12_ofAtom 24 = .ok (.iconst 1, 1) := by decide +kernel
theorem dX12_ofAtom_25 : decode cX12_ofAtom 25 = .ok (.iand, 1) := by decide +kernel
theorem dX12_ofAtom_26 : decode cX12_ofAtom 26 = .ok (.iconst 1, 1) := by decide +kernel
theorem dX12_ofAtom_27 : decode cX12_ofAtom 27 = .ok (.if_icmp .ne 10, 3) := by decide +kernel
theorem dX12_ofAtom_30 : decode cX12_ofAtom 30 = .ok (.lconst 1, 1) := by decide +kernel
theorem dX12_ofAtom_31 : decode cX12_ofAtom 31 = .ok (.iload 4, 2) := by decide +kernel
theorem dX12_ofAtom_33 : decode cX12_ofAtom 33 = .ok (.lshl, 1) := by decide +kernel
theorem dX12_ofAtom_34 : decode cX12_ofAtom 34 = .ok (.goto 4, 3) := by decide +kernel
theorem dX12_ofAtom_37 : decode cX12_ofAtom 37 = .ok (.lconst 0, 1) := by decide +kernel
theorem dX12_ofAtom_38 : decode cX12_ofAtom 38 = .ok (.lor, 1) := by decide +kernel
theorem dX12_ofAtom_39 : decode cX12_ofAtom 39 = .ok (.lstore_n 2, 1) := by decide +kernel
theorem dX12_ofAtom_40 : decode cX12_ofAtom 40 = .ok (.iinc 4 1, 3) := by decide +kernel
theorem dX12_ofAtom_43 : decode cX12_ofAtom 43 = .ok (.goto (-38), 3) := by decide +kernel
theorem dX12_ofAtom_46 : decode cX12_ofAtom 46 = .ok (.lload_n 2, 1) := by decide +kernel
theorem dX12_ofAtom_47 : decode cX12_ofAtom 47 = .ok (.lreturn, 1) := by decide +kernel
def f_X12_ofAtom_38 (F P : Nat) (S : xSt) (rec_5 : Nat → Int32 → Int64 → Int32 → xDt → Option (Int64 × xDt)) (v0 : Nat) (v1 : Int32) (v4 : Int32) (s0 : Int64) (s1 : Int64) (D : xDt) : Option (Int64 × xDt) :=
  xlet (s1 ||| s0) fun v2_1 => xlet (v4 + 1) fun v4_2 => rec_5 v0 v1 v2_1 v4_2 D
set_option maxHeartbeats 4000000 in
theorem t_X12_ofAtom_38 {F P : Nat} {S : xSt} (hS : xWF S) {rec_5 : Nat → Int32 → Int64 → Int32 → xDt → Option (Int64 × xDt)} (hrec_5 : ∀ {v0 : Nat} {v1 : Int32} {v2 : Int64} {v4 : Int32} {D : xDt} {r : Int64 × xDt}, xK S v0 12 → rec_5 v0 v1 v2 v4 D = some r → yEx md_X12_ofAtom 0 5 [(0, .ref v0), (1, .int v1), (2, .long v2), (4, .int v4)] [] S D (xQl S r)) {v0 : Nat} {v1 : Int32} {v4 : Int32} {s0 : Int64} {s1 : Int64} {D : xDt} {r : Int64 × xDt} (k0 : xK S v0 12) (h : f_X12_ofAtom_38 F P S rec_5 v0 v1 v4 s0 s1 D = some r) : yEx md_X12_ofAtom 0 38 [(0, .ref v0), (1, .int v1), (4, .int v4)] [.long s0, .long s1] S D (xQl S r) := by
  unfold f_X12_ofAtom_38 at h
  refine x_lor dX12_ofAtom_38 ?_
  refine xlet_e h (fun v2_1 ev2_1 h => ?_)
  refine y_lstore_n v2_1 ev2_1 [(2, .long v2_1), (0, .ref v0), (1, .int v1), (4, .int v4)] dX12_ofAtom_39 (by show _ < 5; decide) rfl ?_
  refine xlet_e h (fun v4_2 ev4_2 h => ?_)
  refine y_iinc v4_2 ev4_2 (by decide) [(4, .int v4_2), (2, .long v2_1), (0, .ref v0), (1, .int v1)] dX12_ofAtom_40 3 rfl (by show _ < 5; decide) rfl ?_
  refine x_goto 5 dX12_ofAtom_43 (by decide) ?_
  refine x_lv (lv' := [(0, .ref v0), (1, .int v1), (2, .long v2_1), (4, .int v4_2)]) [2, 3, 1, 0] rfl ?_
  exact hrec_5 k0 h

def f_X12_ofAtom_5s (F P : Nat) (S : xSt) (rec_5 : Nat → Int32 → Int64 → Int32 → xDt → Option (Int64 × xDt)) (v0 : Nat) (v1 : Int32) (v2 : Int64) (v4 : Int32) (D : xDt) : Option (Int64 × xDt) :=
  if (D.1 v0 1) ≤ v4 then (some (v2, D)) else (xgrd (xin v4 (xl S (xr S v0 2))) (if ((jishr (D.1 (xr S v0 2) (v4).toNatClampNeg) v1) &&& 1) = 1 then (f_X12_ofAtom_38 F P S rec_5 v0 v1 v4 (jlshl 1 v4) v2 D) else (f_X12_ofAtom_38 F P S rec_5 v0 v1 v4 0 v2 D)))
def f_X12_ofAtom_5 (F P : Nat) (S : xSt) : Nat → Nat → Int32 → Int64 → Int32 → xDt → Option (Int64 × xDt)
  | 0 => fun _ _ _ _ _ => none
  | n + 1 => f_X12_ofAtom_5s F P S (f_X12_ofAtom_5 F P S n)
set_option maxHeartbeats 4000000 in
theorem t_X12_ofAtom_5s {F P : Nat} {S : xSt} (hS : xWF S) {rec_5 : Nat → Int32 → Int64 → Int32 → xDt → Option (Int64 × xDt)} (hrec_5 : ∀ {v0 : Nat} {v1 : Int32} {v2 : Int64} {v4 : Int32} {D : xDt} {r : Int64 × xDt}, xK S v0 12 → rec_5 v0 v1 v2 v4 D = some r → yEx md_X12_ofAtom 0 5 [(0, .ref v0), (1, .int v1), (2, .long v2), (4, .int v4)] [] S D (xQl S r)) {v0 : Nat} {v1 : Int32} {v2 : Int64} {v4 : Int32} {D : xDt} {r : Int64 × xDt} (k0 : xK S v0 12) (h : f_X12_ofAtom_5s F P S rec_5 v0 v1 v2 v4 D = some r) : yEx md_X12_ofAtom 0 5 [(0, .ref v0), (1, .int v1), (2, .long v2), (4, .int v4)] [] S D (xQl S r) := by
  unfold f_X12_ofAtom_5s at h
  refine x_iload dX12_ofAtom_5 3 rfl ?_
  refine x_aload_n dX12_ofAtom_7 0 rfl ?_
  refine y_geti fl_RX12_7 dX12_ofAtom_8 rfl k0 ?_
  refine x_icmp_ge 46 dX12_ofAtom_11 (by decide) (fun c => ?_) (fun c => ?_)
  · rw [if_pos c] at h
    refine x_lload_n dX12_ofAtom_46 2 rfl ?_
    obtain rfl := Option.some.inj h
    exact y_lret rfl dX12_ofAtom_47
  · rw [if_neg c] at h
    refine x_lload_n dX12_ofAtom_14 2 rfl ?_
    refine x_aload_n dX12_ofAtom_15 0 rfl ?_
    refine y_getr (kd := 100) hS fl_RX12_31 dX12_ofAtom_16 rfl k0 ?_
    refine x_iload dX12_ofAtom_19 3 rfl ?_
    refine xgrd_e h (fun g1 h => ?_)
    refine y_iald dX12_ofAtom_21 ((hS.f k0 2 100 rfl).2) g1 ?_
    refine x_iload_n dX12_ofAtom_22 1 rfl ?_
    refine x_ishr dX12_ofAtom_23 ?_
    refine x_iconst 1 dX12_ofAtom_24 (by decide) ?_
    refine x_iand dX12_ofAtom_25 ?_
    refine x_iconst 1 dX12_ofAtom_26 (by decide) ?_
    refine x_icmp_ne 37 dX12_ofAtom_27 (by decide) (fun c => ?_) (fun c => ?_)
    · rw [if_neg c] at h
      refine x_lconst 0 dX12_ofAtom_37 (by decide) ?_
      refine x_lv (lv' := [(0, .ref v0), (1, .int v1), (4, .int v4)]) [0, 1, 3] rfl ?_
      exact t_X12_ofAtom_38 hS hrec_5 k0 h
    · rw [if_pos c] at h
      refine x_lconst 1 dX12_ofAtom_30 (by decide) ?_
      refine x_iload dX12_ofAtom_31 3 rfl ?_
      refine x_lshl dX12_ofAtom_33 ?_
      refine x_goto 38 dX12_ofAtom_34 (by decide) ?_
      refine x_lv (lv' := [(0, .ref v0), (1, .int v1), (4, .int v4)]) [0, 1, 3] rfl ?_
      exact t_X12_ofAtom_38 hS hrec_5 k0 h
theorem t_X12_ofAtom_5 {F P : Nat} {S : xSt} (hS : xWF S) : ∀ (n : Nat) {v0 : Nat} {v1 : Int32} {v2 : Int64} {v4 : Int32} {D : xDt} {r : Int64 × xDt}, xK S v0 12 → f_X12_ofAtom_5 F P S n v0 v1 v2 v4 D = some r → yEx md_X12_ofAtom 0 5 [(0, .ref v0), (1, .int v1), (2, .long v2), (4, .int v4)] [] S D (xQl S r) := by
  intro n
  induction n with
  | zero => intros; rename_i h; cases h
  | succ n ih =>
    intro v0 v1 v2 v4 D r k0 h
    exact t_X12_ofAtom_5s hS (fun k0 h => ih k0 h) k0 h

def f_X12_ofAtom (F P : Nat) (S : xSt) (v0 : Nat) (v1 : Int32) (D : xDt) : Option (Int64 × xDt) :=
  f_X12_ofAtom_5 F P S F v0 v1 0 0 D
set_option maxHeartbeats 4000000 in
theorem S_X12_ofAtom {F P : Nat} {S : xSt} (hS : xWF S) {v0 : Nat} {v1 : Int32} {D : xDt} {r : Int64 × xDt} (k0 : xK S v0 12) (h : f_X12_ofAtom F P S v0 v1 D = some r) : xSp md_X12_ofAtom (0, 0, 0) [.ref v0, .int v1] (S, D) (xQl S r) := by
  unfold f_X12_ofAtom at h
  refine xEntry (by decide) (Nat.le_of_ble_eq_true rfl) ?_
  refine x_lv (lv' := [(0, .ref v0), (1, .int v1)]) [0, 1] rfl ?_
  refine x_lconst 0 dX12_ofAtom_0 (by decide) ?_
  refine y_lstore_n 0 rfl [(2, .long 0), (0, .ref v0), (1, .int v1)] dX12_ofAtom_1 (by show _ < 5; decide) rfl ?_
  refine x_iconst 0 dX12_ofAtom_2 (by decide) ?_
  refine y_istore 0 rfl [(4, .int 0), (2, .long 0), (0, .ref v0), (1, .int v1)] dX12_ofAtom_3 (by show _ < 5; decide) rfl ?_
  refine x_lv (lv' := [(0, .ref v0), (1, .int v1), (2, .long 0), (4, .int 0)]) [2, 3, 1, 0] rfl ?_
  exact t_X12_ofAtom_5 hS F k0 h

theorem dX12_reached_0 : decode cX12_reached 0 = .ok (.lload_n 2, 1) := by decide +kernel
theorem dX12_reached_1 : decode cX12_reached 1 = .ok (.lstore 6, 2) := by decide +kernel
theorem dX12_reached_3 : decode cX12_reached 3 = .ok (.lconst 0, 1) := by decide +kernel
theorem dX12_reached_4 : decode cX12_reached 4 = .ok (.lstore 8, 2) := by decide +kernel
theorem dX12_reached_6 : decode cX12_reached 6 = .ok (.lload 6, 2) := by decide +kernel
theorem dX12_reached_8 : decode cX12_reached 8 = .ok (.lload 8, 2) := by decide +kernel
theorem dX12_reached_10 : decode cX12_reached 10 = .ok (.lcmp, 1) := by decide +kernel
theorem dX12_reached_11 : decode cX12_reached 11 = .ok (.ifCond .eq 87, 3) := by decide +kernel
theorem dX12_reached_14 : decode cX12_reached 14 = .ok (.lload 6, 2) := by decide +kernel
theorem dX12_reached_16 : decode cX12_reached 16 = .ok (.lstore 8, 2) := by decide +kernel
theorem dX12_reached_18 : decode cX12_reached 18 = .ok (.iconst 1, 1) := by decide +kernel
theorem dX12_reached_19 : decode cX12_reached 19 = .ok (.istore 10, 2) := by decide +kernel
theorem dX12_reached_21 : decode cX12_reached 21 = .ok (.iload 10, 2) := by decide +kernel
theorem dX12_reached_23 : decode cX12_reached 23 = .ok (.iconst 4, 1) := by decide +kernel
theorem dX12_reached_24 : decode cX12_reached 24 = .ok (.if_icmp .gt 71, 3) := by decide +kernel
theorem dX12_reached_27 : decode cX12_reached 27 = .ok (.iconst 0, 1) := by decide +kernel
theorem dX12_reached_28 : decode cX12_reached 28 = .ok (.istore 11, 2) := by decide +kernel
theorem dX12_reached_30 : decode cX12_reached 30 = .ok (.iload 11, 2) := by decide +kernel
theorem dX12_reached_32 : decode cX12_reached 32 = .ok (.aload_n 0, 1) := by decide +kernel
theorem dX12_reached_33 : decode cX12_reached 33 = .ok (.getfield 7, 3) := by decide +kernel
theorem dX12_reached_36 : decode cX12_reached 36 = .ok (.if_icmp .ge 53, 3) := by decide +kernel
theorem dX12_reached_39 : decode cX12_reached 39 = .ok (.iload_n 1, 1) := by decide +kernel
theorem dX12_reached_40 : decode cX12_reached 40 = .ok (.iload 10, 2) := by decide +kernel
theorem dX12_reached_42 : decode cX12_reached 42 = .ok (.iconst 1, 1) := by decide +kernel
theorem dX12_reached_43 : decode cX12_reached 43 = .ok (.isub, 1) := by decide +kernel
theorem dX12_reached_44 : decode cX12_reached 44 = .ok (.ishr, 1) := by decide +kernel
theorem dX12_reached_45 : decode cX12_reached 45 = .ok (.iconst 1, 1) := by decide +kernel
theorem dX12_reached_46 : decode cX12_reached 46 = .ok (.iand, 1) := by decide +kernel
theorem dX12_reached_47 : decode cX12_reached 47 = .ok (.iconst 1, 1) := by decide +kernel
theorem dX12_reached_48 : decode cX12_reached 48 = .ok (.if_icmp .ne 41, 3) := by decide +kernel
theorem dX12_reached_51 : decode cX12_reached 51 = .ok (.lload 6, 2) := by decide +kernel
theorem dX12_reached_53 : decode cX12_reached 53 = .ok (.lload 8, 2) := by decide +kernel
theorem dX12_reached_55 : decode cX12_reached 55 = .ok (.iload 11, 2) := by decide +kernel
theorem dX12_reached_57 : decode cX12_reached 57 = .ok (.lushr, 1) := by decide +kernel
theorem dX12_reached_58 : decode cX12_reached 58 = .ok (.lconst 1, 1) := by decide +kernel
theorem dX12_reached_59 : decode cX12_reached 59 = .ok (.land, 1) := by decide +kernel
theorem dX12_reached_60 : decode cX12_reached 60 = .ok (.lconst 1, 1) := by decide +kernel
theorem dX12_reached_61 : decode cX12_reached 61 = .ok (.lcmp, 1) := by decide +kernel
theorem dX12_reached_62 : decode cX12_reached 62 = .ok (.ifCond .ne 17, 3) := by decide +kernel
theorem dX12_reached_65 : decode cX12_reached 65 = .ok (.aload_n 0, 1) := by decide +kernel
theorem dX12_reached_66 : decode cX12_reached 66 = .ok (.iload 10, 2) := by decide +kernel
theorem dX12_reached_68 : decode cX12_reached 68 = .ok (.iload 11, 2) := by decide +kernel
theorem dX12_reached_70 : decode cX12_reached 70 = .ok (.invokevirtual 41, 3) := by decide +kernel
theorem dX12_reached_73 : decode cX12_reached 73 = .ok (.lload 4, 2) := by decide +kernel
theorem dX12_reached_75 : decode cX12_reached 75 = .ok (.land, 1) := by decide +kernel
theorem dX12_reached_76 : decode cX12_reached 76 = .ok (.goto 4, 3) := by decide +kernel
theorem dX12_reached_79 : decode cX12_reached 79 = .ok (.lconst 0, 1) := by decide +kernel
theorem dX12_reached_80 : decode cX12_reached 80 = .ok (.lor, 1) := by decide +kernel
theorem dX12_reached_81 : decode cX12_reached 81 = .ok (.lstore 6, 2) := by decide +kernel
theorem dX12_reached_83 : decode cX12_reached 83 = .ok (.iinc 11 1, 3) := by decide +kernel
theorem dX12_reached_86 : decode cX12_reached 86 = .ok (.goto (-56), 3) := by decide +kernel
theorem dX12_reached_89 : decode cX12_reached 89 = .ok (.iinc 10 1, 3) := by decide +kernel
theorem dX12_reached_92 : decode cX12_reached 92 = .ok (.goto (-71), 3) := by decide +kernel
theorem dX12_reached_95 : decode cX12_reached 95 = .ok (.goto (-89), 3) := by decide +kernel
theorem dX12_reached_98 : decode cX12_reached 98 = .ok (.lload 6, 2) := by decide +kernel
theorem dX12_reached_100 : decode cX12_reached 100 = .ok (.lreturn, 1) := by decide +kernel
def f_X12_reached_80 (F P : Nat) (S : xSt) (rec_6 : Nat → Int32 → Int64 → Int64 → Int64 → xDt → Option (Int64 × xDt)) (rec_21 : Nat → Int32 → Int64 → Int64 → Int64 → Int32 → xDt → Option (Int64 × xDt)) (rec_30 : Nat → Int32 → Int64 → Int64 → Int64 → Int32 → Int32 → xDt → Option (Int64 × xDt)) (v0 : Nat) (v1 : Int32) (v4 : Int64) (v8 : Int64) (v10 : Int32) (v11 : Int32) (s0 : Int64) (s1 : Int64) (D : xDt) : Option (Int64 × xDt) :=
  xlet (s1 ||| s0) fun v6_1 => xlet (v11 + 1) fun v11_2 => rec_30 v0 v1 v4 v6_1 v8 v10 v11_2 D
set_option maxHeartbeats 4000000 in
theorem t_X12_reached_80 {F P : Nat} {S : xSt} (hS : xWF S) {rec_6 : Nat → Int32 → Int64 → Int64 → Int64 → xDt → Option (Int64 × xDt)} (hrec_6 : ∀ {v0 : Nat} {v1 : Int32} {v4 : Int64} {v6 : Int64} {v8 : Int64} {D : xDt} {r : Int64 × xDt}, xK S v0 12 → rec_6 v0 v1 v4 v6 v8 D = some r → yEx md_X12_reached 2 6 [(0, .ref v0), (1, .int v1), (4, .long v4), (6, .long v6), (8, .long v8)] [] S D (xQl S r)) {rec_21 : Nat → Int32 → Int64 → Int64 → Int64 → Int32 → xDt → Option (Int64 × xDt)} (hrec_21 : ∀ {v0 : Nat} {v1 : Int32} {v4 : Int64} {v6 : Int64} {v8 : Int64} {v10 : Int32} {D : xDt} {r : Int64 × xDt}, xK S v0 12 → rec_21 v0 v1 v4 v6 v8 v10 D = some r → yEx md_X12_reached 2 21 [(0, .ref v0), (1, .int v1), (4, .long v4), (6, .long v6), (8, .long v8), (10, .int v10)] [] S D (xQl S r)) {rec_30 : Nat → Int32 → Int64 → Int64 → Int64 → Int32 → Int32 → xDt → Option (Int64 × xDt)} (hrec_30 : ∀ {v0 : Nat} {v1 : Int32} {v4 : Int64} {v6 : Int64} {v8 : Int64} {v10 : Int32} {v11 : Int32} {D : xDt} {r : Int64 × xDt}, xK S v0 12 → rec_30 v0 v1 v4 v6 v8 v10 v11 D = some r → yEx md_X12_reached 2 30 [(0, .ref v0), (1, .int v1), (4, .long v4), (6, .long v6), (8, .long v8), (10, .int v10), (11, .int v11)] [] S D (xQl S r)) {v0 : Nat} {v1 : Int32} {v4 : Int64} {v8 : Int64} {v10 : Int32} {v11 : Int32} {s0 : Int64} {s1 : Int64} {D : xDt} {r : Int64 × xDt} (k0 : xK S v0 12) (h : f_X12_reached_80 F P S rec_6 rec_21 rec_30 v0 v1 v4 v8 v10 v11 s0 s1 D = some r) : yEx md_X12_reached 2 80 [(0, .ref v0), (1, .int v1), (4, .long v4), (8, .long v8), (10, .int v10), (11, .int v11)] [.long s0, .long s1] S D (xQl S r) := by
  unfold f_X12_reached_80 at h
  refine x_lor dX12_reached_80 ?_
  refine xlet_e h (fun v6_1 ev6_1 h => ?_)
  refine y_lstore v6_1 ev6_1 [(6, .long v6_1), (0, .ref v0), (1, .int v1), (4, .long v4), (8, .long v8), (10, .int v10), (11, .int v11)] dX12_reached_81 (by show _ < 12; decide) rfl ?_
  refine xlet_e h (fun v11_2 ev11_2 h => ?_)
  refine y_iinc v11_2 ev11_2 (by decide) [(11, .int v11_2), (6, .long v6_1), (0, .ref v0), (1, .int v1), (4, .long v4), (8, .long v8), (10, .int v10)] dX12_reached_83 6 rfl (by show _ < 12; decide) rfl ?_
  refine x_goto 30 dX12_reached_86 (by decide) ?_
  refine x_lv (lv' := [(0, .ref v0), (1, .int v1), (4, .long v4), (6, .long v6_1), (8, .long v8), (10, .int v10), (11, .int v11_2)]) [2, 3, 4, 1, 5, 6, 0] rfl ?_
  exact hrec_30 k0 h

def f_X12_reached_89 (F P : Nat) (S : xSt) (rec_6 : Nat → Int32 → Int64 → Int64 → Int64 → xDt → Option (Int64 × xDt)) (rec_21 : Nat → Int32 → Int64 → Int64 → Int64 → Int32 → xDt → Option (Int64 × xDt)) (v0 : Nat) (v1 : Int32) (v4 : Int64) (v6 : Int64) (v8 : Int64) (v10 : Int32) (D : xDt) : Option (Int64 × xDt) :=
  xlet (v10 + 1) fun v10_1 => rec_21 v0 v1 v4 v6 v8 v10_1 D
set_option maxHeartbeats 4000000 in
theorem t_X12_reached_89 {F P : Nat} {S : xSt} (hS : xWF S) {rec_6 : Nat → Int32 → Int64 → Int64 → Int64 → xDt → Option (Int64 × xDt)} (hrec_6 : ∀ {v0 : Nat} {v1 : Int32} {v4 : Int64} {v6 : Int64} {v8 : Int64} {D : xDt} {r : Int64 × xDt}, xK S v0 12 → rec_6 v0 v1 v4 v6 v8 D = some r → yEx md_X12_reached 2 6 [(0, .ref v0), (1, .int v1), (4, .long v4), (6, .long v6), (8, .long v8)] [] S D (xQl S r)) {rec_21 : Nat → Int32 → Int64 → Int64 → Int64 → Int32 → xDt → Option (Int64 × xDt)} (hrec_21 : ∀ {v0 : Nat} {v1 : Int32} {v4 : Int64} {v6 : Int64} {v8 : Int64} {v10 : Int32} {D : xDt} {r : Int64 × xDt}, xK S v0 12 → rec_21 v0 v1 v4 v6 v8 v10 D = some r → yEx md_X12_reached 2 21 [(0, .ref v0), (1, .int v1), (4, .long v4), (6, .long v6), (8, .long v8), (10, .int v10)] [] S D (xQl S r)) {v0 : Nat} {v1 : Int32} {v4 : Int64} {v6 : Int64} {v8 : Int64} {v10 : Int32} {D : xDt} {r : Int64 × xDt} (k0 : xK S v0 12) (h : f_X12_reached_89 F P S rec_6 rec_21 v0 v1 v4 v6 v8 v10 D = some r) : yEx md_X12_reached 2 89 [(0, .ref v0), (1, .int v1), (4, .long v4), (6, .long v6), (8, .long v8), (10, .int v10)] [] S D (xQl S r) := by
  unfold f_X12_reached_89 at h
  refine xlet_e h (fun v10_1 ev10_1 h => ?_)
  refine y_iinc v10_1 ev10_1 (by decide) [(10, .int v10_1), (0, .ref v0), (1, .int v1), (4, .long v4), (6, .long v6), (8, .long v8)] dX12_reached_89 5 rfl (by show _ < 12; decide) rfl ?_
  refine x_goto 21 dX12_reached_92 (by decide) ?_
  refine x_lv (lv' := [(0, .ref v0), (1, .int v1), (4, .long v4), (6, .long v6), (8, .long v8), (10, .int v10_1)]) [1, 2, 3, 4, 5, 0] rfl ?_
  exact hrec_21 k0 h

def f_X12_reached_30s (F P : Nat) (S : xSt) (rec_6 : Nat → Int32 → Int64 → Int64 → Int64 → xDt → Option (Int64 × xDt)) (rec_21 : Nat → Int32 → Int64 → Int64 → Int64 → Int32 → xDt → Option (Int64 × xDt)) (rec_30 : Nat → Int32 → Int64 → Int64 → Int64 → Int32 → Int32 → xDt → Option (Int64 × xDt)) (v0 : Nat) (v1 : Int32) (v4 : Int64) (v6 : Int64) (v8 : Int64) (v10 : Int32) (v11 : Int32) (D : xDt) : Option (Int64 × xDt) :=
  if (D.1 v0 1) ≤ v11 then (f_X12_reached_89 F P S rec_6 rec_21 v0 v1 v4 v6 v8 v10 D) else (if ((jishr v1 (v10 - 1)) &&& 1) = 1 then (if (lg_cmp ((jlushr v8 v11) &&& 1) 1) = 0 then ((f_X12_cellOf F P S v0 v10 v11 D).bind fun q1 => f_X12_reached_80 F P S rec_6 rec_21 rec_30 v0 v1 v4 v8 v10 v11 (q1.1 &&& v4) v6 q1.2) else (f_X12_reached_80 F P S rec_6 rec_21 rec_30 v0 v1 v4 v8 v10 v11 0 v6 D)) else (f_X12_reached_89 F P S rec_6 rec_21 v0 v1 v4 v6 v8 v10 D))
def f_X12_reached_30 (F P : Nat) (S : xSt) (rec_6 : Nat → Int32 → Int64 → Int64 → Int64 → xDt → Option (Int64 × xDt)) (rec_21 : Nat → Int32 → Int64 → Int64 → Int64 → Int32 → xDt → Option (Int64 × xDt)) : Nat → Nat → Int32 → Int64 → Int64 → Int64 → Int32 → Int32 → xDt → Option (Int64 × xDt)
  | 0 => fun _ _ _ _ _ _ _ _ => none
  | n + 1 => f_X12_reached_30s F P S rec_6 rec_21 (f_X12_reached_30 F P S rec_6 rec_21 n)
set_option maxHeartbeats 4000000 in
theorem t_X12_reached_30s {F P : Nat} {S : xSt} (hS : xWF S) {rec_6 : Nat → Int32 → Int64 → Int64 → Int64 → xDt → Option (Int64 × xDt)} (hrec_6 : ∀ {v0 : Nat} {v1 : Int32} {v4 : Int64} {v6 : Int64} {v8 : Int64} {D : xDt} {r : Int64 × xDt}, xK S v0 12 → rec_6 v0 v1 v4 v6 v8 D = some r → yEx md_X12_reached 2 6 [(0, .ref v0), (1, .int v1), (4, .long v4), (6, .long v6), (8, .long v8)] [] S D (xQl S r)) {rec_21 : Nat → Int32 → Int64 → Int64 → Int64 → Int32 → xDt → Option (Int64 × xDt)} (hrec_21 : ∀ {v0 : Nat} {v1 : Int32} {v4 : Int64} {v6 : Int64} {v8 : Int64} {v10 : Int32} {D : xDt} {r : Int64 × xDt}, xK S v0 12 → rec_21 v0 v1 v4 v6 v8 v10 D = some r → yEx md_X12_reached 2 21 [(0, .ref v0), (1, .int v1), (4, .long v4), (6, .long v6), (8, .long v8), (10, .int v10)] [] S D (xQl S r)) {rec_30 : Nat → Int32 → Int64 → Int64 → Int64 → Int32 → Int32 → xDt → Option (Int64 × xDt)} (hrec_30 : ∀ {v0 : Nat} {v1 : Int32} {v4 : Int64} {v6 : Int64} {v8 : Int64} {v10 : Int32} {v11 : Int32} {D : xDt} {r : Int64 × xDt}, xK S v0 12 → rec_30 v0 v1 v4 v6 v8 v10 v11 D = some r → yEx md_X12_reached 2 30 [(0, .ref v0), (1, .int v1), (4, .long v4), (6, .long v6), (8, .long v8), (10, .int v10), (11, .int v11)] [] S D (xQl S r)) {v0 : Nat} {v1 : Int32} {v4 : Int64} {v6 : Int64} {v8 : Int64} {v10 : Int32} {v11 : Int32} {D : xDt} {r : Int64 × xDt} (k0 : xK S v0 12) (h : f_X12_reached_30s F P S rec_6 rec_21 rec_30 v0 v1 v4 v6 v8 v10 v11 D = some r) : yEx md_X12_reached 2 30 [(0, .ref v0), (1, .int v1), (4, .long v4), (6, .long v6), (8, .long v8), (10, .int v10), (11, .int v11)] [] S D (xQl S r) := by
  unfold f_X12_reached_30s at h
  refine x_iload dX12_reached_30 6 rfl ?_
  refine x_aload_n dX12_reached_32 0 rfl ?_
  refine y_geti fl_RX12_7 dX12_reached_33 rfl k0 ?_
  refine x_icmp_ge 89 dX12_reached_36 (by decide) (fun c => ?_) (fun c => ?_)
  · rw [if_pos c] at h
    refine x_lv (lv' := [(0, .ref v0), (1, .int v1), (4, .long v4), (6, .long v6), (8, .long v8), (10, .int v10)]) [0, 1, 2, 3, 4, 5] rfl ?_
    exact t_X12_reached_89 hS hrec_6 hrec_21 k0 h
  · rw [if_neg c] at h
    refine x_iload_n dX12_reached_39 1 rfl ?_
    refine x_iload dX12_reached_40 5 rfl ?_
    refine x_iconst 1 dX12_reached_42 (by decide) ?_
    refine x_isub dX12_reached_43 ?_
    refine x_ishr dX12_reached_44 ?_
    refine x_iconst 1 dX12_reached_45 (by decide) ?_
    refine x_iand dX12_reached_46 ?_
    refine x_iconst 1 dX12_reached_47 (by decide) ?_
    refine x_icmp_ne 89 dX12_reached_48 (by decide) (fun c => ?_) (fun c => ?_)
    · rw [if_neg c] at h
      refine x_lv (lv' := [(0, .ref v0), (1, .int v1), (4, .long v4), (6, .long v6), (8, .long v8), (10, .int v10)]) [0, 1, 2, 3, 4, 5] rfl ?_
      exact t_X12_reached_89 hS hrec_6 hrec_21 k0 h
    · rw [if_pos c] at h
      refine x_lload dX12_reached_51 3 rfl ?_
      refine x_lload dX12_reached_53 4 rfl ?_
      refine x_iload dX12_reached_55 6 rfl ?_
      refine x_lushr dX12_reached_57 ?_
      refine x_lconst 1 dX12_reached_58 (by decide) ?_
      refine x_land dX12_reached_59 ?_
      refine x_lconst 1 dX12_reached_60 (by decide) ?_
      refine x_lcmp dX12_reached_61 ?_
      refine x_if_ne 79 dX12_reached_62 (by decide) (fun c => ?_) (fun c => ?_)
      · rw [if_neg c] at h
        refine x_lconst 0 dX12_reached_79 (by decide) ?_
        refine x_lv (lv' := [(0, .ref v0), (1, .int v1), (4, .long v4), (8, .long v8), (10, .int v10), (11, .int v11)]) [0, 1, 2, 4, 5, 6] rfl ?_
        exact t_X12_reached_80 hS hrec_6 hrec_21 hrec_30 k0 h
      · rw [if_pos c] at h
        refine x_aload_n dX12_reached_65 0 rfl ?_
        refine x_iload dX12_reached_66 5 rfl ?_
        refine x_iload dX12_reached_68 6 rfl ?_
        refine xbnd_e h (fun q1 e1 h => ?_)
        refine y_callVl (As := [.int v10, .int v11]) (q := q1) cv_RX12_41 dX12_reached_70 k0 rfl (Nat.le_of_ble_eq_true rfl) (by omega) (S_X12_cellOf hS k0 e1) ?_
        refine x_lload dX12_reached_73 2 rfl ?_
        refine x_land dX12_reached_75 ?_
        refine x_goto 80 dX12_reached_76 (by decide) ?_
        refine x_lv (lv' := [(0, .ref v0), (1, .int v1), (4, .long v4), (8, .long v8), (10, .int v10), (11, .int v11)]) [0, 1, 2, 4, 5, 6] rfl ?_
        exact t_X12_reached_80 hS hrec_6 hrec_21 hrec_30 k0 h
theorem t_X12_reached_30 {F P : Nat} {S : xSt} (hS : xWF S) {rec_6 : Nat → Int32 → Int64 → Int64 → Int64 → xDt → Option (Int64 × xDt)} (hrec_6 : ∀ {v0 : Nat} {v1 : Int32} {v4 : Int64} {v6 : Int64} {v8 : Int64} {D : xDt} {r : Int64 × xDt}, xK S v0 12 → rec_6 v0 v1 v4 v6 v8 D = some r → yEx md_X12_reached 2 6 [(0, .ref v0), (1, .int v1), (4, .long v4), (6, .long v6), (8, .long v8)] [] S D (xQl S r)) {rec_21 : Nat → Int32 → Int64 → Int64 → Int64 → Int32 → xDt → Option (Int64 × xDt)} (hrec_21 : ∀ {v0 : Nat} {v1 : Int32} {v4 : Int64} {v6 : Int64} {v8 : Int64} {v10 : Int32} {D : xDt} {r : Int64 × xDt}, xK S v0 12 → rec_21 v0 v1 v4 v6 v8 v10 D = some r → yEx md_X12_reached 2 21 [(0, .ref v0), (1, .int v1), (4, .long v4), (6, .long v6), (8, .long v8), (10, .int v10)] [] S D (xQl S r)) : ∀ (n : Nat) {v0 : Nat} {v1 : Int32} {v4 : Int64} {v6 : Int64} {v8 : Int64} {v10 : Int32} {v11 : Int32} {D : xDt} {r : Int64 × xDt}, xK S v0 12 → f_X12_reached_30 F P S rec_6 rec_21 n v0 v1 v4 v6 v8 v10 v11 D = some r → yEx md_X12_reached 2 30 [(0, .ref v0), (1, .int v1), (4, .long v4), (6, .long v6), (8, .long v8), (10, .int v10), (11, .int v11)] [] S D (xQl S r) := by
  intro n
  induction n with
  | zero => intros; rename_i h; cases h
  | succ n ih =>
    intro v0 v1 v4 v6 v8 v10 v11 D r k0 h
    exact t_X12_reached_30s hS hrec_6 hrec_21 (fun k0 h => ih k0 h) k0 h

def f_X12_reached_21s (F P : Nat) (S : xSt) (rec_6 : Nat → Int32 → Int64 → Int64 → Int64 → xDt → Option (Int64 × xDt)) (rec_21 : Nat → Int32 → Int64 → Int64 → Int64 → Int32 → xDt → Option (Int64 × xDt)) (v0 : Nat) (v1 : Int32) (v4 : Int64) (v6 : Int64) (v8 : Int64) (v10 : Int32) (D : xDt) : Option (Int64 × xDt) :=
  if 4 < v10 then (rec_6 v0 v1 v4 v6 v8 D) else (f_X12_reached_30 F P S rec_6 rec_21 F v0 v1 v4 v6 v8 v10 0 D)
def f_X12_reached_21 (F P : Nat) (S : xSt) (rec_6 : Nat → Int32 → Int64 → Int64 → Int64 → xDt → Option (Int64 × xDt)) : Nat → Nat → Int32 → Int64 → Int64 → Int64 → Int32 → xDt → Option (Int64 × xDt)
  | 0 => fun _ _ _ _ _ _ _ => none
  | n + 1 => f_X12_reached_21s F P S rec_6 (f_X12_reached_21 F P S rec_6 n)
set_option maxHeartbeats 4000000 in
theorem t_X12_reached_21s {F P : Nat} {S : xSt} (hS : xWF S) {rec_6 : Nat → Int32 → Int64 → Int64 → Int64 → xDt → Option (Int64 × xDt)} (hrec_6 : ∀ {v0 : Nat} {v1 : Int32} {v4 : Int64} {v6 : Int64} {v8 : Int64} {D : xDt} {r : Int64 × xDt}, xK S v0 12 → rec_6 v0 v1 v4 v6 v8 D = some r → yEx md_X12_reached 2 6 [(0, .ref v0), (1, .int v1), (4, .long v4), (6, .long v6), (8, .long v8)] [] S D (xQl S r)) {rec_21 : Nat → Int32 → Int64 → Int64 → Int64 → Int32 → xDt → Option (Int64 × xDt)} (hrec_21 : ∀ {v0 : Nat} {v1 : Int32} {v4 : Int64} {v6 : Int64} {v8 : Int64} {v10 : Int32} {D : xDt} {r : Int64 × xDt}, xK S v0 12 → rec_21 v0 v1 v4 v6 v8 v10 D = some r → yEx md_X12_reached 2 21 [(0, .ref v0), (1, .int v1), (4, .long v4), (6, .long v6), (8, .long v8), (10, .int v10)] [] S D (xQl S r)) {v0 : Nat} {v1 : Int32} {v4 : Int64} {v6 : Int64} {v8 : Int64} {v10 : Int32} {D : xDt} {r : Int64 × xDt} (k0 : xK S v0 12) (h : f_X12_reached_21s F P S rec_6 rec_21 v0 v1 v4 v6 v8 v10 D = some r) : yEx md_X12_reached 2 21 [(0, .ref v0), (1, .int v1), (4, .long v4), (6, .long v6), (8, .long v8), (10, .int v10)] [] S D (xQl S r) := by
  unfold f_X12_reached_21s at h
  refine x_iload dX12_reached_21 5 rfl ?_
  refine x_iconst 4 dX12_reached_23 (by decide) ?_
  refine x_icmp_gt 95 dX12_reached_24 (by decide) (fun c => ?_) (fun c => ?_)
  · rw [if_pos c] at h
    refine x_goto 6 dX12_reached_95 (by decide) ?_
    refine x_lv (lv' := [(0, .ref v0), (1, .int v1), (4, .long v4), (6, .long v6), (8, .long v8)]) [0, 1, 2, 3, 4] rfl ?_
    exact hrec_6 k0 h
  · rw [if_neg c] at h
    refine x_iconst 0 dX12_reached_27 (by decide) ?_
    refine y_istore 0 rfl [(11, .int 0), (0, .ref v0), (1, .int v1), (4, .long v4), (6, .long v6), (8, .long v8), (10, .int v10)] dX12_reached_28 (by show _ < 12; decide) rfl ?_
    refine x_lv (lv' := [(0, .ref v0), (1, .int v1), (4, .long v4), (6, .long v6), (8, .long v8), (10, .int v10), (11, .int 0)]) [1, 2, 3, 4, 5, 6, 0] rfl ?_
    exact t_X12_reached_30 hS hrec_6 hrec_21 F k0 h
theorem t_X12_reached_21 {F P : Nat} {S : xSt} (hS : xWF S) {rec_6 : Nat → Int32 → Int64 → Int64 → Int64 → xDt → Option (Int64 × xDt)} (hrec_6 : ∀ {v0 : Nat} {v1 : Int32} {v4 : Int64} {v6 : Int64} {v8 : Int64} {D : xDt} {r : Int64 × xDt}, xK S v0 12 → rec_6 v0 v1 v4 v6 v8 D = some r → yEx md_X12_reached 2 6 [(0, .ref v0), (1, .int v1), (4, .long v4), (6, .long v6), (8, .long v8)] [] S D (xQl S r)) : ∀ (n : Nat) {v0 : Nat} {v1 : Int32} {v4 : Int64} {v6 : Int64} {v8 : Int64} {v10 : Int32} {D : xDt} {r : Int64 × xDt}, xK S v0 12 → f_X12_reached_21 F P S rec_6 n v0 v1 v4 v6 v8 v10 D = some r → yEx md_X12_reached 2 21 [(0, .ref v0), (1, .int v1), (4, .long v4), (6, .long v6), (8, .long v8), (10, .int v10)] [] S D (xQl S r) := by
  intro n
  induction n with
  | zero => intros; rename_i h; cases h
  | succ n ih =>
    intro v0 v1 v4 v6 v8 v10 D r k0 h
    exact t_X12_reached_21s hS hrec_6 (fun k0 h => ih k0 h) k0 h

def f_X12_reached_6s (F P : Nat) (S : xSt) (rec_6 : Nat → Int32 → Int64 → Int64 → Int64 → xDt → Option (Int64 × xDt)) (v0 : Nat) (v1 : Int32) (v4 : Int64) (v6 : Int64) (v8 : Int64) (D : xDt) : Option (Int64 × xDt) :=
  if (lg_cmp v6 v8) = 0 then (some (v6, D)) else (f_X12_reached_21 F P S rec_6 F v0 v1 v4 v6 v6 1 D)
def f_X12_reached_6 (F P : Nat) (S : xSt) : Nat → Nat → Int32 → Int64 → Int64 → Int64 → xDt → Option (Int64 × xDt)
  | 0 => fun _ _ _ _ _ _ => none
  | n + 1 => f_X12_reached_6s F P S (f_X12_reached_6 F P S n)
set_option maxHeartbeats 4000000 in
theorem t_X12_reached_6s {F P : Nat} {S : xSt} (hS : xWF S) {rec_6 : Nat → Int32 → Int64 → Int64 → Int64 → xDt → Option (Int64 × xDt)} (hrec_6 : ∀ {v0 : Nat} {v1 : Int32} {v4 : Int64} {v6 : Int64} {v8 : Int64} {D : xDt} {r : Int64 × xDt}, xK S v0 12 → rec_6 v0 v1 v4 v6 v8 D = some r → yEx md_X12_reached 2 6 [(0, .ref v0), (1, .int v1), (4, .long v4), (6, .long v6), (8, .long v8)] [] S D (xQl S r)) {v0 : Nat} {v1 : Int32} {v4 : Int64} {v6 : Int64} {v8 : Int64} {D : xDt} {r : Int64 × xDt} (k0 : xK S v0 12) (h : f_X12_reached_6s F P S rec_6 v0 v1 v4 v6 v8 D = some r) : yEx md_X12_reached 2 6 [(0, .ref v0), (1, .int v1), (4, .long v4), (6, .long v6), (8, .long v8)] [] S D (xQl S r) := by
  unfold f_X12_reached_6s at h
  refine x_lload dX12_reached_6 3 rfl ?_
  refine x_lload dX12_reached_8 4 rfl ?_
  refine x_lcmp dX12_reached_10 ?_
  refine x_if_eq 98 dX12_reached_11 (by decide) (fun c => ?_) (fun c => ?_)
  · rw [if_pos c] at h
    refine x_lload dX12_reached_98 3 rfl ?_
    obtain rfl := Option.some.inj h
    exact y_lret rfl dX12_reached_100
  · rw [if_neg c] at h
    refine x_lload dX12_reached_14 3 rfl ?_
    refine y_lstore v6 rfl [(8, .long v6), (0, .ref v0), (1, .int v1), (4, .long v4), (6, .long v6)] dX12_reached_16 (by show _ < 12; decide) rfl ?_
    refine x_iconst 1 dX12_reached_18 (by decide) ?_
    refine y_istore 1 rfl [(10, .int 1), (8, .long v6), (0, .ref v0), (1, .int v1), (4, .long v4), (6, .long v6)] dX12_reached_19 (by show _ < 12; decide) rfl ?_
    refine x_lv (lv' := [(0, .ref v0), (1, .int v1), (4, .long v4), (6, .long v6), (8, .long v6), (10, .int 1)]) [2, 3, 4, 5, 1, 0] rfl ?_
    exact t_X12_reached_21 hS hrec_6 F k0 h
theorem t_X12_reached_6 {F P : Nat} {S : xSt} (hS : xWF S) : ∀ (n : Nat) {v0 : Nat} {v1 : Int32} {v4 : Int64} {v6 : Int64} {v8 : Int64} {D : xDt} {r : Int64 × xDt}, xK S v0 12 → f_X12_reached_6 F P S n v0 v1 v4 v6 v8 D = some r → yEx md_X12_reached 2 6 [(0, .ref v0), (1, .int v1), (4, .long v4), (6, .long v6), (8, .long v8)] [] S D (xQl S r) := by
  intro n
  induction n with
  | zero => intros; rename_i h; cases h
  | succ n ih =>
    intro v0 v1 v4 v6 v8 D r k0 h
    exact t_X12_reached_6s hS (fun k0 h => ih k0 h) k0 h

def f_X12_reached (F P : Nat) (S : xSt) (v0 : Nat) (v1 : Int32) (v2 : Int64) (v4 : Int64) (D : xDt) : Option (Int64 × xDt) :=
  f_X12_reached_6 F P S F v0 v1 v4 v2 0 D
set_option maxHeartbeats 4000000 in
theorem S_X12_reached {F P : Nat} {S : xSt} (hS : xWF S) {v0 : Nat} {v1 : Int32} {v2 : Int64} {v4 : Int64} {D : xDt} {r : Int64 × xDt} (k0 : xK S v0 12) (h : f_X12_reached F P S v0 v1 v2 v4 D = some r) : xSp md_X12_reached (2, 0, 0) [.ref v0, .int v1, .long v2, .long v4] (S, D) (xQl S r) := by
  unfold f_X12_reached at h
  refine xEntry (by decide) (Nat.le_of_ble_eq_true rfl) ?_
  refine x_lv (lv' := [(0, .ref v0), (1, .int v1), (2, .long v2), (4, .long v4)]) [0, 1, 2, 3] rfl ?_
  refine x_lload_n dX12_reached_0 2 rfl ?_
  refine y_lstore v2 rfl [(6, .long v2), (0, .ref v0), (1, .int v1), (2, .long v2), (4, .long v4)] dX12_reached_1 (by show _ < 12; decide) rfl ?_
  refine x_lconst 0 dX12_reached_3 (by decide) ?_
  refine y_lstore 0 rfl [(8, .long 0), (6, .long v2), (0, .ref v0), (1, .int v1), (2, .long v2), (4, .long v4)] dX12_reached_4 (by show _ < 12; decide) rfl ?_
  refine x_lv (lv' := [(0, .ref v0), (1, .int v1), (4, .long v4), (6, .long v2), (8, .long 0)]) [2, 3, 5, 1, 0] rfl ?_
  exact t_X12_reached_6 hS F k0 h

