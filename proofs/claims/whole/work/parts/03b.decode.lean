theorem dX5_bears_41 : decode cX5_bears 41 = .ok (.ifCond .eq 5, 3) := by decide +kernel
theorem dX5_bears_44 : decode cX5_bears 44 = .ok (.iconst 0, 1) := by decide +kernel
theorem dX5_bears_45 : decode cX5_bears 45 = .ok (.ireturn, 1) := by decide +kernel
theorem dX5_bears_46 : decode cX5_bears 46 = .ok (.iinc 2 1, 3) := by decide +kernel
theorem dX5_bears_49 : decode cX5_bears 49 = .ok (.goto (-47), 3) := by decide +kernel
theorem dX5_bears_52 : decode cX5_bears 52 = .ok (.iconst 1, 1) := by decide +kernel
theorem dX5_bears_53 : decode cX5_bears 53 = .ok (.ireturn, 1) := by decide +kernel
theorem dX5_solve_0 : decode cX5_solve 0 = .ok (.iload_n 1, 1) := by decide +kernel
theorem dX5_solve_1 : decode cX5_solve 1 = .ok (.iconst 1, 1) := by decide +kernel
theorem dX5_solve_2 : decode cX5_solve 2 = .ok (.isub, 1) := by decide +kernel
theorem dX5_solve_3 : decode cX5_solve 3 = .ok (.istore_n 2, 1) := by decide +kernel
theorem dX5_solve_4 : decode cX5_solve 4 = .ok (.iload_n 2, 1) := by decide +kernel
theorem dX5_solve_5 : decode cX5_solve 5 = .ok (.ifCond .lt 122, 3) := by decide +kernel
theorem dX5_solve_8 : decode cX5_solve 8 = .ok (.aload_n 0, 1) := by decide +kernel
theorem dX5_solve_9 : decode cX5_solve 9 = .ok (.getfield 13, 3) := by decide +kernel
theorem dX5_solve_12 : decode cX5_solve 12 = .ok (.iload_n 2, 1) := by decide +kernel
theorem dX5_solve_13 : decode cX5_solve 13 = .ok (.aaload, 1) := by decide +kernel
theorem dX5_solve_14 : decode cX5_solve 14 = .ok (.astore_n 3, 1) := by decide +kernel
theorem dX5_solve_15 : decode cX5_solve 15 = .ok (.aload_n 0, 1) := by decide +kernel
theorem dX5_solve_16 : decode cX5_solve 16 = .ok (.getfield 20, 3) := by decide +kernel
theorem dX5_solve_19 : decode cX5_solve 19 = .ok (.iload_n 2, 1) := by decide +kernel
theorem dX5_solve_20 : decode cX5_solve 20 = .ok (.iaload, 1) := by decide +kernel
theorem dX5_solve_21 : decode cX5_solve 21 = .ok (.bipush 11, 2) := by decide +kernel
theorem dX5_solve_23 : decode cX5_solve 23 = .ok (.imul, 1) := by decide +kernel
theorem dX5_solve_24 : decode cX5_solve 24 = .ok (.istore 4, 2) := by decide +kernel
theorem dX5_solve_26 : decode cX5_solve 26 = .ok (.aload_n 0, 1) := by decide +kernel
theorem dX5_solve_27 : decode cX5_solve 27 = .ok (.getfield 26, 3) := by decide +kernel
theorem dX5_solve_30 : decode cX5_solve 30 = .ok (.iload_n 1, 1) := by decide +kernel
theorem dX5_solve_31 : decode cX5_solve 31 = .ok (.laload, 1) := by decide +kernel
theorem dX5_solve_32 : decode cX5_solve 32 = .ok (.aload_n 3, 1) := by decide +kernel
theorem dX5_solve_33 : decode cX5_solve 33 = .ok (.iload 4, 2) := by decide +kernel
theorem dX5_solve_35 : decode cX5_solve 35 = .ok (.aload_n 0, 1) := by decide +kernel
theorem dX5_solve_36 : decode cX5_solve 36 = .ok (.getfield 39, 3) := by decide +kernel
theorem dX5_solve_39 : decode cX5_solve 39 = .ok (.iadd, 1) := by decide +kernel
theorem dX5_solve_40 : decode cX5_solve 40 = .ok (.laload, 1) := by decide +kernel
theorem dX5_solve_41 : decode cX5_solve 41 = .ok (.lmul, 1) := by decide +kernel
theorem dX5_solve_42 : decode cX5_solve 42 = .ok (.lstore 5, 2) := by decide +kernel
theorem dX5_solve_44 : decode cX5_solve 44 = .ok (.iload_n 2, 1) := by decide +kernel
theorem dX5_solve_45 : decode cX5_solve 45 = .ok (.iconst 1, 1) := by decide +kernel
theorem dX5_solve_46 : decode cX5_solve 46 = .ok (.iadd, 1) := by decide +kernel
theorem dX5_solve_47 : decode cX5_solve 47 = .ok (.istore 7, 2) := by decide +kernel
theorem dX5_solve_49 : decode cX5_solve 49 = .ok (.iload 7, 2) := by decide +kernel
theorem dX5_solve_51 : decode cX5_solve 51 = .ok (.iload_n 1, 1) := by decide +kernel
theorem dX5_solve_52 : decode cX5_solve 52 = .ok (.if_icmp .ge 34, 3) := by decide +kernel
theorem dX5_solve_55 : decode cX5_solve 55 = .ok (.lload 5, 2) := by decide +kernel
theorem dX5_solve_57 : decode cX5_solve 57 = .ok (.aload_n 3, 1) := by decide +kernel
theorem dX5_solve_58 : decode cX5_solve 58 = .ok (.iload 4, 2) := by decide +kernel
theorem dX5_solve_60 : decode cX5_solve 60 = .ok (.aload_n 0, 1) := by decide +kernel
theorem dX5_solve_61 : decode cX5_solve 61 = .ok (.getfield 16, 3) := by decide +kernel
theorem dX5_solve_64 : decode cX5_solve 64 = .ok (.iload 7, 2) := by decide +kernel
theorem dX5_solve_66 : decode cX5_solve 66 = .ok (.iaload, 1) := by decide +kernel
theorem dX5_solve_67 : decode cX5_solve 67 = .ok (.iadd, 1) := by decide +kernel
theorem dX5_solve_68 : decode cX5_solve 68 = .ok (.laload, 1) := by decide +kernel
theorem dX5_solve_69 : decode cX5_solve 69 = .ok (.aload_n 0, 1) := by decide +kernel
theorem dX5_solve_70 : decode cX5_solve 70 = .ok (.getfield 30, 3) := by decide +kernel
theorem dX5_solve_73 : decode cX5_solve 73 = .ok (.iload 7, 2) := by decide +kernel
theorem dX5_solve_75 : decode cX5_solve 75 = .ok (.laload, 1) := by decide +kernel
theorem dX5_solve_76 : decode cX5_solve 76 = .ok (.lmul, 1) := by decide +kernel
theorem dX5_solve_77 : decode cX5_solve 77 = .ok (.lsub, 1) := by decide +kernel
theorem dX5_solve_78 : decode cX5_solve 78 = .ok (.lstore 5, 2) := by decide +kernel
theorem dX5_solve_80 : decode cX5_solve 80 = .ok (.iinc 7 1, 3) := by decide +kernel
theorem dX5_solve_83 : decode cX5_solve 83 = .ok (.goto (-34), 3) := by decide +kernel
theorem dX5_solve_86 : decode cX5_solve 86 = .ok (.aload_n 3, 1) := by decide +kernel
theorem dX5_solve_87 : decode cX5_solve 87 = .ok (.iload 4, 2) := by decide +kernel
theorem dX5_solve_89 : decode cX5_solve 89 = .ok (.aload_n 0, 1) := by decide +kernel
theorem dX5_solve_90 : decode cX5_solve 90 = .ok (.getfield 16, 3) := by decide +kernel
theorem dX5_solve_93 : decode cX5_solve 93 = .ok (.iload_n 2, 1) := by decide +kernel
theorem dX5_solve_94 : decode cX5_solve 94 = .ok (.iaload, 1) := by decide +kernel
theorem dX5_solve_95 : decode cX5_solve 95 = .ok (.iadd, 1) := by decide +kernel
theorem dX5_solve_96 : decode cX5_solve 96 = .ok (.laload, 1) := by decide +kernel
theorem dX5_solve_97 : decode cX5_solve 97 = .ok (.lstore 7, 2) := by decide +kernel
theorem dX5_solve_99 : decode cX5_solve 99 = .ok (.aload_n 0, 1) := by decide +kernel
theorem dX5_solve_100 : decode cX5_solve 100 = .ok (.getfield 30, 3) := by decide +kernel
theorem dX5_solve_103 : decode cX5_solve 103 = .ok (.iload_n 2, 1) := by decide +kernel
theorem dX5_solve_104 : decode cX5_solve 104 = .ok (.lload 7, 2) := by decide +kernel
theorem dX5_solve_106 : decode cX5_solve 106 = .ok (.lconst 0, 1) := by decide +kernel
theorem dX5_solve_107 : decode cX5_solve 107 = .ok (.lcmp, 1) := by decide +kernel
theorem dX5_solve_108 : decode cX5_solve 108 = .ok (.ifCond .ne 7, 3) := by decide +kernel
theorem dX5_solve_111 : decode cX5_solve 111 = .ok (.lconst 0, 1) := by decide +kernel
theorem dX5_solve_112 : decode cX5_solve 112 = .ok (.goto 8, 3) := by decide +kernel
theorem dX5_solve_115 : decode cX5_solve 115 = .ok (.lload 5, 2) := by decide +kernel
theorem dX5_solve_117 : decode cX5_solve 117 = .ok (.lload 7, 2) := by decide +kernel
theorem dX5_solve_119 : decode cX5_solve 119 = .ok (.ldiv, 1) := by decide +kernel
theorem dX5_solve_120 : decode cX5_solve 120 = .ok (.lastore, 1) := by decide +kernel
theorem dX5_solve_121 : decode cX5_solve 121 = .ok (.iinc 2 (-1), 3) := by decide +kernel
theorem dX5_solve_124 : decode cX5_solve 124 = .ok (.goto (-120), 3) := by decide +kernel
theorem dX5_solve_127 : decode cX5_solve 127 = .ok (.return_, 1) := by decide +kernel
theorem dX6_init_0 : decode cX6_init 0 = .ok (.aload_n 0, 1) := by decide +kernel
theorem dX6_init_1 : decode cX6_init 1 = .ok (.invokespecial 1, 3) := by decide +kernel
theorem dX6_init_4 : decode cX6_init 4 = .ok (.new 7, 3) := by decide +kernel
theorem dX6_init_7 : decode cX6_init 7 = .ok (.dup, 1) := by decide +kernel
theorem dX6_init_8 : decode cX6_init 8 = .ok (.invokespecial 9, 3) := by decide +kernel
theorem dX6_init_11 : decode cX6_init 11 = .ok (.astore_n 1, 1) := by decide +kernel
theorem dX6_init_12 : decode cX6_init 12 = .ok (.aload_n 0, 1) := by decide +kernel
theorem dX6_init_13 : decode cX6_init 13 = .ok (.new 10, 3) := by decide +kernel
theorem dX6_init_16 : decode cX6_init 16 = .ok (.dup, 1) := by decide +kernel
theorem dX6_init_17 : decode cX6_init 17 = .ok (.invokespecial 12, 3) := by decide +kernel
theorem dX6_init_20 : decode cX6_init 20 = .ok (.putfield 13, 3) := by decide +kernel
theorem dX6_init_23 : decode cX6_init 23 = .ok (.aload_n 0, 1) := by decide +kernel
theorem dX6_init_24 : decode cX6_init 24 = .ok (.new 19, 3) := by decide +kernel
theorem dX6_init_27 : decode cX6_init 27 = .ok (.dup, 1) := by decide +kernel
theorem dX6_init_28 : decode cX6_init 28 = .ok (.aload_n 1, 1) := by decide +kernel
theorem dX6_init_29 : decode cX6_init 29 = .ok (.invokespecial 21, 3) := by decide +kernel
theorem dX6_init_32 : decode cX6_init 32 = .ok (.putfield 24, 3) := by decide +kernel
theorem dX6_init_35 : decode cX6_init 35 = .ok (.aload_n 0, 1) := by decide +kernel
theorem dX6_init_36 : decode cX6_init 36 = .ok (.new 19, 3) := by decide +kernel
theorem dX6_init_39 : decode cX6_init 39 = .ok (.dup, 1) := by decide +kernel
theorem dX6_init_40 : decode cX6_init 40 = .ok (.aload_n 1, 1) := by decide +kernel
theorem dX6_init_41 : decode cX6_init 41 = .ok (.invokespecial 21, 3) := by decide +kernel
theorem dX6_init_44 : decode cX6_init 44 = .ok (.putfield 28, 3) := by decide +kernel
theorem dX6_init_47 : decode cX6_init 47 = .ok (.aload_n 0, 1) := by decide +kernel
theorem dX6_init_48 : decode cX6_init 48 = .ok (.new 31, 3) := by decide +kernel
theorem dX6_init_51 : decode cX6_init 51 = .ok (.dup, 1) := by decide +kernel
theorem dX6_init_52 : decode cX6_init 52 = .ok (.invokespecial 33, 3) := by decide +kernel
theorem dX6_init_55 : decode cX6_init 55 = .ok (.putfield 34, 3) := by decide +kernel
theorem dX6_init_58 : decode cX6_init 58 = .ok (.aload_n 0, 1) := by decide +kernel
theorem dX6_init_59 : decode cX6_init 59 = .ok (.new 38, 3) := by decide +kernel
theorem dX6_init_62 : decode cX6_init 62 = .ok (.dup, 1) := by decide +kernel
theorem dX6_init_63 : decode cX6_init 63 = .ok (.invokespecial 40, 3) := by decide +kernel
theorem dX6_init_66 : decode cX6_init 66 = .ok (.putfield 41, 3) := by decide +kernel
theorem dX6_init_69 : decode cX6_init 69 = .ok (.aload_n 0, 1) := by decide +kernel
theorem dX6_init_70 : decode cX6_init 70 = .ok (.iconst 4, 1) := by decide +kernel
theorem dX6_init_71 : decode cX6_init 71 = .ok (.anewarray 45, 3) := by decide +kernel
theorem dX6_init_74 : decode cX6_init 74 = .ok (.putfield 47, 3) := by decide +kernel
theorem dX6_init_77 : decode cX6_init 77 = .ok (.iconst 0, 1) := by decide +kernel
theorem dX6_init_78 : decode cX6_init 78 = .ok (.istore_n 2, 1) := by decide +kernel
theorem dX6_init_79 : decode cX6_init 79 = .ok (.iload_n 2, 1) := by decide +kernel
theorem dX6_init_80 : decode cX6_init 80 = .ok (.iconst 4, 1) := by decide +kernel
theorem dX6_init_81 : decode cX6_init 81 = .ok (.if_icmp .ge 22, 3) := by decide +kernel
theorem dX6_init_84 : decode cX6_init 84 = .ok (.aload_n 0, 1) := by decide +kernel
theorem dX6_init_85 : decode cX6_init 85 = .ok (.getfield 47, 3) := by decide +kernel
theorem dX6_init_88 : decode cX6_init 88 = .ok (.iload_n 2, 1) := by decide +kernel
theorem dX6_init_89 : decode cX6_init 89 = .ok (.new 45, 3) := by decide +kernel
theorem dX6_init_92 : decode cX6_init 92 = .ok (.dup, 1) := by decide +kernel
theorem dX6_init_93 : decode cX6_init 93 = .ok (.invokespecial 51, 3) := by decide +kernel
theorem dX6_init_96 : decode cX6_init 96 = .ok (.aastore, 1) := by decide +kernel
theorem dX6_init_97 : decode cX6_init 97 = .ok (.iinc 2 1, 3) := by decide +kernel
theorem dX6_init_100 : decode cX6_init 100 = .ok (.goto (-21), 3) := by decide +kernel
theorem dX6_init_103 : decode cX6_init 103 = .ok (.aload_n 0, 1) := by decide +kernel
theorem dX6_init_104 : decode cX6_init 104 = .ok (.iconst 1, 1) := by decide +kernel
theorem dX6_init_105 : decode cX6_init 105 = .ok (.putfield 52, 3) := by decide +kernel
theorem dX6_init_108 : decode cX6_init 108 = .ok (.return_, 1) := by decide +kernel
theorem dX6_point_0 : decode cX6_point 0 = .ok (.iload_n 1, 1) := by decide +kernel
theorem dX6_point_1 : decode cX6_point 1 = .ok (.iconst 0, 1) := by decide +kernel
theorem dX6_point_2 : decode cX6_point 2 = .ok (.iconst 4, 1) := by decide +kernel
theorem dX6_point_3 : decode cX6_point 3 = .ok (.invokestatic 56, 3) := by decide +kernel
theorem dX6_point_6 : decode cX6_point 6 = .ok (.ifCond .eq 12, 3) := by decide +kernel
theorem dX6_point_9 : decode cX6_point 9 = .ok (.iload_n 2, 1) := by decide +kernel
theorem dX6_point_10 : decode cX6_point 10 = .ok (.iconst 0, 1) := by decide +kernel
theorem dX6_point_11 : decode cX6_point 11 = .ok (.iconst 4, 1) := by decide +kernel
theorem dX6_point_12 : decode cX6_point 12 = .ok (.invokestatic 56, 3) := by decide +kernel
theorem dX6_point_15 : decode cX6_point 15 = .ok (.ifCond .ne 6, 3) := by decide +kernel
theorem dX6_point_18 : decode cX6_point 18 = .ok (.bipush (-2), 2) := by decide +kernel
theorem dX6_point_20 : decode cX6_point 20 = .ok (.ireturn, 1) := by decide +kernel
theorem dX6_point_21 : decode cX6_point 21 = .ok (.aload_n 0, 1) := by decide +kernel
theorem dX6_point_22 : decode cX6_point 22 = .ok (.getfield 13, 3) := by decide +kernel
theorem dX6_point_25 : decode cX6_point 25 = .ok (.iload_n 1, 1) := by decide +kernel
theorem dX6_point_26 : decode cX6_point 26 = .ok (.iload_n 2, 1) := by decide +kernel
theorem dX6_point_27 : decode cX6_point 27 = .ok (.invokevirtual 60, 3) := by decide +kernel
theorem dX6_point_30 : decode cX6_point 30 = .ok (.ifCond .eq 6, 3) := by decide +kernel
theorem dX6_point_33 : decode cX6_point 33 = .ok (.bipush (-3), 2) := by decide +kernel
theorem dX6_point_35 : decode cX6_point 35 = .ok (.ireturn, 1) := by decide +kernel
theorem dX6_point_36 : decode cX6_point 36 = .ok (.aload_n 0, 1) := by decide +kernel
theorem dX6_point_37 : decode cX6_point 37 = .ok (.getfield 13, 3) := by decide +kernel
theorem dX6_point_40 : decode cX6_point 40 = .ok (.getfield 64, 3) := by decide +kernel
theorem dX6_point_43 : decode cX6_point 43 = .ok (.iconst 5, 1) := by decide +kernel
theorem dX6_point_44 : decode cX6_point 44 = .ok (.if_icmp .lt 6, 3) := by decide +kernel
theorem dX6_point_47 : decode cX6_point 47 = .ok (.bipush (-4), 2) := by decide +kernel
theorem dX6_point_49 : decode cX6_point 49 = .ok (.ireturn, 1) := by decide +kernel
theorem dX6_point_50 : decode cX6_point 50 = .ok (.aload_n 0, 1) := by decide +kernel
theorem dX6_point_51 : decode cX6_point 51 = .ok (.iconst 1, 1) := by decide +kernel
theorem dX6_point_52 : decode cX6_point 52 = .ok (.putfield 52, 3) := by decide +kernel
theorem dX6_point_55 : decode cX6_point 55 = .ok (.aload_n 0, 1) := by decide +kernel
theorem dX6_point_56 : decode cX6_point 56 = .ok (.getfield 13, 3) := by decide +kernel
theorem dX6_point_59 : decode cX6_point 59 = .ok (.iload_n 1, 1) := by decide +kernel
theorem dX6_point_60 : decode cX6_point 60 = .ok (.iload_n 2, 1) := by decide +kernel
theorem dX6_point_61 : decode cX6_point 61 = .ok (.invokevirtual 68, 3) := by decide +kernel
theorem dX6_point_64 : decode cX6_point 64 = .ok (.ireturn, 1) := by decide +kernel
theorem dX6_back_0 : decode cX6_back 0 = .ok (.aload_n 0, 1) := by decide +kernel
theorem dX6_back_1 : decode cX6_back 1 = .ok (.getfield 13, 3) := by decide +kernel
theorem dX6_back_4 : decode cX6_back 4 = .ok (.getfield 64, 3) := by decide +kernel
theorem dX6_back_7 : decode cX6_back 7 = .ok (.ifCond .gt 6, 3) := by decide +kernel
theorem dX6_back_10 : decode cX6_back 10 = .ok (.bipush (-3), 2) := by decide +kernel
theorem dX6_back_12 : decode cX6_back 12 = .ok (.ireturn, 1) := by decide +kernel
theorem dX6_back_13 : decode cX6_back 13 = .ok (.aload_n 0, 1) := by decide +kernel
theorem dX6_back_14 : decode cX6_back 14 = .ok (.getfield 13, 3) := by decide +kernel
theorem dX6_back_17 : decode cX6_back 17 = .ok (.dup, 1) := by decide +kernel
theorem dX6_back_18 : decode cX6_back 18 = .ok (.getfield 64, 3) := by decide +kernel
theorem dX6_back_21 : decode cX6_back 21 = .ok (.iconst 1, 1) := by decide +kernel
theorem dX6_back_22 : decode cX6_back 22 = .ok (.isub, 1) := by decide +kernel
theorem dX6_back_23 : decode cX6_back 23 = .ok (.putfield 64, 3) := by decide +kernel
theorem dX6_back_26 : decode cX6_back 26 = .ok (.aload_n 0, 1) := by decide +kernel
theorem dX6_back_27 : decode cX6_back 27 = .ok (.dup, 1) := by decide +kernel
theorem dX6_back_28 : decode cX6_back 28 = .ok (.getfield 72, 3) := by decide +kernel
theorem dX6_back_31 : decode cX6_back 31 = .ok (.aload_n 0, 1) := by decide +kernel
theorem dX6_back_32 : decode cX6_back 32 = .ok (.getfield 13, 3) := by decide +kernel
theorem dX6_back_35 : decode cX6_back 35 = .ok (.invokevirtual 75, 3) := by decide +kernel
theorem dX6_back_38 : decode cX6_back 38 = .ok (.iand, 1) := by decide +kernel
theorem dX6_back_39 : decode cX6_back 39 = .ok (.putfield 72, 3) := by decide +kernel
theorem dX6_back_42 : decode cX6_back 42 = .ok (.aload_n 0, 1) := by decide +kernel
theorem dX6_back_43 : decode cX6_back 43 = .ok (.iconst 1, 1) := by decide +kernel
theorem dX6_back_44 : decode cX6_back 44 = .ok (.putfield 52, 3) := by decide +kernel
theorem dX6_back_47 : decode cX6_back 47 = .ok (.aload_n 0, 1) := by decide +kernel
theorem dX6_back_48 : decode cX6_back 48 = .ok (.getfield 13, 3) := by decide +kernel
theorem dX6_back_51 : decode cX6_back 51 = .ok (.getfield 64, 3) := by decide +kernel
theorem dX6_back_54 : decode cX6_back 54 = .ok (.ireturn, 1) := by decide +kernel
theorem dX6_hold_0 : decode cX6_hold 0 = .ok (.aload_n 0, 1) := by decide +kernel
theorem dX6_hold_1 : decode cX6_hold 1 = .ok (.getfield 13, 3) := by decide +kernel
theorem dX6_hold_4 : decode cX6_hold 4 = .ok (.iload_n 1, 1) := by decide +kernel
theorem dX6_hold_5 : decode cX6_hold 5 = .ok (.invokevirtual 79, 3) := by decide +kernel
theorem dX6_hold_8 : decode cX6_hold 8 = .ok (.ifCond .eq 12, 3) := by decide +kernel
theorem dX6_hold_11 : decode cX6_hold 11 = .ok (.iload_n 2, 1) := by decide +kernel
theorem dX6_hold_12 : decode cX6_hold 12 = .ok (.iconst 0, 1) := by decide +kernel
theorem dX6_hold_13 : decode cX6_hold 13 = .ok (.iconst 3, 1) := by decide +kernel
theorem dX6_hold_14 : decode cX6_hold 14 = .ok (.invokestatic 56, 3) := by decide +kernel
theorem dX6_hold_17 : decode cX6_hold 17 = .ok (.ifCond .ne 6, 3) := by decide +kernel
theorem dX6_hold_20 : decode cX6_hold 20 = .ok (.bipush (-2), 2) := by decide +kernel
theorem dX6_hold_22 : decode cX6_hold 22 = .ok (.ireturn, 1) := by decide +kernel
theorem dX6_hold_23 : decode cX6_hold 23 = .ok (.aload_n 0, 1) := by decide +kernel
theorem dX6_hold_24 : decode cX6_hold 24 = .ok (.getfield 13, 3) := by decide +kernel
theorem dX6_hold_27 : decode cX6_hold 27 = .ok (.getfield 83, 3) := by decide +kernel
theorem dX6_hold_30 : decode cX6_hold 30 = .ok (.iload_n 1, 1) := by decide +kernel
theorem dX6_hold_31 : decode cX6_hold 31 = .ok (.iaload, 1) := by decide +kernel
theorem dX6_hold_32 : decode cX6_hold 32 = .ok (.istore_n 3, 1) := by decide +kernel
theorem dX6_hold_33 : decode cX6_hold 33 = .ok (.aload_n 0, 1) := by decide +kernel
theorem dX6_hold_34 : decode cX6_hold 34 = .ok (.getfield 13, 3) := by decide +kernel
theorem dX6_hold_37 : decode cX6_hold 37 = .ok (.getfield 83, 3) := by decide +kernel
theorem dX6_hold_40 : decode cX6_hold 40 = .ok (.iload_n 1, 1) := by decide +kernel
theorem dX6_hold_41 : decode cX6_hold 41 = .ok (.iload_n 2, 1) := by decide +kernel
theorem dX6_hold_42 : decode cX6_hold 42 = .ok (.iastore, 1) := by decide +kernel
theorem dX6_hold_43 : decode cX6_hold 43 = .ok (.aload_n 0, 1) := by decide +kernel
theorem dX6_hold_44 : decode cX6_hold 44 = .ok (.iconst 1, 1) := by decide +kernel
theorem dX6_hold_45 : decode cX6_hold 45 = .ok (.putfield 52, 3) := by decide +kernel
theorem dX6_hold_48 : decode cX6_hold 48 = .ok (.iload_n 3, 1) := by decide +kernel
theorem dX6_hold_49 : decode cX6_hold 49 = .ok (.ireturn, 1) := by decide +kernel
theorem dX6_load_0 : decode cX6_load 0 = .ok (.aload_n 0, 1) := by decide +kernel
theorem dX6_load_1 : decode cX6_load 1 = .ok (.getfield 13, 3) := by decide +kernel
theorem dX6_load_4 : decode cX6_load 4 = .ok (.iload_n 1, 1) := by decide +kernel
theorem dX6_load_5 : decode cX6_load 5 = .ok (.invokevirtual 79, 3) := by decide +kernel
theorem dX6_load_8 : decode cX6_load 8 = .ok (.ifCond .eq 20, 3) := by decide +kernel
theorem dX6_load_11 : decode cX6_load 11 = .ok (.iload_n 2, 1) := by decide +kernel
theorem dX6_load_12 : decode cX6_load 12 = .ok (.iconst 0, 1) := by decide +kernel
theorem dX6_load_13 : decode cX6_load 13 = .ok (.iconst 1, 1) := by decide +kernel
theorem dX6_load_14 : decode cX6_load 14 = .ok (.invokestatic 56, 3) := by decide +kernel
theorem dX6_load_17 : decode cX6_load 17 = .ok (.ifCond .eq 11, 3) := by decide +kernel
theorem dX6_load_20 : decode cX6_load 20 = .ok (.iload_n 3, 1) := by decide +kernel
theorem dX6_load_21 : decode cX6_load 21 = .ok (.i2l, 1) := by decide +kernel
theorem dX6_load_22 : decode cX6_load 22 = .ok (.invokestatic 87, 3) := by decide +kernel
theorem dX6_load_25 : decode cX6_load 25 = .ok (.ifCond .ne 6, 3) := by decide +kernel
theorem dX6_load_28 : decode cX6_load 28 = .ok (.ldc 91, 2) := by decide +kernel
theorem dX6_load_30 : decode cX6_load 30 = .ok (.ireturn, 1) := by decide +kernel
theorem dX6_load_31 : decode cX6_load 31 = .ok (.aload_n 0, 1) := by decide +kernel
theorem dX6_load_32 : decode cX6_load 32 = .ok (.getfield 13, 3) := by decide +kernel
theorem dX6_load_35 : decode cX6_load 35 = .ok (.getfield 92, 3) := by decide +kernel
theorem dX6_load_38 : decode cX6_load 38 = .ok (.iconst 2, 1) := by decide +kernel
theorem dX6_load_39 : decode cX6_load 39 = .ok (.iload_n 1, 1) := by decide +kernel
theorem dX6_load_40 : decode cX6_load 40 = .ok (.imul, 1) := by decide +kernel
theorem dX6_load_41 : decode cX6_load 41 = .ok (.iload_n 2, 1) := by decide +kernel
theorem dX6_load_42 : decode cX6_load 42 = .ok (.iadd, 1) := by decide +kernel
theorem dX6_load_43 : decode cX6_load 43 = .ok (.iaload, 1) := by decide +kernel
theorem dX6_load_44 : decode cX6_load 44 = .ok (.istore 4, 2) := by decide +kernel
theorem dX6_load_46 : decode cX6_load 46 = .ok (.aload_n 0, 1) := by decide +kernel
theorem dX6_load_47 : decode cX6_load 47 = .ok (.getfield 13, 3) := by decide +kernel
theorem dX6_load_50 : decode cX6_load 50 = .ok (.getfield 92, 3) := by decide +kernel
theorem dX6_load_53 : decode cX6_load 53 = .ok (.iconst 2, 1) := by decide +kernel
theorem dX6_load_54 : decode cX6_load 54 = .ok (.iload_n 1, 1) := by decide +kernel
theorem dX6_load_55 : decode cX6_load 55 = .ok (.imul, 1) := by decide +kernel
theorem dX6_load_56 : decode cX6_load 56 = .ok (.iload_n 2, 1) := by decide +kernel
theorem dX6_load_57 : decode cX6_load 57 = .ok (.iadd, 1) := by decide +kernel
theorem dX6_load_58 : decode cX6_load 58 = .ok (.iload_n 3, 1) := by decide +kernel
theorem dX6_load_59 : decode cX6_load 59 = .ok (.iastore, 1) := by decide +kernel
theorem dX6_load_60 : decode cX6_load 60 = .ok (.aload_n 0, 1) := by decide +kernel
theorem dX6_load_61 : decode cX6_load 61 = .ok (.iconst 1, 1) := by decide +kernel
theorem dX6_load_62 : decode cX6_load 62 = .ok (.putfield 52, 3) := by decide +kernel
theorem dX6_load_65 : decode cX6_load 65 = .ok (.iload 4, 2) := by decide +kernel
theorem dX6_load_67 : decode cX6_load 67 = .ok (.ireturn, 1) := by decide +kernel
theorem dX6_bar_0 : decode cX6_bar 0 = .ok (.aload_n 0, 1) := by decide +kernel
theorem dX6_bar_1 : decode cX6_bar 1 = .ok (.getfield 13, 3) := by decide +kernel
theorem dX6_bar_4 : decode cX6_bar 4 = .ok (.iload_n 1, 1) := by decide +kernel
theorem dX6_bar_5 : decode cX6_bar 5 = .ok (.invokevirtual 95, 3) := by decide +kernel
theorem dX6_bar_8 : decode cX6_bar 8 = .ok (.ifCond .ne 6, 3) := by decide +kernel
theorem dX6_bar_11 : decode cX6_bar 11 = .ok (.bipush (-2), 2) := by decide +kernel
theorem dX6_bar_13 : decode cX6_bar 13 = .ok (.ireturn, 1) := by decide +kernel
theorem dX6_bar_14 : decode cX6_bar 14 = .ok (.aload_n 0, 1) := by decide +kernel
theorem dX6_bar_15 : decode cX6_bar 15 = .ok (.dup, 1) := by decide +kernel
theorem dX6_bar_16 : decode cX6_bar 16 = .ok (.getfield 72, 3) := by decide +kernel
theorem dX6_bar_19 : decode cX6_bar 19 = .ok (.iconst 1, 1) := by decide +kernel
theorem dX6_bar_20 : decode cX6_bar 20 = .ok (.iload_n 1, 1) := by decide +kernel
theorem dX6_bar_21 : decode cX6_bar 21 = .ok (.ishl, 1) := by decide +kernel
theorem dX6_bar_22 : decode cX6_bar 22 = .ok (.ixor, 1) := by decide +kernel
theorem dX6_bar_23 : decode cX6_bar 23 = .ok (.putfield 72, 3) := by decide +kernel
theorem dX6_bar_26 : decode cX6_bar 26 = .ok (.aload_n 0, 1) := by decide +kernel
theorem dX6_bar_27 : decode cX6_bar 27 = .ok (.getfield 72, 3) := by decide +kernel
theorem dX6_bar_30 : decode cX6_bar 30 = .ok (.ireturn, 1) := by decide +kernel
theorem dX6_all_0 : decode cX6_all 0 = .ok (.aload_n 0, 1) := by decide +kernel
theorem dX6_all_1 : decode cX6_all 1 = .ok (.aload_n 0, 1) := by decide +kernel
theorem dX6_all_2 : decode cX6_all 2 = .ok (.getfield 13, 3) := by decide +kernel
theorem dX6_all_5 : decode cX6_all 5 = .ok (.invokevirtual 75, 3) := by decide +kernel
theorem dX6_all_8 : decode cX6_all 8 = .ok (.putfield 72, 3) := by decide +kernel
theorem dX6_all_11 : decode cX6_all 11 = .ok (.aload_n 0, 1) := by decide +kernel
theorem dX6_all_12 : decode cX6_all 12 = .ok (.getfield 13, 3) := by decide +kernel
theorem dX6_all_15 : decode cX6_all 15 = .ok (.invokevirtual 98, 3) := by decide +kernel
theorem dX6_all_18 : decode cX6_all 18 = .ok (.ireturn, 1) := by decide +kernel
theorem dX6_read_0 : decode cX6_read 0 = .ok (.iload_n 1, 1) := by decide +kernel
theorem dX6_read_1 : decode cX6_read 1 = .ok (.invokestatic 101, 3) := by decide +kernel
theorem dX6_read_4 : decode cX6_read 4 = .ok (.ifCond .ne 6, 3) := by decide +kernel
theorem dX6_read_7 : decode cX6_read 7 = .ok (.bipush (-2), 2) := by decide +kernel
theorem dX6_read_9 : decode cX6_read 9 = .ok (.ireturn, 1) := by decide +kernel
theorem dX6_read_10 : decode cX6_read 10 = .ok (.aload_n 0, 1) := by decide +kernel
theorem dX6_read_11 : decode cX6_read 11 = .ok (.getfield 47, 3) := by decide +kernel
theorem dX6_read_14 : decode cX6_read 14 = .ok (.iload_n 1, 1) := by decide +kernel
theorem dX6_read_15 : decode cX6_read 15 = .ok (.aaload, 1) := by decide +kernel
theorem dX6_read_16 : decode cX6_read 16 = .ok (.astore_n 2, 1) := by decide +kernel
theorem dX6_read_17 : decode cX6_read 17 = .ok (.aload_n 2, 1) := by decide +kernel
theorem dX6_read_18 : decode cX6_read 18 = .ok (.getfield 104, 3) := by decide +kernel
theorem dX6_read_21 : decode cX6_read 21 = .ok (.ifCond .eq 9, 3) := by decide +kernel
theorem dX6_read_24 : decode cX6_read 24 = .ok (.aload_n 0, 1) := by decide +kernel
theorem dX6_read_25 : decode cX6_read 25 = .ok (.iconst 1, 1) := by decide +kernel
theorem dX6_read_26 : decode cX6_read 26 = .ok (.invokevirtual 107, 3) := by decide +kernel
theorem dX6_read_29 : decode cX6_read 29 = .ok (.ireturn, 1) := by decide +kernel
theorem dX6_read_30 : decode cX6_read 30 = .ok (.aload_n 2, 1) := by decide +kernel
theorem dX6_read_31 : decode cX6_read 31 = .ok (.getfield 111, 3) := by decide +kernel
theorem dX6_read_34 : decode cX6_read 34 = .ok (.iconst 2, 1) := by decide +kernel
theorem dX6_read_35 : decode cX6_read 35 = .ok (.aload_n 0, 1) := by decide +kernel
theorem dX6_read_36 : decode cX6_read 36 = .ok (.getfield 13, 3) := by decide +kernel
theorem dX6_read_39 : decode cX6_read 39 = .ok (.getfield 64, 3) := by decide +kernel
theorem dX6_read_42 : decode cX6_read 42 = .ok (.imul, 1) := by decide +kernel
theorem dX6_read_43 : decode cX6_read 43 = .ok (.invokestatic 112, 3) := by decide +kernel
theorem dX6_read_46 : decode cX6_read 46 = .ok (.istore_n 3, 1) := by decide +kernel
theorem dX6_read_47 : decode cX6_read 47 = .ok (.iconst 0, 1) := by decide +kernel
theorem dX6_read_48 : decode cX6_read 48 = .ok (.istore 4, 2) := by decide +kernel
theorem dX6_read_50 : decode cX6_read 50 = .ok (.iload 4, 2) := by decide +kernel
theorem dX6_read_52 : decode cX6_read 52 = .ok (.iload_n 3, 1) := by decide +kernel
theorem dX6_read_53 : decode cX6_read 53 = .ok (.if_icmp .ge 40, 3) := by decide +kernel
theorem dX6_read_56 : decode cX6_read 56 = .ok (.aload_n 2, 1) := by decide +kernel
theorem dX6_read_57 : decode cX6_read 57 = .ok (.getfield 117, 3) := by decide +kernel
theorem dX6_read_60 : decode cX6_read 60 = .ok (.iload 4, 2) := by decide +kernel
theorem dX6_read_62 : decode cX6_read 62 = .ok (.laload, 1) := by decide +kernel
theorem dX6_read_63 : decode cX6_read 63 = .ok (.invokestatic 87, 3) := by decide +kernel
theorem dX6_read_66 : decode cX6_read 66 = .ok (.ifCond .eq 27, 3) := by decide +kernel
theorem dX6_read_69 : decode cX6_read 69 = .ok (.aload_n 0, 1) := by decide +kernel
theorem dX6_read_70 : decode cX6_read 70 = .ok (.getfield 13, 3) := by decide +kernel
theorem dX6_read_73 : decode cX6_read 73 = .ok (.getfield 92, 3) := by decide +kernel
theorem dX6_read_76 : decode cX6_read 76 = .ok (.iload 4, 2) := by decide +kernel
theorem dX6_read_78 : decode cX6_read 78 = .ok (.aload_n 2, 1) := by decide +kernel
theorem dX6_read_79 : decode cX6_read 79 = .ok (.getfield 117, 3) := by decide +kernel
theorem dX6_read_82 : decode cX6_read 82 = .ok (.iload 4, 2) := by decide +kernel
theorem dX6_read_84 : decode cX6_read 84 = .ok (.laload, 1) := by decide +kernel
theorem dX6_read_85 : decode cX6_read 85 = .ok (.l2i, 1) := by decide +kernel
theorem dX6_read_86 : decode cX6_read 86 = .ok (.iastore, 1) := by decide +kernel
theorem dX6_read_87 : decode cX6_read 87 = .ok (.iinc 4 1, 3) := by decide +kernel
theorem dX6_read_90 : decode cX6_read 90 = .ok (.goto (-40), 3) := by decide +kernel
theorem dX6_read_93 : decode cX6_read 93 = .ok (.aload_n 0, 1) := by decide +kernel
theorem dX6_read_94 : decode cX6_read 94 = .ok (.iconst 1, 1) := by decide +kernel
theorem dX6_read_95 : decode cX6_read 95 = .ok (.putfield 52, 3) := by decide +kernel
theorem dX6_read_98 : decode cX6_read 98 = .ok (.iload 4, 2) := by decide +kernel
theorem dX6_read_100 : decode cX6_read 100 = .ok (.ireturn, 1) := by decide +kernel
theorem dX6_info_0 : decode cX6_info 0 = .ok (.aload_n 0, 1) := by decide +kernel
theorem dX6_info_1 : decode cX6_info 1 = .ok (.getfield 13, 3) := by decide +kernel
theorem dX6_info_4 : decode cX6_info 4 = .ok (.iload_n 1, 1) := by decide +kernel
theorem dX6_info_5 : decode cX6_info 5 = .ok (.invokevirtual 79, 3) := by decide +kernel
theorem dX6_info_8 : decode cX6_info 8 = .ok (.ifCond .ne 6, 3) := by decide +kernel
theorem dX6_info_11 : decode cX6_info 11 = .ok (.ldc 91, 2) := by decide +kernel
theorem dX6_info_13 : decode cX6_info 13 = .ok (.ireturn, 1) := by decide +kernel
theorem dX6_info_14 : decode cX6_info 14 = .ok (.iload_n 2, 1) := by decide +kernel
theorem dX6_info_15 : decode cX6_info 15 = .ok (.tableswitch 129 0 6 #[41, 53, 67, 77, 89, 103, 115], 41) := by decide +kernel
theorem dX6_info_56 : decode cX6_info 56 = .ok (.aload_n 0, 1) := by decide +kernel
theorem dX6_info_57 : decode cX6_info 57 = .ok (.getfield 13, 3) := by decide +kernel
theorem dX6_info_60 : decode cX6_info 60 = .ok (.getfield 121, 3) := by decide +kernel
theorem dX6_info_63 : decode cX6_info 63 = .ok (.iconst 2, 1) := by decide +kernel
theorem dX6_info_64 : decode cX6_info 64 = .ok (.iload_n 1, 1) := by decide +kernel
theorem dX6_info_65 : decode cX6_info 65 = .ok (.imul, 1) := by decide +kernel
theorem dX6_info_66 : decode cX6_info 66 = .ok (.iaload, 1) := by decide +kernel
theorem dX6_info_67 : decode cX6_info 67 = .ok (.ireturn, 1) := by decide +kernel
theorem dX6_info_68 : decode cX6_info 68 = .ok (.aload_n 0, 1) := by decide +kernel
theorem dX6_info_69 : decode cX6_info 69 = .ok (.getfield 13, 3) := by decide +kernel
theorem dX6_info_72 : decode cX6_info 72 = .ok (.getfield 121, 3) := by decide +kernel
theorem dX6_info_75 : decode cX6_info 75 = .ok (.iconst 2, 1) := by decide +kernel
theorem dX6_info_76 : decode cX6_info 76 = .ok (.iload_n 1, 1) := by decide +kernel
theorem dX6_info_77 : decode cX6_info 77 = .ok (.imul, 1) := by decide +kernel
theorem dX6_info_78 : decode cX6_info 78 = .ok (.iconst 1, 1) := by decide +kernel
theorem dX6_info_79 : decode cX6_info 79 = .ok (.iadd, 1) := by decide +kernel
theorem dX6_info_80 : decode cX6_info 80 = .ok (.iaload, 1) := by decide +kernel
theorem dX6_info_81 : decode cX6_info 81 = .ok (.ireturn, 1) := by decide +kernel
theorem dX6_info_82 : decode cX6_info 82 = .ok (.aload_n 0, 1) := by decide +kernel
theorem dX6_info_83 : decode cX6_info 83 = .ok (.getfield 13, 3) := by decide +kernel
theorem dX6_info_86 : decode cX6_info 86 = .ok (.getfield 83, 3) := by decide +kernel
theorem dX6_info_89 : decode cX6_info 89 = .ok (.iload_n 1, 1) := by decide +kernel
theorem dX6_info_90 : decode cX6_info 90 = .ok (.iaload, 1) := by decide +kernel
theorem dX6_info_91 : decode cX6_info 91 = .ok (.ireturn, 1) := by decide +kernel
theorem dX6_info_92 : decode cX6_info 92 = .ok (.aload_n 0, 1) := by decide +kernel
theorem dX6_info_93 : decode cX6_info 93 = .ok (.getfield 13, 3) := by decide +kernel
theorem dX6_info_96 : decode cX6_info 96 = .ok (.getfield 92, 3) := by decide +kernel
theorem dX6_info_99 : decode cX6_info 99 = .ok (.iconst 2, 1) := by decide +kernel
theorem dX6_info_100 : decode cX6_info 100 = .ok (.iload_n 1, 1) := by decide +kernel
theorem dX6_info_101 : decode cX6_info 101 = .ok (.imul, 1) := by decide +kernel
theorem dX6_info_102 : decode cX6_info 102 = .ok (.iaload, 1) := by decide +kernel
theorem dX6_info_103 : decode cX6_info 103 = .ok (.ireturn, 1) := by decide +kernel
theorem dX6_info_104 : decode cX6_info 104 = .ok (.aload_n 0, 1) := by decide +kernel
theorem dX6_info_105 : decode cX6_info 105 = .ok (.getfield 13, 3) := by decide +kernel
theorem dX6_info_108 : decode cX6_info 108 = .ok (.getfield 92, 3) := by decide +kernel
theorem dX6_info_111 : decode cX6_info 111 = .ok (.iconst 2, 1) := by decide +kernel
theorem dX6_info_112 : decode cX6_info 112 = .ok (.iload_n 1, 1) := by decide +kernel
theorem dX6_info_113 : decode cX6_info 113 = .ok (.imul, 1) := by decide +kernel
theorem dX6_info_114 : decode cX6_info 114 = .ok (.iconst 1, 1) := by decide +kernel
theorem dX6_info_115 : decode cX6_info 115 = .ok (.iadd, 1) := by decide +kernel
theorem dX6_info_116 : decode cX6_info 116 = .ok (.iaload, 1) := by decide +kernel
theorem dX6_info_117 : decode cX6_info 117 = .ok (.ireturn, 1) := by decide +kernel
theorem dX6_info_118 : decode cX6_info 118 = .ok (.aload_n 0, 1) := by decide +kernel
theorem dX6_info_119 : decode cX6_info 119 = .ok (.getfield 13, 3) := by decide +kernel
theorem dX6_info_122 : decode cX6_info 122 = .ok (.getfield 124, 3) := by decide +kernel
theorem dX6_info_125 : decode cX6_info 125 = .ok (.iconst 2, 1) := by decide +kernel
theorem dX6_info_126 : decode cX6_info 126 = .ok (.iload_n 1, 1) := by decide +kernel
theorem dX6_info_127 : decode cX6_info 127 = .ok (.imul, 1) := by decide +kernel
theorem dX6_info_128 : decode cX6_info 128 = .ok (.iaload, 1) := by decide +kernel
theorem dX6_info_129 : decode cX6_info 129 = .ok (.ireturn, 1) := by decide +kernel
theorem dX6_info_130 : decode cX6_info 130 = .ok (.aload_n 0, 1) := by decide +kernel
theorem dX6_info_131 : decode cX6_info 131 = .ok (.getfield 13, 3) := by decide +kernel
theorem dX6_info_134 : decode cX6_info 134 = .ok (.getfield 124, 3) := by decide +kernel
theorem dX6_info_137 : decode cX6_info 137 = .ok (.iconst 2, 1) := by decide +kernel
theorem dX6_info_138 : decode cX6_info 138 = .ok (.iload_n 1, 1) := by decide +kernel
theorem dX6_info_139 : decode cX6_info 139 = .ok (.imul, 1) := by decide +kernel
theorem dX6_info_140 : decode cX6_info 140 = .ok (.iconst 1, 1) := by decide +kernel
theorem dX6_info_141 : decode cX6_info 141 = .ok (.iadd, 1) := by decide +kernel
theorem dX6_info_142 : decode cX6_info 142 = .ok (.iaload, 1) := by decide +kernel
theorem dX6_info_143 : decode cX6_info 143 = .ok (.ireturn, 1) := by decide +kernel
theorem dX6_info_144 : decode cX6_info 144 = .ok (.ldc 91, 2) := by decide +kernel
theorem dX6_info_146 : decode cX6_info 146 = .ok (.ireturn, 1) := by decide +kernel
theorem dX6_pair_0 : decode cX6_pair 0 = .ok (.aload_n 0, 1) := by decide +kernel
theorem dX6_pair_1 : decode cX6_pair 1 = .ok (.getfield 13, 3) := by decide +kernel
theorem dX6_pair_4 : decode cX6_pair 4 = .ok (.iload_n 1, 1) := by decide +kernel
theorem dX6_pair_5 : decode cX6_pair 5 = .ok (.invokevirtual 95, 3) := by decide +kernel
theorem dX6_pair_8 : decode cX6_pair 8 = .ok (.ifCond .ne 6, 3) := by decide +kernel
theorem dX6_pair_11 : decode cX6_pair 11 = .ok (.bipush (-2), 2) := by decide +kernel
theorem dX6_pair_13 : decode cX6_pair 13 = .ok (.ireturn, 1) := by decide +kernel
theorem dX6_pair_14 : decode cX6_pair 14 = .ok (.iload_n 2, 1) := by decide +kernel
theorem dX6_pair_15 : decode cX6_pair 15 = .ok (.tableswitch 65 0 3 #[29, 35, 41, 51], 29) := by decide +kernel
theorem dX6_pair_44 : decode cX6_pair 44 = .ok (.getstatic 127, 3) := by decide +kernel
theorem dX6_pair_47 : decode cX6_pair 47 = .ok (.iload_n 1, 1) := by decide +kernel
theorem dX6_pair_48 : decode cX6_pair 48 = .ok (.iaload, 1) := by decide +kernel
theorem dX6_pair_49 : decode cX6_pair 49 = .ok (.ireturn, 1) := by decide +kernel
theorem dX6_pair_50 : decode cX6_pair 50 = .ok (.getstatic 130, 3) := by decide +kernel
theorem dX6_pair_53 : decode cX6_pair 53 = .ok (.iload_n 1, 1) := by decide +kernel
theorem dX6_pair_54 : decode cX6_pair 54 = .ok (.iaload, 1) := by decide +kernel
theorem dX6_pair_55 : decode cX6_pair 55 = .ok (.ireturn, 1) := by decide +kernel
theorem dX6_pair_56 : decode cX6_pair 56 = .ok (.aload_n 0, 1) := by decide +kernel
theorem dX6_pair_57 : decode cX6_pair 57 = .ok (.getfield 13, 3) := by decide +kernel
theorem dX6_pair_60 : decode cX6_pair 60 = .ok (.getfield 133, 3) := by decide +kernel
theorem dX6_pair_63 : decode cX6_pair 63 = .ok (.iload_n 1, 1) := by decide +kernel
theorem dX6_pair_64 : decode cX6_pair 64 = .ok (.iaload, 1) := by decide +kernel
theorem dX6_pair_65 : decode cX6_pair 65 = .ok (.ireturn, 1) := by decide +kernel
theorem dX6_pair_66 : decode cX6_pair 66 = .ok (.aload_n 0, 1) := by decide +kernel
theorem dX6_pair_67 : decode cX6_pair 67 = .ok (.iload_n 1, 1) := by decide +kernel
theorem dX6_pair_68 : decode cX6_pair 68 = .ok (.invokevirtual 136, 3) := by decide +kernel
theorem dX6_pair_71 : decode cX6_pair 71 = .ok (.ifCond .eq 7, 3) := by decide +kernel
theorem dX6_pair_74 : decode cX6_pair 74 = .ok (.iconst 1, 1) := by decide +kernel
theorem dX6_pair_75 : decode cX6_pair 75 = .ok (.goto 4, 3) := by decide +kernel
theorem dX6_pair_78 : decode cX6_pair 78 = .ok (.iconst 0, 1) := by decide +kernel
theorem dX6_pair_79 : decode cX6_pair 79 = .ok (.ireturn, 1) := by decide +kernel
theorem dX6_pair_80 : decode cX6_pair 80 = .ok (.bipush (-2), 2) := by decide +kernel
theorem dX6_pair_82 : decode cX6_pair 82 = .ok (.ireturn, 1) := by decide +kernel
theorem dX6_least_0 : decode cX6_least 0 = .ok (.iload_n 1, 1) := by decide +kernel
theorem dX6_least_1 : decode cX6_least 1 = .ok (.invokestatic 139, 3) := by decide +kernel
theorem dX6_least_4 : decode cX6_least 4 = .ok (.ifCond .ne 9, 3) := by decide +kernel
theorem dX6_least_7 : decode cX6_least 7 = .ok (.bipush (-2), 2) := by decide +kernel
theorem dX6_least_9 : decode cX6_least 9 = .ok (.invokestatic 142, 3) := by decide +kernel
theorem dX6_least_12 : decode cX6_least 12 = .ok (.lreturn, 1) := by decide +kernel
theorem dX6_least_13 : decode cX6_least 13 = .ok (.aload_n 0, 1) := by decide +kernel
theorem dX6_least_14 : decode cX6_least 14 = .ok (.getfield 24, 3) := by decide +kernel
theorem dX6_least_17 : decode cX6_least 17 = .ok (.aload_n 0, 1) := by decide +kernel
theorem dX6_least_18 : decode cX6_least 18 = .ok (.invokevirtual 146, 3) := by decide +kernel
theorem dX6_least_21 : decode cX6_least 21 = .ok (.iload_n 1, 1) := by decide +kernel
theorem dX6_least_22 : decode cX6_least 22 = .ok (.invokevirtual 149, 3) := by decide +kernel
theorem dX6_least_25 : decode cX6_least 25 = .ok (.lreturn, 1) := by decide +kernel
theorem dX6_fault_0 : decode cX6_fault 0 = .ok (.aload_n 0, 1) := by decide +kernel
theorem dX6_fault_1 : decode cX6_fault 1 = .ok (.getfield 34, 3) := by decide +kernel
theorem dX6_fault_4 : decode cX6_fault 4 = .ok (.aload_n 0, 1) := by decide +kernel
theorem dX6_fault_5 : decode cX6_fault 5 = .ok (.getfield 13, 3) := by decide +kernel
theorem dX6_fault_8 : decode cX6_fault 8 = .ok (.aload_n 0, 1) := by decide +kernel
theorem dX6_fault_9 : decode cX6_fault 9 = .ok (.getfield 72, 3) := by decide +kernel
theorem dX6_fault_12 : decode cX6_fault 12 = .ok (.invokevirtual 153, 3) := by decide +kernel
theorem dX6_fault_15 : decode cX6_fault 15 = .ok (.ireturn, 1) := by decide +kernel
theorem dX6_frame_0 : decode cX6_frame 0 = .ok (.aload_n 0, 1) := by decide +kernel
theorem dX6_frame_1 : decode cX6_frame 1 = .ok (.invokevirtual 146, 3) := by decide +kernel
theorem dX6_frame_4 : decode cX6_frame 4 = .ok (.istore_n 1, 1) := by decide +kernel
theorem dX6_frame_5 : decode cX6_frame 5 = .ok (.iload_n 1, 1) := by decide +kernel
theorem dX6_frame_6 : decode cX6_frame 6 = .ok (.ifCond .ge 8, 3) := by decide +kernel
theorem dX6_frame_9 : decode cX6_frame 9 = .ok (.bipush (-3), 2) := by decide +kernel
theorem dX6_frame_11 : decode cX6_frame 11 = .ok (.goto 12, 3) := by decide +kernel
theorem dX6_frame_14 : decode cX6_frame 14 = .ok (.aload_n 0, 1) := by decide +kernel
theorem dX6_frame_15 : decode cX6_frame 15 = .ok (.getfield 24, 3) := by decide +kernel
theorem dX6_frame_18 : decode cX6_frame 18 = .ok (.getfield 157, 3) := by decide +kernel
theorem dX6_frame_21 : decode cX6_frame 21 = .ok (.iload_n 1, 1) := by decide +kernel
theorem dX6_frame_22 : decode cX6_frame 22 = .ok (.iaload, 1) := by decide +kernel
theorem dX6_frame_23 : decode cX6_frame 23 = .ok (.ireturn, 1) := by decide +kernel
theorem dX6_pull_0 : decode cX6_pull 0 = .ok (.aload_n 0, 1) := by decide +kernel
theorem dX6_pull_1 : decode cX6_pull 1 = .ok (.getfield 13, 3) := by decide +kernel
theorem dX6_pull_4 : decode cX6_pull 4 = .ok (.iload_n 1, 1) := by decide +kernel
theorem dX6_pull_5 : decode cX6_pull 5 = .ok (.invokevirtual 95, 3) := by decide +kernel
theorem dX6_pull_8 : decode cX6_pull 8 = .ok (.ifCond .eq 10, 3) := by decide +kernel
theorem dX6_pull_11 : decode cX6_pull 11 = .ok (.iload_n 2, 1) := by decide +kernel
theorem dX6_pull_12 : decode cX6_pull 12 = .ok (.invokestatic 139, 3) := by decide +kernel
theorem dX6_pull_15 : decode cX6_pull 15 = .ok (.ifCond .ne 9, 3) := by decide +kernel
theorem dX6_pull_18 : decode cX6_pull 18 = .ok (.bipush (-2), 2) := by decide +kernel
theorem dX6_pull_20 : decode cX6_pull 20 = .ok (.invokestatic 142, 3) := by decide +kernel
theorem dX6_pull_23 : decode cX6_pull 23 = .ok (.lreturn, 1) := by decide +kernel
theorem dX6_pull_24 : decode cX6_pull 24 = .ok (.aload_n 0, 1) := by decide +kernel
theorem dX6_pull_25 : decode cX6_pull 25 = .ok (.invokevirtual 146, 3) := by decide +kernel
theorem dX6_pull_28 : decode cX6_pull 28 = .ok (.istore_n 3, 1) := by decide +kernel
theorem dX6_pull_29 : decode cX6_pull 29 = .ok (.iload_n 3, 1) := by decide +kernel
theorem dX6_pull_30 : decode cX6_pull 30 = .ok (.ifCond .ge 9, 3) := by decide +kernel
theorem dX6_pull_33 : decode cX6_pull 33 = .ok (.bipush (-3), 2) := by decide +kernel
theorem dX6_pull_35 : decode cX6_pull 35 = .ok (.invokestatic 142, 3) := by decide +kernel
theorem dX6_pull_38 : decode cX6_pull 38 = .ok (.lreturn, 1) := by decide +kernel
theorem dX6_pull_39 : decode cX6_pull 39 = .ok (.aload_n 0, 1) := by decide +kernel
theorem dX6_pull_40 : decode cX6_pull 40 = .ok (.getfield 24, 3) := by decide +kernel
theorem dX6_pull_43 : decode cX6_pull 43 = .ok (.aload_n 0, 1) := by decide +kernel
theorem dX6_pull_44 : decode cX6_pull 44 = .ok (.getfield 13, 3) := by decide +kernel
theorem dX6_pull_47 : decode cX6_pull 47 = .ok (.aload_n 0, 1) := by decide +kernel
theorem dX6_pull_48 : decode cX6_pull 48 = .ok (.getfield 24, 3) := by decide +kernel
theorem dX6_pull_51 : decode cX6_pull 51 = .ok (.getfield 157, 3) := by decide +kernel
theorem dX6_pull_54 : decode cX6_pull 54 = .ok (.iload_n 3, 1) := by decide +kernel
theorem dX6_pull_55 : decode cX6_pull 55 = .ok (.iaload, 1) := by decide +kernel
theorem dX6_pull_56 : decode cX6_pull 56 = .ok (.invokevirtual 160, 3) := by decide +kernel
theorem dX6_pull_59 : decode cX6_pull 59 = .ok (.aload_n 0, 1) := by decide +kernel
theorem dX6_pull_60 : decode cX6_pull 60 = .ok (.getfield 24, 3) := by decide +kernel
theorem dX6_pull_63 : decode cX6_pull 63 = .ok (.getfield 164, 3) := by decide +kernel
theorem dX6_pull_66 : decode cX6_pull 66 = .ok (.iload_n 1, 1) := by decide +kernel
theorem dX6_pull_67 : decode cX6_pull 67 = .ok (.laload, 1) := by decide +kernel
theorem dX6_pull_68 : decode cX6_pull 68 = .ok (.aload_n 0, 1) := by decide +kernel
theorem dX6_pull_69 : decode cX6_pull 69 = .ok (.getfield 24, 3) := by decide +kernel
theorem dX6_pull_72 : decode cX6_pull 72 = .ok (.getfield 167, 3) := by decide +kernel
theorem dX6_pull_75 : decode cX6_pull 75 = .ok (.iload_n 2, 1) := by decide +kernel
theorem dX6_pull_76 : decode cX6_pull 76 = .ok (.invokestatic 171, 3) := by decide +kernel
theorem dX6_pull_79 : decode cX6_pull 79 = .ok (.lreturn, 1) := by decide +kernel
theorem dX6_without_0 : decode cX6_without 0 = .ok (.aload_n 0, 1) := by decide +kernel
theorem dX6_without_1 : decode cX6_without 1 = .ok (.iload_n 1, 1) := by decide +kernel
theorem dX6_without_2 : decode cX6_without 2 = .ok (.invokevirtual 136, 3) := by decide +kernel
theorem dX6_without_5 : decode cX6_without 5 = .ok (.ifCond .eq 10, 3) := by decide +kernel
theorem dX6_without_8 : decode cX6_without 8 = .ok (.iload_n 2, 1) := by decide +kernel
theorem dX6_without_9 : decode cX6_without 9 = .ok (.invokestatic 139, 3) := by decide +kernel
theorem dX6_without_12 : decode cX6_without 12 = .ok (.ifCond .ne 9, 3) := by decide +kernel
theorem dX6_without_15 : decode cX6_without 15 = .ok (.bipush (-2), 2) := by decide +kernel
theorem dX6_without_17 : decode cX6_without 17 = .ok (.invokestatic 142, 3) := by decide +kernel
theorem dX6_without_20 : decode cX6_without 20 = .ok (.lreturn, 1) := by decide +kernel
theorem dX6_without_21 : decode cX6_without 21 = .ok (.aload_n 0, 1) := by decide +kernel
theorem dX6_without_22 : decode cX6_without 22 = .ok (.invokevirtual 146, 3) := by decide +kernel
theorem dX6_without_25 : decode cX6_without 25 = .ok (.ifCond .ge 9, 3) := by decide +kernel
theorem dX6_without_28 : decode cX6_without 28 = .ok (.bipush (-3), 2) := by decide +kernel
theorem dX6_without_30 : decode cX6_without 30 = .ok (.invokestatic 142, 3) := by decide +kernel
theorem dX6_without_33 : decode cX6_without 33 = .ok (.lreturn, 1) := by decide +kernel
theorem dX6_without_34 : decode cX6_without 34 = .ok (.aload_n 0, 1) := by decide +kernel
theorem dX6_without_35 : decode cX6_without 35 = .ok (.getfield 24, 3) := by decide +kernel
theorem dX6_without_38 : decode cX6_without 38 = .ok (.aload_n 0, 1) := by decide +kernel
theorem dX6_without_39 : decode cX6_without 39 = .ok (.getfield 24, 3) := by decide +kernel
theorem dX6_without_42 : decode cX6_without 42 = .ok (.aload_n 0, 1) := by decide +kernel
theorem dX6_without_43 : decode cX6_without 43 = .ok (.getfield 72, 3) := by decide +kernel
theorem dX6_without_46 : decode cX6_without 46 = .ok (.iconst 1, 1) := by decide +kernel
theorem dX6_without_47 : decode cX6_without 47 = .ok (.iload_n 1, 1) := by decide +kernel
theorem dX6_without_48 : decode cX6_without 48 = .ok (.ishl, 1) := by decide +kernel
theorem dX6_without_49 : decode cX6_without 49 = .ok (.iconst (-1), 1) := by decide +kernel
theorem dX6_without_50 : decode cX6_without 50 = .ok (.ixor, 1) := by decide +kernel
theorem dX6_without_51 : decode cX6_without 51 = .ok (.iand, 1) := by decide +kernel
theorem dX6_without_52 : decode cX6_without 52 = .ok (.invokevirtual 175, 3) := by decide +kernel
theorem dX6_without_55 : decode cX6_without 55 = .ok (.iload_n 2, 1) := by decide +kernel
theorem dX6_without_56 : decode cX6_without 56 = .ok (.invokevirtual 149, 3) := by decide +kernel
theorem dX6_without_59 : decode cX6_without 59 = .ok (.lreturn, 1) := by decide +kernel
theorem dX6_why_0 : decode cX6_why 0 = .ok (.aload_n 0, 1) := by decide +kernel
theorem dX6_why_1 : decode cX6_why 1 = .ok (.iload_n 1, 1) := by decide +kernel
theorem dX6_why_2 : decode cX6_why 2 = .ok (.invokevirtual 136, 3) := by decide +kernel
theorem dX6_why_5 : decode cX6_why 5 = .ok (.ifCond .ne 6, 3) := by decide +kernel
theorem dX6_why_8 : decode cX6_why 8 = .ok (.bipush (-2), 2) := by decide +kernel
theorem dX6_why_10 : decode cX6_why 10 = .ok (.ireturn, 1) := by decide +kernel
theorem dX6_why_11 : decode cX6_why 11 = .ok (.aload_n 0, 1) := by decide +kernel
theorem dX6_why_12 : decode cX6_why 12 = .ok (.getfield 34, 3) := by decide +kernel
theorem dX6_why_15 : decode cX6_why 15 = .ok (.aload_n 0, 1) := by decide +kernel
theorem dX6_why_16 : decode cX6_why 16 = .ok (.getfield 13, 3) := by decide +kernel
theorem dX6_why_19 : decode cX6_why 19 = .ok (.aload_n 0, 1) := by decide +kernel
theorem dX6_why_20 : decode cX6_why 20 = .ok (.getfield 72, 3) := by decide +kernel
theorem dX6_why_23 : decode cX6_why 23 = .ok (.iconst 1, 1) := by decide +kernel
theorem dX6_why_24 : decode cX6_why 24 = .ok (.iload_n 1, 1) := by decide +kernel
theorem dX6_why_25 : decode cX6_why 25 = .ok (.ishl, 1) := by decide +kernel
theorem dX6_why_26 : decode cX6_why 26 = .ok (.iconst (-1), 1) := by decide +kernel
theorem dX6_why_27 : decode cX6_why 27 = .ok (.ixor, 1) := by decide +kernel
theorem dX6_why_28 : decode cX6_why 28 = .ok (.iand, 1) := by decide +kernel
theorem dX6_why_29 : decode cX6_why 29 = .ok (.invokevirtual 153, 3) := by decide +kernel
theorem dX6_why_32 : decode cX6_why 32 = .ok (.ireturn, 1) := by decide +kernel
theorem dX6_needed_0 : decode cX6_needed 0 = .ok (.aload_n 0, 1) := by decide +kernel
theorem dX6_needed_1 : decode cX6_needed 1 = .ok (.invokevirtual 146, 3) := by decide +kernel
theorem dX6_needed_4 : decode cX6_needed 4 = .ok (.istore_n 1, 1) := by decide +kernel
theorem dX6_needed_5 : decode cX6_needed 5 = .ok (.iload_n 1, 1) := by decide +kernel
theorem dX6_needed_6 : decode cX6_needed 6 = .ok (.ifCond .ge 6, 3) := by decide +kernel
theorem dX6_needed_9 : decode cX6_needed 9 = .ok (.bipush (-3), 2) := by decide +kernel
theorem dX6_needed_11 : decode cX6_needed 11 = .ok (.ireturn, 1) := by decide +kernel
theorem dX6_needed_12 : decode cX6_needed 12 = .ok (.aload_n 0, 1) := by decide +kernel
theorem dX6_needed_13 : decode cX6_needed 13 = .ok (.getfield 24, 3) := by decide +kernel
theorem dX6_needed_16 : decode cX6_needed 16 = .ok (.getfield 157, 3) := by decide +kernel
theorem dX6_needed_19 : decode cX6_needed 19 = .ok (.iload_n 1, 1) := by decide +kernel
theorem dX6_needed_20 : decode cX6_needed 20 = .ok (.iaload, 1) := by decide +kernel
theorem dX6_needed_21 : decode cX6_needed 21 = .ok (.istore_n 2, 1) := by decide +kernel
theorem dX6_needed_22 : decode cX6_needed 22 = .ok (.iconst 0, 1) := by decide +kernel
theorem dX6_needed_23 : decode cX6_needed 23 = .ok (.istore_n 3, 1) := by decide +kernel
theorem dX6_needed_24 : decode cX6_needed 24 = .ok (.iconst 0, 1) := by decide +kernel
theorem dX6_needed_25 : decode cX6_needed 25 = .ok (.istore 4, 2) := by decide +kernel
theorem dX6_needed_27 : decode cX6_needed 27 = .ok (.iload 4, 2) := by decide +kernel
theorem dX6_needed_29 : decode cX6_needed 29 = .ok (.bipush 10, 2) := by decide +kernel
theorem dX6_needed_31 : decode cX6_needed 31 = .ok (.if_icmp .ge 54, 3) := by decide +kernel
theorem dX6_needed_34 : decode cX6_needed 34 = .ok (.iconst 1, 1) := by decide +kernel
theorem dX6_needed_35 : decode cX6_needed 35 = .ok (.iload 4, 2) := by decide +kernel
theorem dX6_needed_37 : decode cX6_needed 37 = .ok (.ishl, 1) := by decide +kernel
theorem dX6_needed_38 : decode cX6_needed 38 = .ok (.istore 5, 2) := by decide +kernel
theorem dX6_needed_40 : decode cX6_needed 40 = .ok (.iload_n 2, 1) := by decide +kernel
theorem dX6_needed_41 : decode cX6_needed 41 = .ok (.iload 5, 2) := by decide +kernel
theorem dX6_needed_43 : decode cX6_needed 43 = .ok (.iand, 1) := by decide +kernel
theorem dX6_needed_44 : decode cX6_needed 44 = .ok (.ifCond .eq 35, 3) := by decide +kernel
theorem dX6_needed_47 : decode cX6_needed 47 = .ok (.aload_n 0, 1) := by decide +kernel
theorem dX6_needed_48 : decode cX6_needed 48 = .ok (.getfield 24, 3) := by decide +kernel
theorem dX6_needed_51 : decode cX6_needed 51 = .ok (.aload_n 0, 1) := by decide +kernel
theorem dX6_needed_52 : decode cX6_needed 52 = .ok (.getfield 24, 3) := by decide +kernel
theorem dX6_needed_55 : decode cX6_needed 55 = .ok (.aload_n 0, 1) := by decide +kernel
theorem dX6_needed_56 : decode cX6_needed 56 = .ok (.getfield 72, 3) := by decide +kernel
theorem dX6_needed_59 : decode cX6_needed 59 = .ok (.iload 5, 2) := by decide +kernel
theorem dX6_needed_61 : decode cX6_needed 61 = .ok (.iconst (-1), 1) := by decide +kernel
theorem dX6_needed_62 : decode cX6_needed 62 = .ok (.ixor, 1) := by decide +kernel
theorem dX6_needed_63 : decode cX6_needed 63 = .ok (.iand, 1) := by decide +kernel
theorem dX6_needed_64 : decode cX6_needed 64 = .ok (.invokevirtual 175, 3) := by decide +kernel
theorem dX6_needed_67 : decode cX6_needed 67 = .ok (.iload_n 1, 1) := by decide +kernel
theorem dX6_needed_68 : decode cX6_needed 68 = .ok (.invokevirtual 178, 3) := by decide +kernel
theorem dX6_needed_71 : decode cX6_needed 71 = .ok (.ifCond .eq 8, 3) := by decide +kernel
theorem dX6_needed_74 : decode cX6_needed 74 = .ok (.iload_n 3, 1) := by decide +kernel
theorem dX6_needed_75 : decode cX6_needed 75 = .ok (.iload 5, 2) := by decide +kernel
theorem dX6_needed_77 : decode cX6_needed 77 = .ok (.ior, 1) := by decide +kernel
theorem dX6_needed_78 : decode cX6_needed 78 = .ok (.istore_n 3, 1) := by decide +kernel
theorem dX6_needed_79 : decode cX6_needed 79 = .ok (.iinc 4 1, 3) := by decide +kernel
theorem dX6_needed_82 : decode cX6_needed 82 = .ok (.goto (-55), 3) := by decide +kernel
theorem dX6_needed_85 : decode cX6_needed 85 = .ok (.iload_n 3, 1) := by decide +kernel
theorem dX6_needed_86 : decode cX6_needed 86 = .ok (.ireturn, 1) := by decide +kernel
theorem dX6_dearest_0 : decode cX6_dearest 0 = .ok (.aload_n 0, 1) := by decide +kernel
theorem dX6_dearest_1 : decode cX6_dearest 1 = .ok (.invokevirtual 181, 3) := by decide +kernel
theorem dX6_dearest_4 : decode cX6_dearest 4 = .ok (.istore_n 1, 1) := by decide +kernel
theorem dX6_dearest_5 : decode cX6_dearest 5 = .ok (.iload_n 1, 1) := by decide +kernel
theorem dX6_dearest_6 : decode cX6_dearest 6 = .ok (.ifCond .ge 6, 3) := by decide +kernel
theorem dX6_dearest_9 : decode cX6_dearest 9 = .ok (.bipush (-3), 2) := by decide +kernel
theorem dX6_dearest_11 : decode cX6_dearest 11 = .ok (.ireturn, 1) := by decide +kernel
theorem dX6_dearest_12 : decode cX6_dearest 12 = .ok (.iconst (-1), 1) := by decide +kernel
theorem dX6_dearest_13 : decode cX6_dearest 13 = .ok (.istore_n 2, 1) := by decide +kernel
theorem dX6_dearest_14 : decode cX6_dearest 14 = .ok (.iconst (-1), 1) := by decide +kernel
theorem dX6_dearest_15 : decode cX6_dearest 15 = .ok (.istore_n 3, 1) := by decide +kernel
theorem dX6_dearest_16 : decode cX6_dearest 16 = .ok (.iconst 0, 1) := by decide +kernel
theorem dX6_dearest_17 : decode cX6_dearest 17 = .ok (.istore 4, 2) := by decide +kernel
theorem dX6_dearest_19 : decode cX6_dearest 19 = .ok (.iload 4, 2) := by decide +kernel
theorem dX6_dearest_21 : decode cX6_dearest 21 = .ok (.bipush 10, 2) := by decide +kernel
theorem dX6_dearest_23 : decode cX6_dearest 23 = .ok (.if_icmp .ge 72, 3) := by decide +kernel
theorem dX6_dearest_26 : decode cX6_dearest 26 = .ok (.iload_n 1, 1) := by decide +kernel
theorem dX6_dearest_27 : decode cX6_dearest 27 = .ok (.iload 4, 2) := by decide +kernel
theorem dX6_dearest_29 : decode cX6_dearest 29 = .ok (.ishr, 1) := by decide +kernel
theorem dX6_dearest_30 : decode cX6_dearest 30 = .ok (.iconst 1, 1) := by decide +kernel
theorem dX6_dearest_31 : decode cX6_dearest 31 = .ok (.iand, 1) := by decide +kernel
theorem dX6_dearest_32 : decode cX6_dearest 32 = .ok (.ifCond .ne 6, 3) := by decide +kernel
theorem dX6_dearest_35 : decode cX6_dearest 35 = .ok (.goto 54, 3) := by decide +kernel
theorem dX6_dearest_38 : decode cX6_dearest 38 = .ok (.aload_n 0, 1) := by decide +kernel
theorem dX6_dearest_39 : decode cX6_dearest 39 = .ok (.getfield 24, 3) := by decide +kernel
theorem dX6_dearest_42 : decode cX6_dearest 42 = .ok (.aload_n 0, 1) := by decide +kernel
theorem dX6_dearest_43 : decode cX6_dearest 43 = .ok (.getfield 72, 3) := by decide +kernel
theorem dX6_dearest_46 : decode cX6_dearest 46 = .ok (.iconst 1, 1) := by decide +kernel
theorem dX6_dearest_47 : decode cX6_dearest 47 = .ok (.iload 4, 2) := by decide +kernel
theorem dX6_dearest_49 : decode cX6_dearest 49 = .ok (.ishl, 1) := by decide +kernel
theorem dX6_dearest_50 : decode cX6_dearest 50 = .ok (.iconst (-1), 1) := by decide +kernel
theorem dX6_dearest_51 : decode cX6_dearest 51 = .ok (.ixor, 1) := by decide +kernel
theorem dX6_dearest_52 : decode cX6_dearest 52 = .ok (.iand, 1) := by decide +kernel
theorem dX6_dearest_53 : decode cX6_dearest 53 = .ok (.invokevirtual 175, 3) := by decide +kernel
theorem dX6_dearest_56 : decode cX6_dearest 56 = .ok (.istore 5, 2) := by decide +kernel
theorem dX6_dearest_58 : decode cX6_dearest 58 = .ok (.iload 5, 2) := by decide +kernel
theorem dX6_dearest_60 : decode cX6_dearest 60 = .ok (.ifCond .ge 6, 3) := by decide +kernel
theorem dX6_dearest_63 : decode cX6_dearest 63 = .ok (.iload 4, 2) := by decide +kernel
theorem dX6_dearest_65 : decode cX6_dearest 65 = .ok (.ireturn, 1) := by decide +kernel
theorem dX6_dearest_66 : decode cX6_dearest 66 = .ok (.iload_n 2, 1) := by decide +kernel
theorem dX6_dearest_67 : decode cX6_dearest 67 = .ok (.ifCond .lt 16, 3) := by decide +kernel
theorem dX6_dearest_70 : decode cX6_dearest 70 = .ok (.aload_n 0, 1) := by decide +kernel
theorem dX6_dearest_71 : decode cX6_dearest 71 = .ok (.getfield 24, 3) := by decide +kernel
theorem dX6_dearest_74 : decode cX6_dearest 74 = .ok (.iload 5, 2) := by decide +kernel
theorem dX6_dearest_76 : decode cX6_dearest 76 = .ok (.iload_n 3, 1) := by decide +kernel
theorem dX6_dearest_77 : decode cX6_dearest 77 = .ok (.invokevirtual 178, 3) := by decide +kernel
theorem dX6_dearest_80 : decode cX6_dearest 80 = .ok (.ifCond .eq 9, 3) := by decide +kernel
theorem dX6_dearest_83 : decode cX6_dearest 83 = .ok (.iload 4, 2) := by decide +kernel
theorem dX6_dearest_85 : decode cX6_dearest 85 = .ok (.istore_n 2, 1) := by decide +kernel
theorem dX6_dearest_86 : decode cX6_dearest 86 = .ok (.iload 5, 2) := by decide +kernel
theorem dX6_dearest_88 : decode cX6_dearest 88 = .ok (.istore_n 3, 1) := by decide +kernel
theorem dX6_dearest_89 : decode cX6_dearest 89 = .ok (.iinc 4 1, 3) := by decide +kernel
theorem dX6_dearest_92 : decode cX6_dearest 92 = .ok (.goto (-73), 3) := by decide +kernel
theorem dX6_dearest_95 : decode cX6_dearest 95 = .ok (.iload_n 2, 1) := by decide +kernel
theorem dX6_dearest_96 : decode cX6_dearest 96 = .ok (.ireturn, 1) := by decide +kernel
theorem dX6_gain_0 : decode cX6_gain 0 = .ok (.aload_n 0, 1) := by decide +kernel
theorem dX6_gain_1 : decode cX6_gain 1 = .ok (.getfield 13, 3) := by decide +kernel
theorem dX6_gain_4 : decode cX6_gain 4 = .ok (.iload_n 1, 1) := by decide +kernel
theorem dX6_gain_5 : decode cX6_gain 5 = .ok (.invokevirtual 95, 3) := by decide +kernel
theorem dX6_gain_8 : decode cX6_gain 8 = .ok (.ifCond .eq 18, 3) := by decide +kernel
theorem dX6_gain_11 : decode cX6_gain 11 = .ok (.aload_n 0, 1) := by decide +kernel
theorem dX6_gain_12 : decode cX6_gain 12 = .ok (.iload_n 1, 1) := by decide +kernel
theorem dX6_gain_13 : decode cX6_gain 13 = .ok (.invokevirtual 136, 3) := by decide +kernel
theorem dX6_gain_16 : decode cX6_gain 16 = .ok (.ifCond .ne 10, 3) := by decide +kernel
theorem dX6_gain_19 : decode cX6_gain 19 = .ok (.iload_n 2, 1) := by decide +kernel
theorem dX6_gain_20 : decode cX6_gain 20 = .ok (.invokestatic 139, 3) := by decide +kernel
theorem dX6_gain_23 : decode cX6_gain 23 = .ok (.ifCond .ne 9, 3) := by decide +kernel
theorem dX6_gain_26 : decode cX6_gain 26 = .ok (.bipush (-2), 2) := by decide +kernel
theorem dX6_gain_28 : decode cX6_gain 28 = .ok (.invokestatic 142, 3) := by decide +kernel
theorem dX6_gain_31 : decode cX6_gain 31 = .ok (.lreturn, 1) := by decide +kernel
theorem dX6_gain_32 : decode cX6_gain 32 = .ok (.aload_n 0, 1) := by decide +kernel
theorem dX6_gain_33 : decode cX6_gain 33 = .ok (.invokevirtual 146, 3) := by decide +kernel
theorem dX6_gain_36 : decode cX6_gain 36 = .ok (.istore_n 3, 1) := by decide +kernel
theorem dX6_gain_37 : decode cX6_gain 37 = .ok (.iload_n 3, 1) := by decide +kernel
theorem dX6_gain_38 : decode cX6_gain 38 = .ok (.ifCond .ge 9, 3) := by decide +kernel
theorem dX6_gain_41 : decode cX6_gain 41 = .ok (.bipush (-3), 2) := by decide +kernel
theorem dX6_gain_43 : decode cX6_gain 43 = .ok (.invokestatic 142, 3) := by decide +kernel
theorem dX6_gain_46 : decode cX6_gain 46 = .ok (.lreturn, 1) := by decide +kernel
theorem dX6_gain_47 : decode cX6_gain 47 = .ok (.aload_n 0, 1) := by decide +kernel
theorem dX6_gain_48 : decode cX6_gain 48 = .ok (.getfield 24, 3) := by decide +kernel
theorem dX6_gain_51 : decode cX6_gain 51 = .ok (.iload_n 3, 1) := by decide +kernel
theorem dX6_gain_52 : decode cX6_gain 52 = .ok (.aload_n 0, 1) := by decide +kernel
theorem dX6_gain_53 : decode cX6_gain 53 = .ok (.getfield 24, 3) := by decide +kernel
theorem dX6_gain_56 : decode cX6_gain 56 = .ok (.aload_n 0, 1) := by decide +kernel
theorem dX6_gain_57 : decode cX6_gain 57 = .ok (.getfield 72, 3) := by decide +kernel
theorem dX6_gain_60 : decode cX6_gain 60 = .ok (.iconst 1, 1) := by decide +kernel
theorem dX6_gain_61 : decode cX6_gain 61 = .ok (.iload_n 1, 1) := by decide +kernel
theorem dX6_gain_62 : decode cX6_gain 62 = .ok (.ishl, 1) := by decide +kernel
theorem dX6_gain_63 : decode cX6_gain 63 = .ok (.ior, 1) := by decide +kernel
theorem dX6_gain_64 : decode cX6_gain 64 = .ok (.invokevirtual 175, 3) := by decide +kernel
theorem dX6_gain_67 : decode cX6_gain 67 = .ok (.iload_n 2, 1) := by decide +kernel
theorem dX6_gain_68 : decode cX6_gain 68 = .ok (.invokevirtual 184, 3) := by decide +kernel
theorem dX6_gain_71 : decode cX6_gain 71 = .ok (.lreturn, 1) := by decide +kernel
theorem dX6_grow_0 : decode cX6_grow 0 = .ok (.aload_n 0, 1) := by decide +kernel
theorem dX6_grow_1 : decode cX6_grow 1 = .ok (.invokevirtual 146, 3) := by decide +kernel
theorem dX6_grow_4 : decode cX6_grow 4 = .ok (.ifCond .ge 6, 3) := by decide +kernel
theorem dX6_grow_7 : decode cX6_grow 7 = .ok (.bipush (-3), 2) := by decide +kernel
theorem dX6_grow_9 : decode cX6_grow 9 = .ok (.ireturn, 1) := by decide +kernel
theorem dX6_grow_10 : decode cX6_grow 10 = .ok (.iconst 0, 1) := by decide +kernel
theorem dX6_grow_11 : decode cX6_grow 11 = .ok (.istore_n 1, 1) := by decide +kernel
theorem dX6_grow_12 : decode cX6_grow 12 = .ok (.aload_n 0, 1) := by decide +kernel
theorem dX6_grow_13 : decode cX6_grow 13 = .ok (.invokevirtual 188, 3) := by decide +kernel
theorem dX6_grow_16 : decode cX6_grow 16 = .ok (.istore_n 2, 1) := by decide +kernel
theorem dX6_grow_17 : decode cX6_grow 17 = .ok (.iload_n 1, 1) := by decide +kernel
theorem dX6_grow_18 : decode cX6_grow 18 = .ok (.bipush 10, 2) := by decide +kernel
theorem dX6_grow_20 : decode cX6_grow 20 = .ok (.if_icmp .ge 30, 3) := by decide +kernel
theorem dX6_grow_23 : decode cX6_grow 23 = .ok (.iload_n 2, 1) := by decide +kernel
theorem dX6_grow_24 : decode cX6_grow 24 = .ok (.ifCond .lt 26, 3) := by decide +kernel
theorem dX6_grow_27 : decode cX6_grow 27 = .ok (.aload_n 0, 1) := by decide +kernel
theorem dX6_grow_28 : decode cX6_grow 28 = .ok (.dup, 1) := by decide +kernel
theorem dX6_grow_29 : decode cX6_grow 29 = .ok (.getfield 72, 3) := by decide +kernel
theorem dX6_grow_32 : decode cX6_grow 32 = .ok (.iconst 1, 1) := by decide +kernel
theorem dX6_grow_33 : decode cX6_grow 33 = .ok (.iload_n 2, 1) := by decide +kernel
theorem dX6_grow_34 : decode cX6_grow 34 = .ok (.ishl, 1) := by decide +kernel
theorem dX6_grow_35 : decode cX6_grow 35 = .ok (.ior, 1) := by decide +kernel
theorem dX6_grow_36 : decode cX6_grow 36 = .ok (.putfield 72, 3) := by decide +kernel
theorem dX6_grow_39 : decode cX6_grow 39 = .ok (.iinc 1 1, 3) := by decide +kernel
theorem dX6_grow_42 : decode cX6_grow 42 = .ok (.aload_n 0, 1) := by decide +kernel
theorem dX6_grow_43 : decode cX6_grow 43 = .ok (.invokevirtual 188, 3) := by decide +kernel
theorem dX6_grow_46 : decode cX6_grow 46 = .ok (.istore_n 2, 1) := by decide +kernel
theorem dX6_grow_47 : decode cX6_grow 47 = .ok (.goto (-30), 3) := by decide +kernel
theorem dX6_grow_50 : decode cX6_grow 50 = .ok (.iload_n 1, 1) := by decide +kernel
theorem dX6_grow_51 : decode cX6_grow 51 = .ok (.ireturn, 1) := by decide +kernel
theorem dX6_prune_0 : decode cX6_prune 0 = .ok (.aload_n 0, 1) := by decide +kernel
theorem dX6_prune_1 : decode cX6_prune 1 = .ok (.invokevirtual 191, 3) := by decide +kernel
theorem dX6_prune_4 : decode cX6_prune 4 = .ok (.istore_n 1, 1) := by decide +kernel
theorem dX6_prune_5 : decode cX6_prune 5 = .ok (.iload_n 1, 1) := by decide +kernel
theorem dX6_prune_6 : decode cX6_prune 6 = .ok (.ifCond .ge 6, 3) := by decide +kernel
theorem dX6_prune_9 : decode cX6_prune 9 = .ok (.bipush (-3), 2) := by decide +kernel
theorem dX6_prune_11 : decode cX6_prune 11 = .ok (.ireturn, 1) := by decide +kernel
theorem dX6_prune_12 : decode cX6_prune 12 = .ok (.aload_n 0, 1) := by decide +kernel
theorem dX6_prune_13 : decode cX6_prune 13 = .ok (.getfield 72, 3) := by decide +kernel
theorem dX6_prune_16 : decode cX6_prune 16 = .ok (.invokestatic 194, 3) := by decide +kernel
theorem dX6_prune_19 : decode cX6_prune 19 = .ok (.iload_n 1, 1) := by decide +kernel
theorem dX6_prune_20 : decode cX6_prune 20 = .ok (.invokestatic 194, 3) := by decide +kernel
theorem dX6_prune_23 : decode cX6_prune 23 = .ok (.isub, 1) := by decide +kernel
theorem dX6_prune_24 : decode cX6_prune 24 = .ok (.istore_n 2, 1) := by decide +kernel
theorem dX6_prune_25 : decode cX6_prune 25 = .ok (.aload_n 0, 1) := by decide +kernel
theorem dX6_prune_26 : decode cX6_prune 26 = .ok (.iload_n 1, 1) := by decide +kernel
theorem dX6_prune_27 : decode cX6_prune 27 = .ok (.putfield 72, 3) := by decide +kernel
theorem dX6_prune_30 : decode cX6_prune 30 = .ok (.iload_n 2, 1) := by decide +kernel
theorem dX6_prune_31 : decode cX6_prune 31 = .ok (.ireturn, 1) := by decide +kernel
theorem dX6_would_0 : decode cX6_would 0 = .ok (.aload_n 0, 1) := by decide +kernel
theorem dX6_would_1 : decode cX6_would 1 = .ok (.getfield 13, 3) := by decide +kernel
theorem dX6_would_4 : decode cX6_would 4 = .ok (.iload_n 1, 1) := by decide +kernel
theorem dX6_would_5 : decode cX6_would 5 = .ok (.invokevirtual 79, 3) := by decide +kernel
theorem dX6_would_8 : decode cX6_would 8 = .ok (.ifCond .eq 28, 3) := by decide +kernel
theorem dX6_would_11 : decode cX6_would 11 = .ok (.iload_n 2, 1) := by decide +kernel
theorem dX6_would_12 : decode cX6_would 12 = .ok (.iconst 0, 1) := by decide +kernel
theorem dX6_would_13 : decode cX6_would 13 = .ok (.iconst 1, 1) := by decide +kernel
theorem dX6_would_14 : decode cX6_would 14 = .ok (.invokestatic 56, 3) := by decide +kernel
theorem dX6_would_17 : decode cX6_would 17 = .ok (.ifCond .eq 19, 3) := by decide +kernel
theorem dX6_would_20 : decode cX6_would 20 = .ok (.iload_n 3, 1) := by decide +kernel
theorem dX6_would_21 : decode cX6_would 21 = .ok (.i2l, 1) := by decide +kernel
theorem dX6_would_22 : decode cX6_would 22 = .ok (.invokestatic 87, 3) := by decide +kernel
theorem dX6_would_25 : decode cX6_would 25 = .ok (.ifCond .eq 11, 3) := by decide +kernel
theorem dX6_would_28 : decode cX6_would 28 = .ok (.iload 4, 2) := by decide +kernel
theorem dX6_would_30 : decode cX6_would 30 = .ok (.invokestatic 139, 3) := by decide +kernel
theorem dX6_would_33 : decode cX6_would 33 = .ok (.ifCond .ne 9, 3) := by decide +kernel
theorem dX6_would_36 : decode cX6_would 36 = .ok (.bipush (-2), 2) := by decide +kernel
theorem dX6_would_38 : decode cX6_would 38 = .ok (.invokestatic 142, 3) := by decide +kernel
theorem dX6_would_41 : decode cX6_would 41 = .ok (.lreturn, 1) := by decide +kernel
theorem dX6_would_42 : decode cX6_would 42 = .ok (.aload_n 0, 1) := by decide +kernel
theorem dX6_would_43 : decode cX6_would 43 = .ok (.getfield 13, 3) := by decide +kernel
theorem dX6_would_46 : decode cX6_would 46 = .ok (.getfield 92, 3) := by decide +kernel
theorem dX6_would_49 : decode cX6_would 49 = .ok (.iconst 2, 1) := by decide +kernel
theorem dX6_would_50 : decode cX6_would 50 = .ok (.iload_n 1, 1) := by decide +kernel
theorem dX6_would_51 : decode cX6_would 51 = .ok (.imul, 1) := by decide +kernel
theorem dX6_would_52 : decode cX6_would 52 = .ok (.iload_n 2, 1) := by decide +kernel
theorem dX6_would_53 : decode cX6_would 53 = .ok (.iadd, 1) := by decide +kernel
theorem dX6_would_54 : decode cX6_would 54 = .ok (.iaload, 1) := by decide +kernel
theorem dX6_would_55 : decode cX6_would 55 = .ok (.istore 5, 2) := by decide +kernel
theorem dX6_would_57 : decode cX6_would 57 = .ok (.aload_n 0, 1) := by decide +kernel
theorem dX6_would_58 : decode cX6_would 58 = .ok (.getfield 13, 3) := by decide +kernel
theorem dX6_would_61 : decode cX6_would 61 = .ok (.getfield 92, 3) := by decide +kernel
theorem dX6_would_64 : decode cX6_would 64 = .ok (.iconst 2, 1) := by decide +kernel
theorem dX6_would_65 : decode cX6_would 65 = .ok (.iload_n 1, 1) := by decide +kernel
theorem dX6_would_66 : decode cX6_would 66 = .ok (.imul, 1) := by decide +kernel
theorem dX6_would_67 : decode cX6_would 67 = .ok (.iload_n 2, 1) := by decide +kernel
theorem dX6_would_68 : decode cX6_would 68 = .ok (.iadd, 1) := by decide +kernel
theorem dX6_would_69 : decode cX6_would 69 = .ok (.iload_n 3, 1) := by decide +kernel
theorem dX6_would_70 : decode cX6_would 70 = .ok (.iastore, 1) := by decide +kernel
theorem dX6_would_71 : decode cX6_would 71 = .ok (.aload_n 0, 1) := by decide +kernel
theorem dX6_would_72 : decode cX6_would 72 = .ok (.getfield 28, 3) := by decide +kernel
theorem dX6_would_75 : decode cX6_would 75 = .ok (.aload_n 0, 1) := by decide +kernel
theorem dX6_would_76 : decode cX6_would 76 = .ok (.getfield 13, 3) := by decide +kernel
theorem dX6_would_79 : decode cX6_would 79 = .ok (.aload_n 0, 1) := by decide +kernel
theorem dX6_would_80 : decode cX6_would 80 = .ok (.getfield 72, 3) := by decide +kernel
theorem dX6_would_83 : decode cX6_would 83 = .ok (.invokevirtual 199, 3) := by decide +kernel
theorem dX6_would_86 : decode cX6_would 86 = .ok (.aload_n 0, 1) := by decide +kernel
theorem dX6_would_87 : decode cX6_would 87 = .ok (.getfield 13, 3) := by decide +kernel
theorem dX6_would_90 : decode cX6_would 90 = .ok (.getfield 92, 3) := by decide +kernel
theorem dX6_would_93 : decode cX6_would 93 = .ok (.iconst 2, 1) := by decide +kernel
theorem dX6_would_94 : decode cX6_would 94 = .ok (.iload_n 1, 1) := by decide +kernel
theorem dX6_would_95 : decode cX6_would 95 = .ok (.imul, 1) := by decide +kernel
theorem dX6_would_96 : decode cX6_would 96 = .ok (.iload_n 2, 1) := by decide +kernel
theorem dX6_would_97 : decode cX6_would 97 = .ok (.iadd, 1) := by decide +kernel
theorem dX6_would_98 : decode cX6_would 98 = .ok (.iload 5, 2) := by decide +kernel
theorem dX6_would_100 : decode cX6_would 100 = .ok (.iastore, 1) := by decide +kernel
theorem dX6_would_101 : decode cX6_would 101 = .ok (.aload_n 0, 1) := by decide +kernel
theorem dX6_would_102 : decode cX6_would 102 = .ok (.getfield 28, 3) := by decide +kernel
theorem dX6_would_105 : decode cX6_would 105 = .ok (.aload_n 0, 1) := by decide +kernel
theorem dX6_would_106 : decode cX6_would 106 = .ok (.getfield 28, 3) := by decide +kernel
theorem dX6_would_109 : decode cX6_would 109 = .ok (.aload_n 0, 1) := by decide +kernel
theorem dX6_would_110 : decode cX6_would 110 = .ok (.getfield 72, 3) := by decide +kernel
theorem dX6_would_113 : decode cX6_would 113 = .ok (.invokevirtual 175, 3) := by decide +kernel
theorem dX6_would_116 : decode cX6_would 116 = .ok (.iload 4, 2) := by decide +kernel
theorem dX6_would_118 : decode cX6_would 118 = .ok (.invokevirtual 149, 3) := by decide +kernel
theorem dX6_would_121 : decode cX6_would 121 = .ok (.lreturn, 1) := by decide +kernel
theorem dX6_shift_0 : decode cX6_shift 0 = .ok (.aload_n 0, 1) := by decide +kernel
theorem dX6_shift_1 : decode cX6_shift 1 = .ok (.getfield 13, 3) := by decide +kernel
theorem dX6_shift_4 : decode cX6_shift 4 = .ok (.iload_n 1, 1) := by decide +kernel
theorem dX6_shift_5 : decode cX6_shift 5 = .ok (.invokevirtual 79, 3) := by decide +kernel
theorem dX6_shift_8 : decode cX6_shift 8 = .ok (.ifCond .eq 25, 3) := by decide +kernel
theorem dX6_shift_11 : decode cX6_shift 11 = .ok (.iload_n 2, 1) := by decide +kernel
theorem dX6_shift_12 : decode cX6_shift 12 = .ok (.iconst 0, 1) := by decide +kernel
theorem dX6_shift_13 : decode cX6_shift 13 = .ok (.iconst 1, 1) := by decide +kernel
theorem dX6_shift_14 : decode cX6_shift 14 = .ok (.invokestatic 56, 3) := by decide +kernel
theorem dX6_shift_17 : decode cX6_shift 17 = .ok (.ifCond .eq 16, 3) := by decide +kernel
theorem dX6_shift_20 : decode cX6_shift 20 = .ok (.iload_n 3, 1) := by decide +kernel
theorem dX6_shift_21 : decode cX6_shift 21 = .ok (.sipush (-999), 3) := by decide +kernel
theorem dX6_shift_24 : decode cX6_shift 24 = .ok (.sipush 999, 3) := by decide +kernel
theorem dX6_shift_27 : decode cX6_shift 27 = .ok (.invokestatic 56, 3) := by decide +kernel
theorem dX6_shift_30 : decode cX6_shift 30 = .ok (.ifCond .ne 6, 3) := by decide +kernel
theorem dX6_shift_33 : decode cX6_shift 33 = .ok (.ldc 91, 2) := by decide +kernel
theorem dX6_shift_35 : decode cX6_shift 35 = .ok (.ireturn, 1) := by decide +kernel
theorem dX6_shift_36 : decode cX6_shift 36 = .ok (.aload_n 0, 1) := by decide +kernel
theorem dX6_shift_37 : decode cX6_shift 37 = .ok (.getfield 13, 3) := by decide +kernel
theorem dX6_shift_40 : decode cX6_shift 40 = .ok (.getfield 124, 3) := by decide +kernel
theorem dX6_shift_43 : decode cX6_shift 43 = .ok (.iconst 2, 1) := by decide +kernel
theorem dX6_shift_44 : decode cX6_shift 44 = .ok (.iload_n 1, 1) := by decide +kernel
theorem dX6_shift_45 : decode cX6_shift 45 = .ok (.imul, 1) := by decide +kernel
theorem dX6_shift_46 : decode cX6_shift 46 = .ok (.iload_n 2, 1) := by decide +kernel
theorem dX6_shift_47 : decode cX6_shift 47 = .ok (.iadd, 1) := by decide +kernel
theorem dX6_shift_48 : decode cX6_shift 48 = .ok (.iaload, 1) := by decide +kernel
theorem dX6_shift_49 : decode cX6_shift 49 = .ok (.istore 4, 2) := by decide +kernel
theorem dX6_shift_51 : decode cX6_shift 51 = .ok (.aload_n 0, 1) := by decide +kernel
theorem dX6_shift_52 : decode cX6_shift 52 = .ok (.getfield 13, 3) := by decide +kernel
theorem dX6_shift_55 : decode cX6_shift 55 = .ok (.getfield 124, 3) := by decide +kernel
theorem dX6_shift_58 : decode cX6_shift 58 = .ok (.iconst 2, 1) := by decide +kernel
theorem dX6_shift_59 : decode cX6_shift 59 = .ok (.iload_n 1, 1) := by decide +kernel
theorem dX6_shift_60 : decode cX6_shift 60 = .ok (.imul, 1) := by decide +kernel
theorem dX6_shift_61 : decode cX6_shift 61 = .ok (.iload_n 2, 1) := by decide +kernel
theorem dX6_shift_62 : decode cX6_shift 62 = .ok (.iadd, 1) := by decide +kernel
theorem dX6_shift_63 : decode cX6_shift 63 = .ok (.iload_n 3, 1) := by decide +kernel
theorem dX6_shift_64 : decode cX6_shift 64 = .ok (.iastore, 1) := by decide +kernel
theorem dX6_shift_65 : decode cX6_shift 65 = .ok (.iload 4, 2) := by decide +kernel
theorem dX6_shift_67 : decode cX6_shift 67 = .ok (.ireturn, 1) := by decide +kernel
theorem dX6_stretch_0 : decode cX6_stretch 0 = .ok (.aload_n 0, 1) := by decide +kernel
theorem dX6_stretch_1 : decode cX6_stretch 1 = .ok (.getfield 13, 3) := by decide +kernel
theorem dX6_stretch_4 : decode cX6_stretch 4 = .ok (.iload_n 1, 1) := by decide +kernel
theorem dX6_stretch_5 : decode cX6_stretch 5 = .ok (.invokevirtual 95, 3) := by decide +kernel
theorem dX6_stretch_8 : decode cX6_stretch 8 = .ok (.ifCond .eq 10, 3) := by decide +kernel
theorem dX6_stretch_11 : decode cX6_stretch 11 = .ok (.iload_n 2, 1) := by decide +kernel
theorem dX6_stretch_12 : decode cX6_stretch 12 = .ok (.invokestatic 139, 3) := by decide +kernel
theorem dX6_stretch_15 : decode cX6_stretch 15 = .ok (.ifCond .ne 9, 3) := by decide +kernel
theorem dX6_stretch_18 : decode cX6_stretch 18 = .ok (.bipush (-2), 2) := by decide +kernel
theorem dX6_stretch_20 : decode cX6_stretch 20 = .ok (.invokestatic 142, 3) := by decide +kernel
theorem dX6_stretch_23 : decode cX6_stretch 23 = .ok (.lreturn, 1) := by decide +kernel
theorem dX6_stretch_24 : decode cX6_stretch 24 = .ok (.aload_n 0, 1) := by decide +kernel
theorem dX6_stretch_25 : decode cX6_stretch 25 = .ok (.getfield 13, 3) := by decide +kernel
theorem dX6_stretch_28 : decode cX6_stretch 28 = .ok (.iload_n 1, 1) := by decide +kernel
theorem dX6_stretch_29 : decode cX6_stretch 29 = .ok (.invokevirtual 202, 3) := by decide +kernel
theorem dX6_stretch_32 : decode cX6_stretch 32 = .ok (.ldc2_w 205, 3) := by decide +kernel
theorem dX6_stretch_35 : decode cX6_stretch 35 = .ok (.iload_n 2, 1) := by decide +kernel
theorem dX6_stretch_36 : decode cX6_stretch 36 = .ok (.invokestatic 171, 3) := by decide +kernel
theorem dX6_stretch_39 : decode cX6_stretch 39 = .ok (.lreturn, 1) := by decide +kernel
theorem dX6_work_0 : decode cX6_work 0 = .ok (.iload_n 1, 1) := by decide +kernel
theorem dX6_work_1 : decode cX6_work 1 = .ok (.invokestatic 139, 3) := by decide +kernel
theorem dX6_work_4 : decode cX6_work 4 = .ok (.ifCond .ne 9, 3) := by decide +kernel
theorem dX6_work_7 : decode cX6_work 7 = .ok (.bipush (-2), 2) := by decide +kernel
theorem dX6_work_9 : decode cX6_work 9 = .ok (.invokestatic 142, 3) := by decide +kernel
theorem dX6_work_12 : decode cX6_work 12 = .ok (.lreturn, 1) := by decide +kernel
theorem dX6_work_13 : decode cX6_work 13 = .ok (.aload_n 0, 1) := by decide +kernel
theorem dX6_work_14 : decode cX6_work 14 = .ok (.getfield 13, 3) := by decide +kernel
theorem dX6_work_17 : decode cX6_work 17 = .ok (.invokevirtual 207, 3) := by decide +kernel
theorem dX6_work_20 : decode cX6_work 20 = .ok (.ldc2_w 205, 3) := by decide +kernel
theorem dX6_work_23 : decode cX6_work 23 = .ok (.iload_n 1, 1) := by decide +kernel
theorem dX6_work_24 : decode cX6_work 24 = .ok (.invokestatic 171, 3) := by decide +kernel
theorem dX6_work_27 : decode cX6_work 27 = .ok (.lreturn, 1) := by decide +kernel
theorem dX6_proves_0 : decode cX6_proves 0 = .ok (.iconst 0, 1) := by decide +kernel
theorem dX6_proves_1 : decode cX6_proves 1 = .ok (.istore_n 1, 1) := by decide +kernel
theorem dX6_proves_2 : decode cX6_proves 2 = .ok (.iload_n 1, 1) := by decide +kernel
theorem dX6_proves_3 : decode cX6_proves 3 = .ok (.bipush 10, 2) := by decide +kernel
theorem dX6_proves_5 : decode cX6_proves 5 = .ok (.if_icmp .ge 47, 3) := by decide +kernel
theorem dX6_proves_8 : decode cX6_proves 8 = .ok (.aload_n 0, 1) := by decide +kernel
theorem dX6_proves_9 : decode cX6_proves 9 = .ok (.iload_n 1, 1) := by decide +kernel
theorem dX6_proves_10 : decode cX6_proves 10 = .ok (.invokevirtual 136, 3) := by decide +kernel
theorem dX6_proves_13 : decode cX6_proves 13 = .ok (.ifCond .eq 33, 3) := by decide +kernel
theorem dX6_proves_16 : decode cX6_proves 16 = .ok (.aload_n 0, 1) := by decide +kernel
theorem dX6_proves_17 : decode cX6_proves 17 = .ok (.getfield 13, 3) := by decide +kernel
theorem dX6_proves_20 : decode cX6_proves 20 = .ok (.iload_n 1, 1) := by decide +kernel
theorem dX6_proves_21 : decode cX6_proves 21 = .ok (.invokevirtual 202, 3) := by decide +kernel
theorem dX6_proves_24 : decode cX6_proves 24 = .ok (.invokestatic 211, 3) := by decide +kernel
theorem dX6_proves_27 : decode cX6_proves 27 = .ok (.bipush 12, 2) := by decide +kernel
theorem dX6_proves_29 : decode cX6_proves 29 = .ok (.aload_n 0, 1) := by decide +kernel
theorem dX6_proves_30 : decode cX6_proves 30 = .ok (.getfield 13, 3) := by decide +kernel
theorem dX6_proves_33 : decode cX6_proves 33 = .ok (.getfield 133, 3) := by decide +kernel
theorem dX6_proves_36 : decode cX6_proves 36 = .ok (.iload_n 1, 1) := by decide +kernel
theorem dX6_proves_37 : decode cX6_proves 37 = .ok (.iaload, 1) := by decide +kernel
theorem dX6_proves_38 : decode cX6_proves 38 = .ok (.imul, 1) := by decide +kernel
theorem dX6_proves_39 : decode cX6_proves 39 = .ok (.i2l, 1) := by decide +kernel
theorem dX6_proves_40 : decode cX6_proves 40 = .ok (.lcmp, 1) := by decide +kernel
theorem dX6_proves_41 : decode cX6_proves 41 = .ok (.ifCond .le 5, 3) := by decide +kernel
theorem dX6_proves_44 : decode cX6_proves 44 = .ok (.iconst 0, 1) := by decide +kernel
theorem dX6_proves_45 : decode cX6_proves 45 = .ok (.ireturn, 1) := by decide +kernel
theorem dX6_proves_46 : decode cX6_proves 46 = .ok (.iinc 1 1, 3) := by decide +kernel
theorem dX6_proves_49 : decode cX6_proves 49 = .ok (.goto (-47), 3) := by decide +kernel
theorem dX6_proves_52 : decode cX6_proves 52 = .ok (.aload_n 0, 1) := by decide +kernel
theorem dX6_proves_53 : decode cX6_proves 53 = .ok (.invokevirtual 146, 3) := by decide +kernel
theorem dX6_proves_56 : decode cX6_proves 56 = .ok (.istore_n 1, 1) := by decide +kernel
theorem dX6_proves_57 : decode cX6_proves 57 = .ok (.iload_n 1, 1) := by decide +kernel
theorem dX6_proves_58 : decode cX6_proves 58 = .ok (.ifCond .ge 5, 3) := by decide +kernel
theorem dX6_proves_61 : decode cX6_proves 61 = .ok (.iconst 1, 1) := by decide +kernel
theorem dX6_proves_62 : decode cX6_proves 62 = .ok (.ireturn, 1) := by decide +kernel
theorem dX6_proves_63 : decode cX6_proves 63 = .ok (.aload_n 0, 1) := by decide +kernel
theorem dX6_proves_64 : decode cX6_proves 64 = .ok (.getfield 13, 3) := by decide +kernel
theorem dX6_proves_67 : decode cX6_proves 67 = .ok (.invokevirtual 207, 3) := by decide +kernel
theorem dX6_proves_70 : decode cX6_proves 70 = .ok (.aload_n 0, 1) := by decide +kernel
theorem dX6_proves_71 : decode cX6_proves 71 = .ok (.getfield 24, 3) := by decide +kernel
theorem dX6_proves_74 : decode cX6_proves 74 = .ok (.getfield 215, 3) := by decide +kernel
theorem dX6_proves_77 : decode cX6_proves 77 = .ok (.iload_n 1, 1) := by decide +kernel
theorem dX6_proves_78 : decode cX6_proves 78 = .ok (.laload, 1) := by decide +kernel
theorem dX6_proves_79 : decode cX6_proves 79 = .ok (.lmul, 1) := by decide +kernel
theorem dX6_proves_80 : decode cX6_proves 80 = .ok (.ldc2_w 205, 3) := by decide +kernel
theorem dX6_proves_83 : decode cX6_proves 83 = .ok (.aload_n 0, 1) := by decide +kernel
theorem dX6_proves_84 : decode cX6_proves 84 = .ok (.getfield 24, 3) := by decide +kernel
theorem dX6_proves_87 : decode cX6_proves 87 = .ok (.getfield 218, 3) := by decide +kernel
theorem dX6_proves_90 : decode cX6_proves 90 = .ok (.iload_n 1, 1) := by decide +kernel
theorem dX6_proves_91 : decode cX6_proves 91 = .ok (.laload, 1) := by decide +kernel
theorem dX6_proves_92 : decode cX6_proves 92 = .ok (.lmul, 1) := by decide +kernel
theorem dX6_proves_93 : decode cX6_proves 93 = .ok (.lcmp, 1) := by decide +kernel
theorem dX6_proves_94 : decode cX6_proves 94 = .ok (.ifCond .ne 7, 3) := by decide +kernel
theorem dX6_proves_97 : decode cX6_proves 97 = .ok (.iconst 2, 1) := by decide +kernel
theorem dX6_proves_98 : decode cX6_proves 98 = .ok (.goto 4, 3) := by decide +kernel
theorem dX6_proves_101 : decode cX6_proves 101 = .ok (.iconst 1, 1) := by decide +kernel
theorem dX6_proves_102 : decode cX6_proves 102 = .ok (.ireturn, 1) := by decide +kernel
theorem dX6_cross_0 : decode cX6_cross 0 = .ok (.iload_n 1, 1) := by decide +kernel
theorem dX6_cross_1 : decode cX6_cross 1 = .ok (.ifCond .lt 12, 3) := by decide +kernel
theorem dX6_cross_4 : decode cX6_cross 4 = .ok (.iload_n 2, 1) := by decide +kernel
theorem dX6_cross_5 : decode cX6_cross 5 = .ok (.iconst 0, 1) := by decide +kernel
theorem dX6_cross_6 : decode cX6_cross 6 = .ok (.iconst 5, 1) := by decide +kernel
theorem dX6_cross_7 : decode cX6_cross 7 = .ok (.invokestatic 56, 3) := by decide +kernel
theorem dX6_cross_10 : decode cX6_cross 10 = .ok (.ifCond .ne 6, 3) := by decide +kernel
theorem dX6_cross_13 : decode cX6_cross 13 = .ok (.bipush (-2), 2) := by decide +kernel
theorem dX6_cross_15 : decode cX6_cross 15 = .ok (.ireturn, 1) := by decide +kernel
theorem dX6_cross_16 : decode cX6_cross 16 = .ok (.aload_n 0, 1) := by decide +kernel
theorem dX6_cross_17 : decode cX6_cross 17 = .ok (.invokevirtual 191, 3) := by decide +kernel
theorem dX6_cross_20 : decode cX6_cross 20 = .ok (.istore_n 3, 1) := by decide +kernel
theorem dX6_cross_21 : decode cX6_cross 21 = .ok (.iload_n 3, 1) := by decide +kernel
theorem dX6_cross_22 : decode cX6_cross 22 = .ok (.ifCond .ge 6, 3) := by decide +kernel
theorem dX6_cross_25 : decode cX6_cross 25 = .ok (.bipush (-3), 2) := by decide +kernel
theorem dX6_cross_27 : decode cX6_cross 27 = .ok (.ireturn, 1) := by decide +kernel
theorem dX6_cross_28 : decode cX6_cross 28 = .ok (.aload_n 0, 1) := by decide +kernel
theorem dX6_cross_29 : decode cX6_cross 29 = .ok (.getfield 41, 3) := by decide +kernel
theorem dX6_cross_32 : decode cX6_cross 32 = .ok (.aload_n 0, 1) := by decide +kernel
theorem dX6_cross_33 : decode cX6_cross 33 = .ok (.getfield 13, 3) := by decide +kernel
theorem dX6_cross_36 : decode cX6_cross 36 = .ok (.iload_n 3, 1) := by decide +kernel
theorem dX6_cross_37 : decode cX6_cross 37 = .ok (.iload_n 1, 1) := by decide +kernel
theorem dX6_cross_38 : decode cX6_cross 38 = .ok (.invokevirtual 221, 3) := by decide +kernel
theorem dX6_cross_41 : decode cX6_cross 41 = .ok (.iload_n 1, 1) := by decide +kernel
theorem dX6_cross_42 : decode cX6_cross 42 = .ok (.if_icmp .gt 6, 3) := by decide +kernel
theorem dX6_cross_45 : decode cX6_cross 45 = .ok (.bipush (-2), 2) := by decide +kernel
theorem dX6_cross_47 : decode cX6_cross 47 = .ok (.ireturn, 1) := by decide +kernel
theorem dX6_cross_48 : decode cX6_cross 48 = .ok (.iload_n 2, 1) := by decide +kernel
theorem dX6_cross_49 : decode cX6_cross 49 = .ok (.tableswitch 111 0 4 #[35, 43, 51, 71, 91], 35) := by decide +kernel
theorem dX6_cross_84 : decode cX6_cross 84 = .ok (.aload_n 0, 1) := by decide +kernel
theorem dX6_cross_85 : decode cX6_cross 85 = .ok (.getfield 41, 3) := by decide +kernel
theorem dX6_cross_88 : decode cX6_cross 88 = .ok (.getfield 225, 3) := by decide +kernel
theorem dX6_cross_91 : decode cX6_cross 91 = .ok (.ireturn, 1) := by decide +kernel
theorem dX6_cross_92 : decode cX6_cross 92 = .ok (.aload_n 0, 1) := by decide +kernel
theorem dX6_cross_93 : decode cX6_cross 93 = .ok (.getfield 41, 3) := by decide +kernel
theorem dX6_cross_96 : decode cX6_cross 96 = .ok (.getfield 228, 3) := by decide +kernel
theorem dX6_cross_99 : decode cX6_cross 99 = .ok (.ireturn, 1) := by decide +kernel
theorem dX6_cross_100 : decode cX6_cross 100 = .ok (.aload_n 0, 1) := by decide +kernel
theorem dX6_cross_101 : decode cX6_cross 101 = .ok (.getfield 41, 3) := by decide +kernel
theorem dX6_cross_104 : decode cX6_cross 104 = .ok (.getfield 231, 3) := by decide +kernel
theorem dX6_cross_107 : decode cX6_cross 107 = .ok (.aload_n 0, 1) := by decide +kernel
theorem dX6_cross_108 : decode cX6_cross 108 = .ok (.getfield 41, 3) := by decide +kernel
theorem dX6_cross_111 : decode cX6_cross 111 = .ok (.getfield 234, 3) := by decide +kernel
theorem dX6_cross_114 : decode cX6_cross 114 = .ok (.iconst 0, 1) := by decide +kernel
theorem dX6_cross_115 : decode cX6_cross 115 = .ok (.invokestatic 171, 3) := by decide +kernel
theorem dX6_cross_118 : decode cX6_cross 118 = .ok (.l2i, 1) := by decide +kernel
theorem dX6_cross_119 : decode cX6_cross 119 = .ok (.ireturn, 1) := by decide +kernel
theorem dX6_cross_120 : decode cX6_cross 120 = .ok (.aload_n 0, 1) := by decide +kernel
theorem dX6_cross_121 : decode cX6_cross 121 = .ok (.getfield 41, 3) := by decide +kernel
theorem dX6_cross_124 : decode cX6_cross 124 = .ok (.getfield 231, 3) := by decide +kernel
theorem dX6_cross_127 : decode cX6_cross 127 = .ok (.aload_n 0, 1) := by decide +kernel
theorem dX6_cross_128 : decode cX6_cross 128 = .ok (.getfield 41, 3) := by decide +kernel
theorem dX6_cross_131 : decode cX6_cross 131 = .ok (.getfield 234, 3) := by decide +kernel
theorem dX6_cross_134 : decode cX6_cross 134 = .ok (.iconst 1, 1) := by decide +kernel
theorem dX6_cross_135 : decode cX6_cross 135 = .ok (.invokestatic 171, 3) := by decide +kernel
theorem dX6_cross_138 : decode cX6_cross 138 = .ok (.l2i, 1) := by decide +kernel
theorem dX6_cross_139 : decode cX6_cross 139 = .ok (.ireturn, 1) := by decide +kernel
theorem dX6_cross_140 : decode cX6_cross 140 = .ok (.aload_n 0, 1) := by decide +kernel
theorem dX6_cross_141 : decode cX6_cross 141 = .ok (.getfield 41, 3) := by decide +kernel
theorem dX6_cross_144 : decode cX6_cross 144 = .ok (.getfield 236, 3) := by decide +kernel
theorem dX6_cross_147 : decode cX6_cross 147 = .ok (.aload_n 0, 1) := by decide +kernel
theorem dX6_cross_148 : decode cX6_cross 148 = .ok (.getfield 41, 3) := by decide +kernel
theorem dX6_cross_151 : decode cX6_cross 151 = .ok (.getfield 234, 3) := by decide +kernel
theorem dX6_cross_154 : decode cX6_cross 154 = .ok (.iconst 0, 1) := by decide +kernel
theorem dX6_cross_155 : decode cX6_cross 155 = .ok (.invokestatic 171, 3) := by decide +kernel
theorem dX6_cross_158 : decode cX6_cross 158 = .ok (.l2i, 1) := by decide +kernel
theorem dX6_cross_159 : decode cX6_cross 159 = .ok (.ireturn, 1) := by decide +kernel
theorem dX6_cross_160 : decode cX6_cross 160 = .ok (.aload_n 0, 1) := by decide +kernel
theorem dX6_cross_161 : decode cX6_cross 161 = .ok (.getfield 41, 3) := by decide +kernel
theorem dX6_cross_164 : decode cX6_cross 164 = .ok (.getfield 236, 3) := by decide +kernel
theorem dX6_cross_167 : decode cX6_cross 167 = .ok (.aload_n 0, 1) := by decide +kernel
theorem dX6_cross_168 : decode cX6_cross 168 = .ok (.getfield 41, 3) := by decide +kernel
theorem dX6_cross_171 : decode cX6_cross 171 = .ok (.getfield 234, 3) := by decide +kernel
theorem dX6_cross_174 : decode cX6_cross 174 = .ok (.iconst 1, 1) := by decide +kernel
theorem dX6_cross_175 : decode cX6_cross 175 = .ok (.invokestatic 171, 3) := by decide +kernel
theorem dX6_cross_178 : decode cX6_cross 178 = .ok (.l2i, 1) := by decide +kernel
theorem dX6_cross_179 : decode cX6_cross 179 = .ok (.ireturn, 1) := by decide +kernel
theorem dX6_sheet_0 : decode cX6_sheet 0 = .ok (.iload_n 1, 1) := by decide +kernel
theorem dX6_sheet_1 : decode cX6_sheet 1 = .ok (.invokestatic 101, 3) := by decide +kernel
theorem dX6_sheet_4 : decode cX6_sheet 4 = .ok (.ifCond .eq 18, 3) := by decide +kernel
theorem dX6_sheet_7 : decode cX6_sheet 7 = .ok (.iload_n 2, 1) := by decide +kernel
theorem dX6_sheet_8 : decode cX6_sheet 8 = .ok (.iconst 0, 1) := by decide +kernel
theorem dX6_sheet_9 : decode cX6_sheet 9 = .ok (.iconst 1, 1) := by decide +kernel
theorem dX6_sheet_10 : decode cX6_sheet 10 = .ok (.invokestatic 56, 3) := by decide +kernel
theorem dX6_sheet_13 : decode cX6_sheet 13 = .ok (.ifCond .eq 9, 3) := by decide +kernel
theorem dX6_sheet_16 : decode cX6_sheet 16 = .ok (.iload_n 3, 1) := by decide +kernel
theorem dX6_sheet_17 : decode cX6_sheet 17 = .ok (.bipush 40, 2) := by decide +kernel
theorem dX6_sheet_19 : decode cX6_sheet 19 = .ok (.if_icmp .le 6, 3) := by decide +kernel
theorem dX6_sheet_22 : decode cX6_sheet 22 = .ok (.bipush (-2), 2) := by decide +kernel
theorem dX6_sheet_24 : decode cX6_sheet 24 = .ok (.ireturn, 1) := by decide +kernel
theorem dX6_sheet_25 : decode cX6_sheet 25 = .ok (.iload_n 3, 1) := by decide +kernel
theorem dX6_sheet_26 : decode cX6_sheet 26 = .ok (.ifCond .ge 9, 3) := by decide +kernel
theorem dX6_sheet_29 : decode cX6_sheet 29 = .ok (.aload_n 0, 1) := by decide +kernel
theorem dX6_sheet_30 : decode cX6_sheet 30 = .ok (.iconst 5, 1) := by decide +kernel
theorem dX6_sheet_31 : decode cX6_sheet 31 = .ok (.invokevirtual 107, 3) := by decide +kernel
theorem dX6_sheet_34 : decode cX6_sheet 34 = .ok (.ireturn, 1) := by decide +kernel
theorem dX6_sheet_35 : decode cX6_sheet 35 = .ok (.aload_n 0, 1) := by decide +kernel
theorem dX6_sheet_36 : decode cX6_sheet 36 = .ok (.getfield 47, 3) := by decide +kernel
theorem dX6_sheet_39 : decode cX6_sheet 39 = .ok (.iload_n 1, 1) := by decide +kernel
theorem dX6_sheet_40 : decode cX6_sheet 40 = .ok (.aaload, 1) := by decide +kernel
theorem dX6_sheet_41 : decode cX6_sheet 41 = .ok (.iload_n 2, 1) := by decide +kernel
theorem dX6_sheet_42 : decode cX6_sheet 42 = .ok (.iload_n 3, 1) := by decide +kernel
theorem dX6_sheet_43 : decode cX6_sheet 43 = .ok (.invokevirtual 239, 3) := by decide +kernel
theorem dX6_sheet_46 : decode cX6_sheet 46 = .ok (.iload_n 3, 1) := by decide +kernel
theorem dX6_sheet_47 : decode cX6_sheet 47 = .ok (.ireturn, 1) := by decide +kernel
theorem dX6_lose_0 : decode cX6_lose 0 = .ok (.iload_n 1, 1) := by decide +kernel
theorem dX6_lose_1 : decode cX6_lose 1 = .ok (.invokestatic 101, 3) := by decide +kernel
theorem dX6_lose_4 : decode cX6_lose 4 = .ok (.ifCond .ne 6, 3) := by decide +kernel
theorem dX6_lose_7 : decode cX6_lose 7 = .ok (.bipush (-2), 2) := by decide +kernel
theorem dX6_lose_9 : decode cX6_lose 9 = .ok (.ireturn, 1) := by decide +kernel
theorem dX6_lose_10 : decode cX6_lose 10 = .ok (.aload_n 0, 1) := by decide +kernel
theorem dX6_lose_11 : decode cX6_lose 11 = .ok (.getfield 47, 3) := by decide +kernel
theorem dX6_lose_14 : decode cX6_lose 14 = .ok (.iload_n 1, 1) := by decide +kernel
theorem dX6_lose_15 : decode cX6_lose 15 = .ok (.aaload, 1) := by decide +kernel
theorem dX6_lose_16 : decode cX6_lose 16 = .ok (.getfield 104, 3) := by decide +kernel
theorem dX6_lose_19 : decode cX6_lose 19 = .ok (.ifCond .eq 9, 3) := by decide +kernel
theorem dX6_lose_22 : decode cX6_lose 22 = .ok (.aload_n 0, 1) := by decide +kernel
theorem dX6_lose_23 : decode cX6_lose 23 = .ok (.iconst 1, 1) := by decide +kernel
theorem dX6_lose_24 : decode cX6_lose 24 = .ok (.invokevirtual 107, 3) := by decide +kernel
theorem dX6_lose_27 : decode cX6_lose 27 = .ok (.ireturn, 1) := by decide +kernel
theorem dX6_lose_28 : decode cX6_lose 28 = .ok (.aload_n 0, 1) := by decide +kernel
theorem dX6_lose_29 : decode cX6_lose 29 = .ok (.getfield 47, 3) := by decide +kernel
theorem dX6_lose_32 : decode cX6_lose 32 = .ok (.iload_n 1, 1) := by decide +kernel
theorem dX6_lose_33 : decode cX6_lose 33 = .ok (.aaload, 1) := by decide +kernel
theorem dX6_lose_34 : decode cX6_lose 34 = .ok (.iconst 1, 1) := by decide +kernel
theorem dX6_lose_35 : decode cX6_lose 35 = .ok (.putfield 104, 3) := by decide +kernel
theorem dX6_lose_38 : decode cX6_lose 38 = .ok (.aload_n 0, 1) := by decide +kernel
theorem dX6_lose_39 : decode cX6_lose 39 = .ok (.getfield 47, 3) := by decide +kernel
theorem dX6_lose_42 : decode cX6_lose 42 = .ok (.iload_n 1, 1) := by decide +kernel
theorem dX6_lose_43 : decode cX6_lose 43 = .ok (.aaload, 1) := by decide +kernel
theorem dX6_lose_44 : decode cX6_lose 44 = .ok (.getfield 111, 3) := by decide +kernel
theorem dX6_lose_47 : decode cX6_lose 47 = .ok (.ireturn, 1) := by decide +kernel
theorem dX6_put_0 : decode cX6_put 0 = .ok (.iload_n 1, 1) := by decide +kernel
theorem dX6_put_1 : decode cX6_put 1 = .ok (.invokestatic 101, 3) := by decide +kernel
theorem dX6_put_4 : decode cX6_put 4 = .ok (.ifCond .eq 12, 3) := by decide +kernel
theorem dX6_put_7 : decode cX6_put 7 = .ok (.iload_n 2, 1) := by decide +kernel
theorem dX6_put_8 : decode cX6_put 8 = .ok (.iconst 0, 1) := by decide +kernel
theorem dX6_put_9 : decode cX6_put 9 = .ok (.iconst 1, 1) := by decide +kernel
theorem dX6_put_10 : decode cX6_put 10 = .ok (.invokestatic 56, 3) := by decide +kernel
theorem dX6_put_13 : decode cX6_put 13 = .ok (.ifCond .ne 6, 3) := by decide +kernel
theorem dX6_put_16 : decode cX6_put 16 = .ok (.bipush (-2), 2) := by decide +kernel
theorem dX6_put_18 : decode cX6_put 18 = .ok (.ireturn, 1) := by decide +kernel
theorem dX6_put_19 : decode cX6_put 19 = .ok (.aload_n 0, 1) := by decide +kernel
theorem dX6_put_20 : decode cX6_put 20 = .ok (.getfield 47, 3) := by decide +kernel
theorem dX6_put_23 : decode cX6_put 23 = .ok (.iload_n 1, 1) := by decide +kernel
theorem dX6_put_24 : decode cX6_put 24 = .ok (.aaload, 1) := by decide +kernel
theorem dX6_put_25 : decode cX6_put 25 = .ok (.astore 5, 2) := by decide +kernel
theorem dX6_put_27 : decode cX6_put 27 = .ok (.aload 5, 2) := by decide +kernel
theorem dX6_put_29 : decode cX6_put 29 = .ok (.getfield 104, 3) := by decide +kernel
theorem dX6_put_32 : decode cX6_put 32 = .ok (.ifCond .eq 9, 3) := by decide +kernel
theorem dX6_put_35 : decode cX6_put 35 = .ok (.aload_n 0, 1) := by decide +kernel
theorem dX6_put_36 : decode cX6_put 36 = .ok (.iconst 1, 1) := by decide +kernel
theorem dX6_put_37 : decode cX6_put 37 = .ok (.invokevirtual 107, 3) := by decide +kernel
theorem dX6_put_40 : decode cX6_put 40 = .ok (.ireturn, 1) := by decide +kernel
theorem dX6_put_41 : decode cX6_put 41 = .ok (.aload 5, 2) := by decide +kernel
theorem dX6_put_43 : decode cX6_put 43 = .ok (.getfield 243, 3) := by decide +kernel
theorem dX6_put_46 : decode cX6_put 46 = .ok (.iload_n 2, 1) := by decide +kernel
theorem dX6_put_47 : decode cX6_put 47 = .ok (.if_icmp .eq 9, 3) := by decide +kernel
theorem dX6_put_50 : decode cX6_put 50 = .ok (.aload_n 0, 1) := by decide +kernel
theorem dX6_put_51 : decode cX6_put 51 = .ok (.iconst 3, 1) := by decide +kernel
theorem dX6_put_52 : decode cX6_put 52 = .ok (.invokevirtual 107, 3) := by decide +kernel
theorem dX6_put_55 : decode cX6_put 55 = .ok (.ireturn, 1) := by decide +kernel
theorem dX6_put_56 : decode cX6_put 56 = .ok (.iload_n 3, 1) := by decide +kernel
theorem dX6_put_57 : decode cX6_put 57 = .ok (.iconst 0, 1) := by decide +kernel
theorem dX6_put_58 : decode cX6_put 58 = .ok (.aload 5, 2) := by decide +kernel
theorem dX6_put_60 : decode cX6_put 60 = .ok (.getfield 111, 3) := by decide +kernel
theorem dX6_put_63 : decode cX6_put 63 = .ok (.iconst 1, 1) := by decide +kernel
theorem dX6_put_64 : decode cX6_put 64 = .ok (.isub, 1) := by decide +kernel
theorem dX6_put_65 : decode cX6_put 65 = .ok (.invokestatic 56, 3) := by decide +kernel
theorem dX6_put_68 : decode cX6_put 68 = .ok (.ifCond .ne 9, 3) := by decide +kernel
theorem dX6_put_71 : decode cX6_put 71 = .ok (.aload_n 0, 1) := by decide +kernel
theorem dX6_put_72 : decode cX6_put 72 = .ok (.iconst 2, 1) := by decide +kernel
theorem dX6_put_73 : decode cX6_put 73 = .ok (.invokevirtual 107, 3) := by decide +kernel
theorem dX6_put_76 : decode cX6_put 76 = .ok (.ireturn, 1) := by decide +kernel
theorem dX6_put_77 : decode cX6_put 77 = .ok (.iload_n 2, 1) := by decide +kernel
theorem dX6_put_78 : decode cX6_put 78 = .ok (.iconst 1, 1) := by decide +kernel
theorem dX6_put_79 : decode cX6_put 79 = .ok (.if_icmp .ne 22, 3) := by decide +kernel
theorem dX6_put_82 : decode cX6_put 82 = .ok (.iload 4, 2) := by decide +kernel
theorem dX6_put_84 : decode cX6_put 84 = .ok (.ldc 246, 2) := by decide +kernel
theorem dX6_put_86 : decode cX6_put 86 = .ok (.ldc 247, 2) := by decide +kernel
theorem dX6_put_88 : decode cX6_put 88 = .ok (.invokestatic 56, 3) := by decide +kernel
theorem dX6_put_91 : decode cX6_put 91 = .ok (.ifCond .ne 10, 3) := by decide +kernel
theorem dX6_put_94 : decode cX6_put 94 = .ok (.aload_n 0, 1) := by decide +kernel
theorem dX6_put_95 : decode cX6_put 95 = .ok (.bipush 6, 2) := by decide +kernel
theorem dX6_put_97 : decode cX6_put 97 = .ok (.invokevirtual 107, 3) := by decide +kernel
theorem dX6_put_100 : decode cX6_put 100 = .ok (.ireturn, 1) := by decide +kernel
theorem dX6_put_101 : decode cX6_put 101 = .ok (.aload 5, 2) := by decide +kernel
theorem dX6_put_103 : decode cX6_put 103 = .ok (.getfield 117, 3) := by decide +kernel
theorem dX6_put_106 : decode cX6_put 106 = .ok (.iload_n 3, 1) := by decide +kernel
theorem dX6_put_107 : decode cX6_put 107 = .ok (.iload_n 2, 1) := by decide +kernel
theorem dX6_put_108 : decode cX6_put 108 = .ok (.iconst 1, 1) := by decide +kernel
theorem dX6_put_109 : decode cX6_put 109 = .ok (.if_icmp .ne 17, 3) := by decide +kernel
theorem dX6_put_112 : decode cX6_put 112 = .ok (.iload 4, 2) := by decide +kernel
theorem dX6_put_114 : decode cX6_put 114 = .ok (.i2l, 1) := by decide +kernel
theorem dX6_put_115 : decode cX6_put 115 = .ok (.iload 4, 2) := by decide +kernel
theorem dX6_put_117 : decode cX6_put 117 = .ok (.i2l, 1) := by decide +kernel
theorem dX6_put_118 : decode cX6_put 118 = .ok (.lmul, 1) := by decide +kernel
theorem dX6_put_119 : decode cX6_put 119 = .ok (.iload 4, 2) := by decide +kernel
theorem dX6_put_121 : decode cX6_put 121 = .ok (.i2l, 1) := by decide +kernel
theorem dX6_put_122 : decode cX6_put 122 = .ok (.lmul, 1) := by decide +kernel
theorem dX6_put_123 : decode cX6_put 123 = .ok (.goto 6, 3) := by decide +kernel
theorem dX6_put_126 : decode cX6_put 126 = .ok (.iload 4, 2) := by decide +kernel
theorem dX6_put_128 : decode cX6_put 128 = .ok (.i2l, 1) := by decide +kernel
theorem dX6_put_129 : decode cX6_put 129 = .ok (.lastore, 1) := by decide +kernel
theorem dX6_put_130 : decode cX6_put 130 = .ok (.iconst 1, 1) := by decide +kernel
theorem dX6_put_131 : decode cX6_put 131 = .ok (.ireturn, 1) := by decide +kernel
theorem dX6_get_0 : decode cX6_get 0 = .ok (.iload_n 1, 1) := by decide +kernel
theorem dX6_get_1 : decode cX6_get 1 = .ok (.invokestatic 101, 3) := by decide +kernel
theorem dX6_get_4 : decode cX6_get 4 = .ok (.ifCond .ne 9, 3) := by decide +kernel
theorem dX6_get_7 : decode cX6_get 7 = .ok (.bipush (-2), 2) := by decide +kernel
theorem dX6_get_9 : decode cX6_get 9 = .ok (.invokestatic 142, 3) := by decide +kernel
theorem dX6_get_12 : decode cX6_get 12 = .ok (.lreturn, 1) := by decide +kernel
theorem dX6_get_13 : decode cX6_get 13 = .ok (.aload_n 0, 1) := by decide +kernel
theorem dX6_get_14 : decode cX6_get 14 = .ok (.getfield 47, 3) := by decide +kernel
theorem dX6_get_17 : decode cX6_get 17 = .ok (.iload_n 1, 1) := by decide +kernel
theorem dX6_get_18 : decode cX6_get 18 = .ok (.aaload, 1) := by decide +kernel
theorem dX6_get_19 : decode cX6_get 19 = .ok (.astore_n 3, 1) := by decide +kernel
theorem dX6_get_20 : decode cX6_get 20 = .ok (.aload_n 3, 1) := by decide +kernel
theorem dX6_get_21 : decode cX6_get 21 = .ok (.getfield 104, 3) := by decide +kernel
theorem dX6_get_24 : decode cX6_get 24 = .ok (.ifCond .eq 12, 3) := by decide +kernel
theorem dX6_get_27 : decode cX6_get 27 = .ok (.aload_n 0, 1) := by decide +kernel
theorem dX6_get_28 : decode cX6_get 28 = .ok (.iconst 1, 1) := by decide +kernel
theorem dX6_get_29 : decode cX6_get 29 = .ok (.invokevirtual 107, 3) := by decide +kernel
theorem dX6_get_32 : decode cX6_get 32 = .ok (.invokestatic 142, 3) := by decide +kernel
theorem dX6_get_35 : decode cX6_get 35 = .ok (.lreturn, 1) := by decide +kernel
theorem dX6_get_36 : decode cX6_get 36 = .ok (.iload_n 2, 1) := by decide +kernel
theorem dX6_get_37 : decode cX6_get 37 = .ok (.iconst 0, 1) := by decide +kernel
theorem dX6_get_38 : decode cX6_get 38 = .ok (.aload_n 3, 1) := by decide +kernel
theorem dX6_get_39 : decode cX6_get 39 = .ok (.getfield 111, 3) := by decide +kernel
theorem dX6_get_42 : decode cX6_get 42 = .ok (.iconst 1, 1) := by decide +kernel
theorem dX6_get_43 : decode cX6_get 43 = .ok (.isub, 1) := by decide +kernel
theorem dX6_get_44 : decode cX6_get 44 = .ok (.invokestatic 56, 3) := by decide +kernel
theorem dX6_get_47 : decode cX6_get 47 = .ok (.ifCond .ne 12, 3) := by decide +kernel
theorem dX6_get_50 : decode cX6_get 50 = .ok (.aload_n 0, 1) := by decide +kernel
theorem dX6_get_51 : decode cX6_get 51 = .ok (.iconst 2, 1) := by decide +kernel
theorem dX6_get_52 : decode cX6_get 52 = .ok (.invokevirtual 107, 3) := by decide +kernel
theorem dX6_get_55 : decode cX6_get 55 = .ok (.invokestatic 142, 3) := by decide +kernel
theorem dX6_get_58 : decode cX6_get 58 = .ok (.lreturn, 1) := by decide +kernel
theorem dX6_get_59 : decode cX6_get 59 = .ok (.aload_n 3, 1) := by decide +kernel
theorem dX6_get_60 : decode cX6_get 60 = .ok (.getfield 117, 3) := by decide +kernel
theorem dX6_get_63 : decode cX6_get 63 = .ok (.iload_n 2, 1) := by decide +kernel
theorem dX6_get_64 : decode cX6_get 64 = .ok (.laload, 1) := by decide +kernel
theorem dX6_get_65 : decode cX6_get 65 = .ok (.lreturn, 1) := by decide +kernel
theorem dX6_copy_0 : decode cX6_copy 0 = .ok (.iload_n 1, 1) := by decide +kernel
theorem dX6_copy_1 : decode cX6_copy 1 = .ok (.invokestatic 101, 3) := by decide +kernel
theorem dX6_copy_4 : decode cX6_copy 4 = .ok (.ifCond .eq 10, 3) := by decide +kernel
theorem dX6_copy_7 : decode cX6_copy 7 = .ok (.iload_n 3, 1) := by decide +kernel
theorem dX6_copy_8 : decode cX6_copy 8 = .ok (.invokestatic 101, 3) := by decide +kernel
theorem dX6_copy_11 : decode cX6_copy 11 = .ok (.ifCond .ne 6, 3) := by decide +kernel
theorem dX6_copy_14 : decode cX6_copy 14 = .ok (.bipush (-2), 2) := by decide +kernel
theorem dX6_copy_16 : decode cX6_copy 16 = .ok (.ireturn, 1) := by decide +kernel
theorem dX6_copy_17 : decode cX6_copy 17 = .ok (.aload_n 0, 1) := by decide +kernel
theorem dX6_copy_18 : decode cX6_copy 18 = .ok (.getfield 47, 3) := by decide +kernel
theorem dX6_copy_21 : decode cX6_copy 21 = .ok (.iload_n 1, 1) := by decide +kernel
theorem dX6_copy_22 : decode cX6_copy 22 = .ok (.aaload, 1) := by decide +kernel
theorem dX6_copy_23 : decode cX6_copy 23 = .ok (.astore 6, 2) := by decide +kernel
theorem dX6_copy_25 : decode cX6_copy 25 = .ok (.aload_n 0, 1) := by decide +kernel
theorem dX6_copy_26 : decode cX6_copy 26 = .ok (.getfield 47, 3) := by decide +kernel
theorem dX6_copy_29 : decode cX6_copy 29 = .ok (.iload_n 3, 1) := by decide +kernel
theorem dX6_copy_30 : decode cX6_copy 30 = .ok (.aaload, 1) := by decide +kernel
theorem dX6_copy_31 : decode cX6_copy 31 = .ok (.astore 7, 2) := by decide +kernel
theorem dX6_copy_33 : decode cX6_copy 33 = .ok (.aload 6, 2) := by decide +kernel
theorem dX6_copy_35 : decode cX6_copy 35 = .ok (.getfield 104, 3) := by decide +kernel
theorem dX6_copy_38 : decode cX6_copy 38 = .ok (.ifCond .ne 11, 3) := by decide +kernel
theorem dX6_copy_41 : decode cX6_copy 41 = .ok (.aload 7, 2) := by decide +kernel
theorem dX6_copy_43 : decode cX6_copy 43 = .ok (.getfield 104, 3) := by decide +kernel
theorem dX6_copy_46 : decode cX6_copy 46 = .ok (.ifCond .eq 9, 3) := by decide +kernel
theorem dX6_copy_49 : decode cX6_copy 49 = .ok (.aload_n 0, 1) := by decide +kernel
theorem dX6_copy_50 : decode cX6_copy 50 = .ok (.iconst 1, 1) := by decide +kernel
theorem dX6_copy_51 : decode cX6_copy 51 = .ok (.invokevirtual 107, 3) := by decide +kernel
theorem dX6_copy_54 : decode cX6_copy 54 = .ok (.ireturn, 1) := by decide +kernel
theorem dX6_copy_55 : decode cX6_copy 55 = .ok (.aload 6, 2) := by decide +kernel
theorem dX6_copy_57 : decode cX6_copy 57 = .ok (.getfield 243, 3) := by decide +kernel
theorem dX6_copy_60 : decode cX6_copy 60 = .ok (.aload 7, 2) := by decide +kernel
theorem dX6_copy_62 : decode cX6_copy 62 = .ok (.getfield 243, 3) := by decide +kernel
theorem dX6_copy_65 : decode cX6_copy 65 = .ok (.if_icmp .eq 9, 3) := by decide +kernel
theorem dX6_copy_68 : decode cX6_copy 68 = .ok (.aload_n 0, 1) := by decide +kernel
theorem dX6_copy_69 : decode cX6_copy 69 = .ok (.iconst 4, 1) := by decide +kernel
theorem dX6_copy_70 : decode cX6_copy 70 = .ok (.invokevirtual 107, 3) := by decide +kernel
theorem dX6_copy_73 : decode cX6_copy 73 = .ok (.ireturn, 1) := by decide +kernel
theorem dX6_copy_74 : decode cX6_copy 74 = .ok (.aload 6, 2) := by decide +kernel
theorem dX6_copy_76 : decode cX6_copy 76 = .ok (.iload_n 2, 1) := by decide +kernel
theorem dX6_copy_77 : decode cX6_copy 77 = .ok (.iload 5, 2) := by decide +kernel
theorem dX6_copy_79 : decode cX6_copy 79 = .ok (.invokevirtual 248, 3) := by decide +kernel
theorem dX6_copy_82 : decode cX6_copy 82 = .ok (.ifCond .eq 15, 3) := by decide +kernel
theorem dX6_copy_85 : decode cX6_copy 85 = .ok (.aload 7, 2) := by decide +kernel
theorem dX6_copy_87 : decode cX6_copy 87 = .ok (.iload 4, 2) := by decide +kernel
theorem dX6_copy_89 : decode cX6_copy 89 = .ok (.iload 5, 2) := by decide +kernel
theorem dX6_copy_91 : decode cX6_copy 91 = .ok (.invokevirtual 248, 3) := by decide +kernel
theorem dX6_copy_94 : decode cX6_copy 94 = .ok (.ifCond .ne 9, 3) := by decide +kernel
theorem dX6_copy_97 : decode cX6_copy 97 = .ok (.aload_n 0, 1) := by decide +kernel
theorem dX6_copy_98 : decode cX6_copy 98 = .ok (.iconst 2, 1) := by decide +kernel
theorem dX6_copy_99 : decode cX6_copy 99 = .ok (.invokevirtual 107, 3) := by decide +kernel
theorem dX6_copy_102 : decode cX6_copy 102 = .ok (.ireturn, 1) := by decide +kernel
theorem dX6_copy_103 : decode cX6_copy 103 = .ok (.aload 6, 2) := by decide +kernel
theorem dX6_copy_105 : decode cX6_copy 105 = .ok (.getfield 117, 3) := by decide +kernel
theorem dX6_copy_108 : decode cX6_copy 108 = .ok (.iload_n 2, 1) := by decide +kernel
theorem dX6_copy_109 : decode cX6_copy 109 = .ok (.aload 7, 2) := by decide +kernel
theorem dX6_copy_111 : decode cX6_copy 111 = .ok (.getfield 117, 3) := by decide +kernel
theorem dX6_copy_114 : decode cX6_copy 114 = .ok (.iload 4, 2) := by decide +kernel
theorem dX6_copy_116 : decode cX6_copy 116 = .ok (.iload 5, 2) := by decide +kernel
theorem dX6_copy_118 : decode cX6_copy 118 = .ok (.invokestatic 251, 3) := by decide +kernel
theorem dX6_copy_121 : decode cX6_copy 121 = .ok (.iconst 1, 1) := by decide +kernel
theorem dX6_copy_122 : decode cX6_copy 122 = .ok (.ireturn, 1) := by decide +kernel
theorem dX6_write_0 : decode cX6_write 0 = .ok (.iload_n 1, 1) := by decide +kernel
theorem dX6_write_1 : decode cX6_write 1 = .ok (.invokestatic 101, 3) := by decide +kernel
theorem dX6_write_4 : decode cX6_write 4 = .ok (.ifCond .ne 6, 3) := by decide +kernel
theorem dX6_write_7 : decode cX6_write 7 = .ok (.bipush (-2), 2) := by decide +kernel
theorem dX6_write_9 : decode cX6_write 9 = .ok (.ireturn, 1) := by decide +kernel
theorem dX6_write_10 : decode cX6_write 10 = .ok (.aload_n 0, 1) := by decide +kernel
theorem dX6_write_11 : decode cX6_write 11 = .ok (.getfield 47, 3) := by decide +kernel
theorem dX6_write_14 : decode cX6_write 14 = .ok (.iload_n 1, 1) := by decide +kernel
theorem dX6_write_15 : decode cX6_write 15 = .ok (.aaload, 1) := by decide +kernel
theorem dX6_write_16 : decode cX6_write 16 = .ok (.astore_n 2, 1) := by decide +kernel
theorem dX6_write_17 : decode cX6_write 17 = .ok (.aload_n 2, 1) := by decide +kernel
theorem dX6_write_18 : decode cX6_write 18 = .ok (.getfield 104, 3) := by decide +kernel
theorem dX6_write_21 : decode cX6_write 21 = .ok (.ifCond .eq 9, 3) := by decide +kernel
theorem dX6_write_24 : decode cX6_write 24 = .ok (.aload_n 0, 1) := by decide +kernel
theorem dX6_write_25 : decode cX6_write 25 = .ok (.iconst 1, 1) := by decide +kernel
theorem dX6_write_26 : decode cX6_write 26 = .ok (.invokevirtual 107, 3) := by decide +kernel
theorem dX6_write_29 : decode cX6_write 29 = .ok (.ireturn, 1) := by decide +kernel
theorem dX6_write_30 : decode cX6_write 30 = .ok (.aload_n 0, 1) := by decide +kernel
theorem dX6_write_31 : decode cX6_write 31 = .ok (.invokevirtual 191, 3) := by decide +kernel
theorem dX6_write_34 : decode cX6_write 34 = .ok (.istore_n 3, 1) := by decide +kernel
theorem dX6_write_35 : decode cX6_write 35 = .ok (.iload_n 3, 1) := by decide +kernel
theorem dX6_write_36 : decode cX6_write 36 = .ok (.ifCond .ge 6, 3) := by decide +kernel
theorem dX6_write_39 : decode cX6_write 39 = .ok (.bipush (-3), 2) := by decide +kernel
theorem dX6_write_41 : decode cX6_write 41 = .ok (.ireturn, 1) := by decide +kernel
theorem dX6_write_42 : decode cX6_write 42 = .ok (.aload_n 0, 1) := by decide +kernel
theorem dX6_write_43 : decode cX6_write 43 = .ok (.getfield 24, 3) := by decide +kernel
theorem dX6_write_46 : decode cX6_write 46 = .ok (.aload_n 0, 1) := by decide +kernel
theorem dX6_write_47 : decode cX6_write 47 = .ok (.getfield 13, 3) := by decide +kernel
theorem dX6_write_50 : decode cX6_write 50 = .ok (.iload_n 3, 1) := by decide +kernel
theorem dX6_write_51 : decode cX6_write 51 = .ok (.invokevirtual 160, 3) := by decide +kernel
theorem dX6_write_54 : decode cX6_write 54 = .ok (.aload_n 2, 1) := by decide +kernel
theorem dX6_write_55 : decode cX6_write 55 = .ok (.getfield 111, 3) := by decide +kernel
theorem dX6_write_58 : decode cX6_write 58 = .ok (.iconst 2, 1) := by decide +kernel
theorem dX6_write_59 : decode cX6_write 59 = .ok (.aload_n 0, 1) := by decide +kernel
theorem dX6_write_60 : decode cX6_write 60 = .ok (.getfield 13, 3) := by decide +kernel
theorem dX6_write_63 : decode cX6_write 63 = .ok (.invokevirtual 98, 3) := by decide +kernel
theorem dX6_write_66 : decode cX6_write 66 = .ok (.imul, 1) := by decide +kernel
theorem dX6_write_67 : decode cX6_write 67 = .ok (.invokestatic 112, 3) := by decide +kernel
theorem dX6_write_70 : decode cX6_write 70 = .ok (.istore 4, 2) := by decide +kernel
theorem dX6_write_72 : decode cX6_write 72 = .ok (.iconst 0, 1) := by decide +kernel
theorem dX6_write_73 : decode cX6_write 73 = .ok (.istore 5, 2) := by decide +kernel
theorem dX6_write_75 : decode cX6_write 75 = .ok (.iload 5, 2) := by decide +kernel
theorem dX6_write_77 : decode cX6_write 77 = .ok (.iload 4, 2) := by decide +kernel
theorem dX6_write_79 : decode cX6_write 79 = .ok (.if_icmp .ge 60, 3) := by decide +kernel
theorem dX6_write_82 : decode cX6_write 82 = .ok (.aload_n 0, 1) := by decide +kernel
theorem dX6_write_83 : decode cX6_write 83 = .ok (.getfield 24, 3) := by decide +kernel
theorem dX6_write_86 : decode cX6_write 86 = .ok (.getfield 164, 3) := by decide +kernel
theorem dX6_write_89 : decode cX6_write 89 = .ok (.iload 5, 2) := by decide +kernel
theorem dX6_write_91 : decode cX6_write 91 = .ok (.iconst 2, 1) := by decide +kernel
theorem dX6_write_92 : decode cX6_write 92 = .ok (.idiv, 1) := by decide +kernel
theorem dX6_write_93 : decode cX6_write 93 = .ok (.laload, 1) := by decide +kernel
theorem dX6_write_94 : decode cX6_write 94 = .ok (.aload_n 0, 1) := by decide +kernel
theorem dX6_write_95 : decode cX6_write 95 = .ok (.getfield 24, 3) := by decide +kernel
theorem dX6_write_98 : decode cX6_write 98 = .ok (.getfield 167, 3) := by decide +kernel
theorem dX6_write_101 : decode cX6_write 101 = .ok (.iload 5, 2) := by decide +kernel
theorem dX6_write_103 : decode cX6_write 103 = .ok (.iconst 2, 1) := by decide +kernel
theorem dX6_write_104 : decode cX6_write 104 = .ok (.irem, 1) := by decide +kernel
theorem dX6_write_105 : decode cX6_write 105 = .ok (.invokestatic 171, 3) := by decide +kernel
theorem dX6_write_108 : decode cX6_write 108 = .ok (.lstore 6, 2) := by decide +kernel
theorem dX6_write_110 : decode cX6_write 110 = .ok (.aload_n 2, 1) := by decide +kernel
theorem dX6_write_111 : decode cX6_write 111 = .ok (.getfield 117, 3) := by decide +kernel
theorem dX6_write_114 : decode cX6_write 114 = .ok (.iload 5, 2) := by decide +kernel
theorem dX6_write_116 : decode cX6_write 116 = .ok (.aload_n 2, 1) := by decide +kernel
theorem dX6_write_117 : decode cX6_write 117 = .ok (.getfield 243, 3) := by decide +kernel
theorem dX6_write_120 : decode cX6_write 120 = .ok (.ifCond .ne 10, 3) := by decide +kernel
theorem dX6_write_123 : decode cX6_write 123 = .ok (.lload 6, 2) := by decide +kernel
theorem dX6_write_125 : decode cX6_write 125 = .ok (.l2i, 1) := by decide +kernel
theorem dX6_write_126 : decode cX6_write 126 = .ok (.i2l, 1) := by decide +kernel
theorem dX6_write_127 : decode cX6_write 127 = .ok (.goto 5, 3) := by decide +kernel
theorem dX6_write_130 : decode cX6_write 130 = .ok (.lload 6, 2) := by decide +kernel
theorem dX6_write_132 : decode cX6_write 132 = .ok (.lastore, 1) := by decide +kernel
theorem dX6_write_133 : decode cX6_write 133 = .ok (.iinc 5 1, 3) := by decide +kernel
theorem dX6_write_136 : decode cX6_write 136 = .ok (.goto (-61), 3) := by decide +kernel
theorem dX6_write_139 : decode cX6_write 139 = .ok (.iload 4, 2) := by decide +kernel
theorem dX6_write_141 : decode cX6_write 141 = .ok (.ireturn, 1) := by decide +kernel
theorem dX6_count_0 : decode cX6_count 0 = .ok (.iload_n 1, 1) := by decide +kernel
theorem dX6_count_1 : decode cX6_count 1 = .ok (.tableswitch 119 0 8 #[51, 59, 67, 75, 83, 91, 104, 109, 114], 51) := by decide +kernel
theorem dX6_count_52 : decode cX6_count 52 = .ok (.aload_n 0, 1) := by decide +kernel
theorem dX6_count_53 : decode cX6_count 53 = .ok (.getfield 13, 3) := by decide +kernel
theorem dX6_count_56 : decode cX6_count 56 = .ok (.getfield 64, 3) := by decide +kernel
theorem dX6_count_59 : decode cX6_count 59 = .ok (.ireturn, 1) := by decide +kernel
theorem dX6_count_60 : decode cX6_count 60 = .ok (.aload_n 0, 1) := by decide +kernel
theorem dX6_count_61 : decode cX6_count 61 = .ok (.getfield 72, 3) := by decide +kernel
theorem dX6_count_64 : decode cX6_count 64 = .ok (.invokestatic 194, 3) := by decide +kernel
theorem dX6_count_67 : decode cX6_count 67 = .ok (.ireturn, 1) := by decide +kernel
theorem dX6_count_68 : decode cX6_count 68 = .ok (.aload_n 0, 1) := by decide +kernel
theorem dX6_count_69 : decode cX6_count 69 = .ok (.getfield 13, 3) := by decide +kernel
theorem dX6_count_72 : decode cX6_count 72 = .ok (.invokevirtual 257, 3) := by decide +kernel
theorem dX6_count_75 : decode cX6_count 75 = .ok (.ireturn, 1) := by decide +kernel
theorem dX6_count_76 : decode cX6_count 76 = .ok (.aload_n 0, 1) := by decide +kernel
theorem dX6_count_77 : decode cX6_count 77 = .ok (.invokevirtual 191, 3) := by decide +kernel
theorem dX6_count_80 : decode cX6_count 80 = .ok (.invokestatic 260, 3) := by decide +kernel
theorem dX6_count_83 : decode cX6_count 83 = .ok (.ireturn, 1) := by decide +kernel
theorem dX6_count_84 : decode cX6_count 84 = .ok (.aload_n 0, 1) := by decide +kernel
theorem dX6_count_85 : decode cX6_count 85 = .ok (.invokevirtual 181, 3) := by decide +kernel
theorem dX6_count_88 : decode cX6_count 88 = .ok (.invokestatic 260, 3) := by decide +kernel
theorem dX6_count_91 : decode cX6_count 91 = .ok (.ireturn, 1) := by decide +kernel
theorem dX6_count_92 : decode cX6_count 92 = .ok (.aload_n 0, 1) := by decide +kernel
theorem dX6_count_93 : decode cX6_count 93 = .ok (.invokevirtual 191, 3) := by decide +kernel
theorem dX6_count_96 : decode cX6_count 96 = .ok (.ifCond .ge 7, 3) := by decide +kernel
theorem dX6_count_99 : decode cX6_count 99 = .ok (.iconst 0, 1) := by decide +kernel
theorem dX6_count_100 : decode cX6_count 100 = .ok (.goto 4, 3) := by decide +kernel
theorem dX6_count_103 : decode cX6_count 103 = .ok (.iconst 1, 1) := by decide +kernel
theorem dX6_count_104 : decode cX6_count 104 = .ok (.ireturn, 1) := by decide +kernel
theorem dX6_count_105 : decode cX6_count 105 = .ok (.aload_n 0, 1) := by decide +kernel
theorem dX6_count_106 : decode cX6_count 106 = .ok (.invokevirtual 263, 3) := by decide +kernel
theorem dX6_count_109 : decode cX6_count 109 = .ok (.ireturn, 1) := by decide +kernel
theorem dX6_count_110 : decode cX6_count 110 = .ok (.aload_n 0, 1) := by decide +kernel
theorem dX6_count_111 : decode cX6_count 111 = .ok (.invokevirtual 266, 3) := by decide +kernel
theorem dX6_count_114 : decode cX6_count 114 = .ok (.ireturn, 1) := by decide +kernel
theorem dX6_count_115 : decode cX6_count 115 = .ok (.aload_n 0, 1) := by decide +kernel
theorem dX6_count_116 : decode cX6_count 116 = .ok (.getfield 269, 3) := by decide +kernel
theorem dX6_count_119 : decode cX6_count 119 = .ok (.ireturn, 1) := by decide +kernel
theorem dX6_count_120 : decode cX6_count 120 = .ok (.bipush (-2), 2) := by decide +kernel
theorem dX6_count_122 : decode cX6_count 122 = .ok (.ireturn, 1) := by decide +kernel
theorem dX6_digest_0 : decode cX6_digest 0 = .ok (.ldc2_w 272, 3) := by decide +kernel
theorem dX6_digest_3 : decode cX6_digest 3 = .ok (.lstore_n 1, 1) := by decide +kernel
theorem dX6_digest_4 : decode cX6_digest 4 = .ok (.iconst 0, 1) := by decide +kernel
theorem dX6_digest_5 : decode cX6_digest 5 = .ok (.istore_n 3, 1) := by decide +kernel
theorem dX6_digest_6 : decode cX6_digest 6 = .ok (.iload_n 3, 1) := by decide +kernel
theorem dX6_digest_7 : decode cX6_digest 7 = .ok (.bipush 7, 2) := by decide +kernel
theorem dX6_digest_9 : decode cX6_digest 9 = .ok (.if_icmp .gt 22, 3) := by decide +kernel
theorem dX6_digest_12 : decode cX6_digest 12 = .ok (.ldc2_w 274, 3) := by decide +kernel
theorem dX6_digest_15 : decode cX6_digest 15 = .ok (.lload_n 1, 1) := by decide +kernel
theorem dX6_digest_16 : decode cX6_digest 16 = .ok (.lmul, 1) := by decide +kernel
theorem dX6_digest_17 : decode cX6_digest 17 = .ok (.aload_n 0, 1) := by decide +kernel
theorem dX6_digest_18 : decode cX6_digest 18 = .ok (.iload_n 3, 1) := by decide +kernel
theorem dX6_digest_19 : decode cX6_digest 19 = .ok (.invokevirtual 276, 3) := by decide +kernel
theorem dX6_digest_22 : decode cX6_digest 22 = .ok (.i2l, 1) := by decide +kernel
theorem dX6_digest_23 : decode cX6_digest 23 = .ok (.ladd, 1) := by decide +kernel
theorem dX6_digest_24 : decode cX6_digest 24 = .ok (.lstore_n 1, 1) := by decide +kernel
theorem dX6_digest_25 : decode cX6_digest 25 = .ok (.iinc 3 1, 3) := by decide +kernel
theorem dX6_digest_28 : decode cX6_digest 28 = .ok (.goto (-22), 3) := by decide +kernel
theorem dX6_digest_31 : decode cX6_digest 31 = .ok (.ldc2_w 274, 3) := by decide +kernel
theorem dX6_digest_34 : decode cX6_digest 34 = .ok (.lload_n 1, 1) := by decide +kernel
theorem dX6_digest_35 : decode cX6_digest 35 = .ok (.lmul, 1) := by decide +kernel
theorem dX6_digest_36 : decode cX6_digest 36 = .ok (.aload_n 0, 1) := by decide +kernel
theorem dX6_digest_37 : decode cX6_digest 37 = .ok (.iconst 0, 1) := by decide +kernel
theorem dX6_digest_38 : decode cX6_digest 38 = .ok (.invokevirtual 279, 3) := by decide +kernel
theorem dX6_digest_41 : decode cX6_digest 41 = .ok (.ladd, 1) := by decide +kernel
theorem dX6_digest_42 : decode cX6_digest 42 = .ok (.lstore_n 1, 1) := by decide +kernel
theorem dX6_digest_43 : decode cX6_digest 43 = .ok (.ldc2_w 274, 3) := by decide +kernel
theorem dX6_digest_46 : decode cX6_digest 46 = .ok (.lload_n 1, 1) := by decide +kernel
theorem dX6_digest_47 : decode cX6_digest 47 = .ok (.lmul, 1) := by decide +kernel
theorem dX6_digest_48 : decode cX6_digest 48 = .ok (.aload_n 0, 1) := by decide +kernel
theorem dX6_digest_49 : decode cX6_digest 49 = .ok (.iconst 1, 1) := by decide +kernel
theorem dX6_digest_50 : decode cX6_digest 50 = .ok (.invokevirtual 279, 3) := by decide +kernel
theorem dX6_digest_53 : decode cX6_digest 53 = .ok (.ladd, 1) := by decide +kernel
theorem dX6_digest_54 : decode cX6_digest 54 = .ok (.lstore_n 1, 1) := by decide +kernel
theorem dX6_digest_55 : decode cX6_digest 55 = .ok (.ldc2_w 274, 3) := by decide +kernel
theorem dX6_digest_58 : decode cX6_digest 58 = .ok (.lload_n 1, 1) := by decide +kernel
theorem dX6_digest_59 : decode cX6_digest 59 = .ok (.lmul, 1) := by decide +kernel
theorem dX6_digest_60 : decode cX6_digest 60 = .ok (.aload_n 0, 1) := by decide +kernel
theorem dX6_digest_61 : decode cX6_digest 61 = .ok (.invokevirtual 282, 3) := by decide +kernel
theorem dX6_digest_64 : decode cX6_digest 64 = .ok (.i2l, 1) := by decide +kernel
theorem dX6_digest_65 : decode cX6_digest 65 = .ok (.ladd, 1) := by decide +kernel
theorem dX6_digest_66 : decode cX6_digest 66 = .ok (.lstore_n 1, 1) := by decide +kernel
theorem dX6_digest_67 : decode cX6_digest 67 = .ok (.ldc2_w 274, 3) := by decide +kernel
theorem dX6_digest_70 : decode cX6_digest 70 = .ok (.lload_n 1, 1) := by decide +kernel
theorem dX6_digest_71 : decode cX6_digest 71 = .ok (.lmul, 1) := by decide +kernel
theorem dX6_digest_72 : decode cX6_digest 72 = .ok (.aload_n 0, 1) := by decide +kernel
theorem dX6_digest_73 : decode cX6_digest 73 = .ok (.invokevirtual 191, 3) := by decide +kernel
theorem dX6_digest_76 : decode cX6_digest 76 = .ok (.i2l, 1) := by decide +kernel
theorem dX6_digest_77 : decode cX6_digest 77 = .ok (.ladd, 1) := by decide +kernel
theorem dX6_digest_78 : decode cX6_digest 78 = .ok (.lstore_n 1, 1) := by decide +kernel
theorem dX6_digest_79 : decode cX6_digest 79 = .ok (.ldc2_w 274, 3) := by decide +kernel
theorem dX6_digest_82 : decode cX6_digest 82 = .ok (.lload_n 1, 1) := by decide +kernel
theorem dX6_digest_83 : decode cX6_digest 83 = .ok (.lmul, 1) := by decide +kernel
theorem dX6_digest_84 : decode cX6_digest 84 = .ok (.aload_n 0, 1) := by decide +kernel
theorem dX6_digest_85 : decode cX6_digest 85 = .ok (.invokevirtual 181, 3) := by decide +kernel
theorem dX6_digest_88 : decode cX6_digest 88 = .ok (.i2l, 1) := by decide +kernel
theorem dX6_digest_89 : decode cX6_digest 89 = .ok (.ladd, 1) := by decide +kernel
theorem dX6_digest_90 : decode cX6_digest 90 = .ok (.lstore_n 1, 1) := by decide +kernel
theorem dX6_digest_91 : decode cX6_digest 91 = .ok (.ldc2_w 274, 3) := by decide +kernel
theorem dX6_digest_94 : decode cX6_digest 94 = .ok (.lload_n 1, 1) := by decide +kernel
theorem dX6_digest_95 : decode cX6_digest 95 = .ok (.lmul, 1) := by decide +kernel
theorem dX6_digest_96 : decode cX6_digest 96 = .ok (.aload_n 0, 1) := by decide +kernel
theorem dX6_digest_97 : decode cX6_digest 97 = .ok (.invokevirtual 285, 3) := by decide +kernel
theorem dX6_digest_100 : decode cX6_digest 100 = .ok (.i2l, 1) := by decide +kernel
theorem dX6_digest_101 : decode cX6_digest 101 = .ok (.ladd, 1) := by decide +kernel
theorem dX6_digest_102 : decode cX6_digest 102 = .ok (.lstore_n 1, 1) := by decide +kernel
theorem dX6_digest_103 : decode cX6_digest 103 = .ok (.iconst 0, 1) := by decide +kernel
theorem dX6_digest_104 : decode cX6_digest 104 = .ok (.istore_n 3, 1) := by decide +kernel
theorem dX6_digest_105 : decode cX6_digest 105 = .ok (.iload_n 3, 1) := by decide +kernel
theorem dX6_digest_106 : decode cX6_digest 106 = .ok (.aload_n 0, 1) := by decide +kernel
theorem dX6_digest_107 : decode cX6_digest 107 = .ok (.getfield 13, 3) := by decide +kernel
theorem dX6_digest_110 : decode cX6_digest 110 = .ok (.getfield 64, 3) := by decide +kernel
theorem dX6_digest_113 : decode cX6_digest 113 = .ok (.if_icmp .ge 40, 3) := by decide +kernel
theorem dX6_digest_116 : decode cX6_digest 116 = .ok (.iconst 0, 1) := by decide +kernel
theorem dX6_digest_117 : decode cX6_digest 117 = .ok (.istore 4, 2) := by decide +kernel
theorem dX6_digest_119 : decode cX6_digest 119 = .ok (.iload 4, 2) := by decide +kernel
theorem dX6_digest_121 : decode cX6_digest 121 = .ok (.bipush 6, 2) := by decide +kernel
theorem dX6_digest_123 : decode cX6_digest 123 = .ok (.if_icmp .gt 24, 3) := by decide +kernel
theorem dX6_digest_126 : decode cX6_digest 126 = .ok (.ldc2_w 274, 3) := by decide +kernel
theorem dX6_digest_129 : decode cX6_digest 129 = .ok (.lload_n 1, 1) := by decide +kernel
theorem dX6_digest_130 : decode cX6_digest 130 = .ok (.lmul, 1) := by decide +kernel
theorem dX6_digest_131 : decode cX6_digest 131 = .ok (.aload_n 0, 1) := by decide +kernel
theorem dX6_digest_132 : decode cX6_digest 132 = .ok (.iload_n 3, 1) := by decide +kernel
theorem dX6_digest_133 : decode cX6_digest 133 = .ok (.iload 4, 2) := by decide +kernel
theorem dX6_digest_135 : decode cX6_digest 135 = .ok (.invokevirtual 288, 3) := by decide +kernel
theorem dX6_digest_138 : decode cX6_digest 138 = .ok (.i2l, 1) := by decide +kernel
theorem dX6_digest_139 : decode cX6_digest 139 = .ok (.ladd, 1) := by decide +kernel
theorem dX6_digest_140 : decode cX6_digest 140 = .ok (.lstore_n 1, 1) := by decide +kernel
theorem dX6_digest_141 : decode cX6_digest 141 = .ok (.iinc 4 1, 3) := by decide +kernel
theorem dX6_digest_144 : decode cX6_digest 144 = .ok (.goto (-25), 3) := by decide +kernel
theorem dX6_digest_147 : decode cX6_digest 147 = .ok (.iinc 3 1, 3) := by decide +kernel
theorem dX6_digest_150 : decode cX6_digest 150 = .ok (.goto (-45), 3) := by decide +kernel
theorem dX6_digest_153 : decode cX6_digest 153 = .ok (.iconst 0, 1) := by decide +kernel
theorem dX6_digest_154 : decode cX6_digest 154 = .ok (.istore_n 3, 1) := by decide +kernel
theorem dX6_digest_155 : decode cX6_digest 155 = .ok (.iload_n 3, 1) := by decide +kernel
theorem dX6_digest_156 : decode cX6_digest 156 = .ok (.aload_n 0, 1) := by decide +kernel
theorem dX6_digest_157 : decode cX6_digest 157 = .ok (.getfield 13, 3) := by decide +kernel
theorem dX6_digest_160 : decode cX6_digest 160 = .ok (.invokevirtual 98, 3) := by decide +kernel
theorem dX6_digest_163 : decode cX6_digest 163 = .ok (.if_icmp .ge 16, 3) := by decide +kernel
theorem dX6_digest_166 : decode cX6_digest 166 = .ok (.aload_n 0, 1) := by decide +kernel
theorem dX6_digest_167 : decode cX6_digest 167 = .ok (.lload_n 1, 1) := by decide +kernel
theorem dX6_digest_168 : decode cX6_digest 168 = .ok (.iload_n 3, 1) := by decide +kernel
theorem dX6_digest_169 : decode cX6_digest 169 = .ok (.invokevirtual 291, 3) := by decide +kernel
theorem dX6_digest_172 : decode cX6_digest 172 = .ok (.lstore_n 1, 1) := by decide +kernel
theorem dX6_digest_173 : decode cX6_digest 173 = .ok (.iinc 3 1, 3) := by decide +kernel
theorem dX6_digest_176 : decode cX6_digest 176 = .ok (.goto (-21), 3) := by decide +kernel
theorem dX6_digest_179 : decode cX6_digest 179 = .ok (.ldc2_w 274, 3) := by decide +kernel
theorem dX6_digest_182 : decode cX6_digest 182 = .ok (.lload_n 1, 1) := by decide +kernel
theorem dX6_digest_183 : decode cX6_digest 183 = .ok (.lmul, 1) := by decide +kernel
theorem dX6_digest_184 : decode cX6_digest 184 = .ok (.aload_n 0, 1) := by decide +kernel
theorem dX6_digest_185 : decode cX6_digest 185 = .ok (.iconst 0, 1) := by decide +kernel
theorem dX6_digest_186 : decode cX6_digest 186 = .ok (.invokevirtual 295, 3) := by decide +kernel
theorem dX6_digest_189 : decode cX6_digest 189 = .ok (.ladd, 1) := by decide +kernel
theorem dX6_digest_190 : decode cX6_digest 190 = .ok (.lstore_n 1, 1) := by decide +kernel
theorem dX6_digest_191 : decode cX6_digest 191 = .ok (.ldc2_w 274, 3) := by decide +kernel
theorem dX6_digest_194 : decode cX6_digest 194 = .ok (.lload_n 1, 1) := by decide +kernel
theorem dX6_digest_195 : decode cX6_digest 195 = .ok (.lmul, 1) := by decide +kernel
theorem dX6_digest_196 : decode cX6_digest 196 = .ok (.aload_n 0, 1) := by decide +kernel
theorem dX6_digest_197 : decode cX6_digest 197 = .ok (.iconst 1, 1) := by decide +kernel
theorem dX6_digest_198 : decode cX6_digest 198 = .ok (.invokevirtual 295, 3) := by decide +kernel
theorem dX6_digest_201 : decode cX6_digest 201 = .ok (.ladd, 1) := by decide +kernel
theorem dX6_digest_202 : decode cX6_digest 202 = .ok (.lstore_n 1, 1) := by decide +kernel
theorem dX6_digest_203 : decode cX6_digest 203 = .ok (.aload_n 0, 1) := by decide +kernel
theorem dX6_digest_204 : decode cX6_digest 204 = .ok (.invokevirtual 263, 3) := by decide +kernel
theorem dX6_digest_207 : decode cX6_digest 207 = .ok (.istore_n 3, 1) := by decide +kernel
theorem dX6_digest_208 : decode cX6_digest 208 = .ok (.iconst 0, 1) := by decide +kernel
theorem dX6_digest_209 : decode cX6_digest 209 = .ok (.istore 4, 2) := by decide +kernel
theorem dX6_digest_211 : decode cX6_digest 211 = .ok (.iload 4, 2) := by decide +kernel
theorem dX6_digest_213 : decode cX6_digest 213 = .ok (.iload_n 3, 1) := by decide +kernel
theorem dX6_digest_214 : decode cX6_digest 214 = .ok (.if_icmp .ge 40, 3) := by decide +kernel
theorem dX6_digest_217 : decode cX6_digest 217 = .ok (.iconst 0, 1) := by decide +kernel
theorem dX6_digest_218 : decode cX6_digest 218 = .ok (.istore 5, 2) := by decide +kernel
theorem dX6_digest_220 : decode cX6_digest 220 = .ok (.iload 5, 2) := by decide +kernel
theorem dX6_digest_222 : decode cX6_digest 222 = .ok (.iconst 5, 1) := by decide +kernel
theorem dX6_digest_223 : decode cX6_digest 223 = .ok (.if_icmp .gt 25, 3) := by decide +kernel
theorem dX6_digest_226 : decode cX6_digest 226 = .ok (.ldc2_w 274, 3) := by decide +kernel
theorem dX6_digest_229 : decode cX6_digest 229 = .ok (.lload_n 1, 1) := by decide +kernel
theorem dX6_digest_230 : decode cX6_digest 230 = .ok (.lmul, 1) := by decide +kernel
theorem dX6_digest_231 : decode cX6_digest 231 = .ok (.aload_n 0, 1) := by decide +kernel
theorem dX6_digest_232 : decode cX6_digest 232 = .ok (.iload 4, 2) := by decide +kernel
theorem dX6_digest_234 : decode cX6_digest 234 = .ok (.iload 5, 2) := by decide +kernel
theorem dX6_digest_236 : decode cX6_digest 236 = .ok (.invokevirtual 298, 3) := by decide +kernel
theorem dX6_digest_239 : decode cX6_digest 239 = .ok (.i2l, 1) := by decide +kernel
theorem dX6_digest_240 : decode cX6_digest 240 = .ok (.ladd, 1) := by decide +kernel
theorem dX6_digest_241 : decode cX6_digest 241 = .ok (.lstore_n 1, 1) := by decide +kernel
theorem dX6_digest_242 : decode cX6_digest 242 = .ok (.iinc 5 1, 3) := by decide +kernel
theorem dX6_digest_245 : decode cX6_digest 245 = .ok (.goto (-25), 3) := by decide +kernel
theorem dX6_digest_248 : decode cX6_digest 248 = .ok (.iinc 4 1, 3) := by decide +kernel
theorem dX6_digest_251 : decode cX6_digest 251 = .ok (.goto (-40), 3) := by decide +kernel
theorem dX6_digest_254 : decode cX6_digest 254 = .ok (.lload_n 1, 1) := by decide +kernel
theorem dX6_digest_255 : decode cX6_digest 255 = .ok (.lreturn, 1) := by decide +kernel
theorem dX6_digestPair_0 : decode cX6_digestPair 0 = .ok (.lload_n 1, 1) := by decide +kernel
theorem dX6_digestPair_1 : decode cX6_digestPair 1 = .ok (.lstore 4, 2) := by decide +kernel
theorem dX6_digestPair_3 : decode cX6_digestPair 3 = .ok (.iconst 0, 1) := by decide +kernel
theorem dX6_digestPair_4 : decode cX6_digestPair 4 = .ok (.istore 6, 2) := by decide +kernel
theorem dX6_digestPair_6 : decode cX6_digestPair 6 = .ok (.iload 6, 2) := by decide +kernel
theorem dX6_digestPair_8 : decode cX6_digestPair 8 = .ok (.iconst 3, 1) := by decide +kernel
theorem dX6_digestPair_9 : decode cX6_digestPair 9 = .ok (.if_icmp .gt 26, 3) := by decide +kernel
theorem dX6_digestPair_12 : decode cX6_digestPair 12 = .ok (.ldc2_w 274, 3) := by decide +kernel
theorem dX6_digestPair_15 : decode cX6_digestPair 15 = .ok (.lload 4, 2) := by decide +kernel
theorem dX6_digestPair_17 : decode cX6_digestPair 17 = .ok (.lmul, 1) := by decide +kernel
theorem dX6_digestPair_18 : decode cX6_digestPair 18 = .ok (.aload_n 0, 1) := by decide +kernel
theorem dX6_digestPair_19 : decode cX6_digestPair 19 = .ok (.iload_n 3, 1) := by decide +kernel
theorem dX6_digestPair_20 : decode cX6_digestPair 20 = .ok (.iload 6, 2) := by decide +kernel
theorem dX6_digestPair_22 : decode cX6_digestPair 22 = .ok (.invokevirtual 301, 3) := by decide +kernel
theorem dX6_digestPair_25 : decode cX6_digestPair 25 = .ok (.i2l, 1) := by decide +kernel
theorem dX6_digestPair_26 : decode cX6_digestPair 26 = .ok (.ladd, 1) := by decide +kernel
theorem dX6_digestPair_27 : decode cX6_digestPair 27 = .ok (.lstore 4, 2) := by decide +kernel
theorem dX6_digestPair_29 : decode cX6_digestPair 29 = .ok (.iinc 6 1, 3) := by decide +kernel
theorem dX6_digestPair_32 : decode cX6_digestPair 32 = .ok (.goto (-26), 3) := by decide +kernel
theorem dX6_digestPair_35 : decode cX6_digestPair 35 = .ok (.ldc2_w 274, 3) := by decide +kernel
theorem dX6_digestPair_38 : decode cX6_digestPair 38 = .ok (.lload 4, 2) := by decide +kernel
theorem dX6_digestPair_40 : decode cX6_digestPair 40 = .ok (.lmul, 1) := by decide +kernel
theorem dX6_digestPair_41 : decode cX6_digestPair 41 = .ok (.aload_n 0, 1) := by decide +kernel
theorem dX6_digestPair_42 : decode cX6_digestPair 42 = .ok (.iload_n 3, 1) := by decide +kernel
theorem dX6_digestPair_43 : decode cX6_digestPair 43 = .ok (.iconst 0, 1) := by decide +kernel
theorem dX6_digestPair_44 : decode cX6_digestPair 44 = .ok (.invokevirtual 304, 3) := by decide +kernel
theorem dX6_digestPair_47 : decode cX6_digestPair 47 = .ok (.ladd, 1) := by decide +kernel
theorem dX6_digestPair_48 : decode cX6_digestPair 48 = .ok (.lstore 4, 2) := by decide +kernel
theorem dX6_digestPair_50 : decode cX6_digestPair 50 = .ok (.ldc2_w 274, 3) := by decide +kernel
theorem dX6_digestPair_53 : decode cX6_digestPair 53 = .ok (.lload 4, 2) := by decide +kernel
theorem dX6_digestPair_55 : decode cX6_digestPair 55 = .ok (.lmul, 1) := by decide +kernel
theorem dX6_digestPair_56 : decode cX6_digestPair 56 = .ok (.aload_n 0, 1) := by decide +kernel
theorem dX6_digestPair_57 : decode cX6_digestPair 57 = .ok (.iload_n 3, 1) := by decide +kernel
theorem dX6_digestPair_58 : decode cX6_digestPair 58 = .ok (.iconst 1, 1) := by decide +kernel
theorem dX6_digestPair_59 : decode cX6_digestPair 59 = .ok (.invokevirtual 304, 3) := by decide +kernel
theorem dX6_digestPair_62 : decode cX6_digestPair 62 = .ok (.ladd, 1) := by decide +kernel
theorem dX6_digestPair_63 : decode cX6_digestPair 63 = .ok (.lstore 4, 2) := by decide +kernel
theorem dX6_digestPair_65 : decode cX6_digestPair 65 = .ok (.ldc2_w 274, 3) := by decide +kernel
theorem dX6_digestPair_68 : decode cX6_digestPair 68 = .ok (.lload 4, 2) := by decide +kernel
theorem dX6_digestPair_70 : decode cX6_digestPair 70 = .ok (.lmul, 1) := by decide +kernel
theorem dX6_digestPair_71 : decode cX6_digestPair 71 = .ok (.aload_n 0, 1) := by decide +kernel
theorem dX6_digestPair_72 : decode cX6_digestPair 72 = .ok (.iload_n 3, 1) := by decide +kernel
theorem dX6_digestPair_73 : decode cX6_digestPair 73 = .ok (.iconst 0, 1) := by decide +kernel
theorem dX6_digestPair_74 : decode cX6_digestPair 74 = .ok (.invokevirtual 307, 3) := by decide +kernel
theorem dX6_digestPair_77 : decode cX6_digestPair 77 = .ok (.ladd, 1) := by decide +kernel
theorem dX6_digestPair_78 : decode cX6_digestPair 78 = .ok (.lstore 4, 2) := by decide +kernel
theorem dX6_digestPair_80 : decode cX6_digestPair 80 = .ok (.ldc2_w 274, 3) := by decide +kernel
theorem dX6_digestPair_83 : decode cX6_digestPair 83 = .ok (.lload 4, 2) := by decide +kernel
theorem dX6_digestPair_85 : decode cX6_digestPair 85 = .ok (.lmul, 1) := by decide +kernel
theorem dX6_digestPair_86 : decode cX6_digestPair 86 = .ok (.aload_n 0, 1) := by decide +kernel
theorem dX6_digestPair_87 : decode cX6_digestPair 87 = .ok (.iload_n 3, 1) := by decide +kernel
theorem dX6_digestPair_88 : decode cX6_digestPair 88 = .ok (.iconst 1, 1) := by decide +kernel
theorem dX6_digestPair_89 : decode cX6_digestPair 89 = .ok (.invokevirtual 307, 3) := by decide +kernel
theorem dX6_digestPair_92 : decode cX6_digestPair 92 = .ok (.ladd, 1) := by decide +kernel
theorem dX6_digestPair_93 : decode cX6_digestPair 93 = .ok (.lstore 4, 2) := by decide +kernel
theorem dX6_digestPair_95 : decode cX6_digestPair 95 = .ok (.aload_n 0, 1) := by decide +kernel
