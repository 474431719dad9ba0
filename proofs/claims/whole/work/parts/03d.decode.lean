theorem dX7_isNeeded_10 : decode cX7_isNeeded 10 = .ok (.iand, 1) := by decide +kernel
theorem dX7_isNeeded_11 : decode cX7_isNeeded 11 = .ok (.invokevirtual 157, 3) := by decide +kernel
theorem dX7_isNeeded_14 : decode cX7_isNeeded 14 = .ok (.istore_n 3, 1) := by decide +kernel
theorem dX7_isNeeded_15 : decode cX7_isNeeded 15 = .ok (.iload_n 3, 1) := by decide +kernel
theorem dX7_isNeeded_16 : decode cX7_isNeeded 16 = .ok (.iconst (-1), 1) := by decide +kernel
theorem dX7_isNeeded_17 : decode cX7_isNeeded 17 = .ok (.if_icmp .eq 12, 3) := by decide +kernel
theorem dX7_isNeeded_20 : decode cX7_isNeeded 20 = .ok (.aload_n 0, 1) := by decide +kernel
theorem dX7_isNeeded_21 : decode cX7_isNeeded 21 = .ok (.iload_n 2, 1) := by decide +kernel
theorem dX7_isNeeded_22 : decode cX7_isNeeded 22 = .ok (.iload_n 3, 1) := by decide +kernel
theorem dX7_isNeeded_23 : decode cX7_isNeeded 23 = .ok (.invokevirtual 154, 3) := by decide +kernel
theorem dX7_isNeeded_26 : decode cX7_isNeeded 26 = .ok (.ifCond .eq 7, 3) := by decide +kernel
theorem dX7_isNeeded_29 : decode cX7_isNeeded 29 = .ok (.iconst 1, 1) := by decide +kernel
theorem dX7_isNeeded_30 : decode cX7_isNeeded 30 = .ok (.goto 4, 3) := by decide +kernel
theorem dX7_isNeeded_33 : decode cX7_isNeeded 33 = .ok (.iconst 0, 1) := by decide +kernel
theorem dX7_isNeeded_34 : decode cX7_isNeeded 34 = .ok (.ireturn, 1) := by decide +kernel
theorem dX7_neededNow_0 : decode cX7_neededNow 0 = .ok (.aload_n 0, 1) := by decide +kernel
theorem dX7_neededNow_1 : decode cX7_neededNow 1 = .ok (.aload_n 0, 1) := by decide +kernel
theorem dX7_neededNow_2 : decode cX7_neededNow 2 = .ok (.getfield 76, 3) := by decide +kernel
theorem dX7_neededNow_5 : decode cX7_neededNow 5 = .ok (.invokevirtual 157, 3) := by decide +kernel
theorem dX7_neededNow_8 : decode cX7_neededNow 8 = .ok (.istore_n 1, 1) := by decide +kernel
theorem dX7_neededNow_9 : decode cX7_neededNow 9 = .ok (.iconst 0, 1) := by decide +kernel
theorem dX7_neededNow_10 : decode cX7_neededNow 10 = .ok (.istore_n 2, 1) := by decide +kernel
theorem dX7_neededNow_11 : decode cX7_neededNow 11 = .ok (.iconst 0, 1) := by decide +kernel
theorem dX7_neededNow_12 : decode cX7_neededNow 12 = .ok (.istore_n 3, 1) := by decide +kernel
theorem dX7_neededNow_13 : decode cX7_neededNow 13 = .ok (.iload_n 3, 1) := by decide +kernel
theorem dX7_neededNow_14 : decode cX7_neededNow 14 = .ok (.aload_n 0, 1) := by decide +kernel
theorem dX7_neededNow_15 : decode cX7_neededNow 15 = .ok (.invokevirtual 68, 3) := by decide +kernel
theorem dX7_neededNow_18 : decode cX7_neededNow 18 = .ok (.if_icmp .ge 41, 3) := by decide +kernel
theorem dX7_neededNow_21 : decode cX7_neededNow 21 = .ok (.iload_n 1, 1) := by decide +kernel
theorem dX7_neededNow_22 : decode cX7_neededNow 22 = .ok (.iconst (-1), 1) := by decide +kernel
theorem dX7_neededNow_23 : decode cX7_neededNow 23 = .ok (.if_icmp .eq 36, 3) := by decide +kernel
theorem dX7_neededNow_26 : decode cX7_neededNow 26 = .ok (.iload_n 2, 1) := by decide +kernel
theorem dX7_neededNow_27 : decode cX7_neededNow 27 = .ok (.aload_n 0, 1) := by decide +kernel
theorem dX7_neededNow_28 : decode cX7_neededNow 28 = .ok (.iload_n 3, 1) := by decide +kernel
theorem dX7_neededNow_29 : decode cX7_neededNow 29 = .ok (.invokevirtual 174, 3) := by decide +kernel
theorem dX7_neededNow_32 : decode cX7_neededNow 32 = .ok (.ifCond .eq 18, 3) := by decide +kernel
theorem dX7_neededNow_35 : decode cX7_neededNow 35 = .ok (.aload_n 0, 1) := by decide +kernel
theorem dX7_neededNow_36 : decode cX7_neededNow 36 = .ok (.iload_n 3, 1) := by decide +kernel
theorem dX7_neededNow_37 : decode cX7_neededNow 37 = .ok (.iload_n 1, 1) := by decide +kernel
theorem dX7_neededNow_38 : decode cX7_neededNow 38 = .ok (.invokevirtual 177, 3) := by decide +kernel
theorem dX7_neededNow_41 : decode cX7_neededNow 41 = .ok (.ifCond .eq 9, 3) := by decide +kernel
theorem dX7_neededNow_44 : decode cX7_neededNow 44 = .ok (.iconst 1, 1) := by decide +kernel
theorem dX7_neededNow_45 : decode cX7_neededNow 45 = .ok (.iload_n 3, 1) := by decide +kernel
theorem dX7_neededNow_46 : decode cX7_neededNow 46 = .ok (.ishl, 1) := by decide +kernel
theorem dX7_neededNow_47 : decode cX7_neededNow 47 = .ok (.goto 4, 3) := by decide +kernel
theorem dX7_neededNow_50 : decode cX7_neededNow 50 = .ok (.iconst 0, 1) := by decide +kernel
theorem dX7_neededNow_51 : decode cX7_neededNow 51 = .ok (.ior, 1) := by decide +kernel
theorem dX7_neededNow_52 : decode cX7_neededNow 52 = .ok (.istore_n 2, 1) := by decide +kernel
theorem dX7_neededNow_53 : decode cX7_neededNow 53 = .ok (.iinc 3 1, 3) := by decide +kernel
theorem dX7_neededNow_56 : decode cX7_neededNow 56 = .ok (.goto (-43), 3) := by decide +kernel
theorem dX7_neededNow_59 : decode cX7_neededNow 59 = .ok (.iload_n 1, 1) := by decide +kernel
theorem dX7_neededNow_60 : decode cX7_neededNow 60 = .ok (.iconst (-1), 1) := by decide +kernel
theorem dX7_neededNow_61 : decode cX7_neededNow 61 = .ok (.if_icmp .ne 8, 3) := by decide +kernel
theorem dX7_neededNow_64 : decode cX7_neededNow 64 = .ok (.bipush (-3), 2) := by decide +kernel
theorem dX7_neededNow_66 : decode cX7_neededNow 66 = .ok (.goto 4, 3) := by decide +kernel
theorem dX7_neededNow_69 : decode cX7_neededNow 69 = .ok (.iload_n 2, 1) := by decide +kernel
theorem dX7_neededNow_70 : decode cX7_neededNow 70 = .ok (.ireturn, 1) := by decide +kernel
theorem dX7_needed_0 : decode cX7_needed 0 = .ok (.aload_n 0, 1) := by decide +kernel
theorem dX7_needed_1 : decode cX7_needed 1 = .ok (.invokevirtual 180, 3) := by decide +kernel
theorem dX7_needed_4 : decode cX7_needed 4 = .ok (.ireturn, 1) := by decide +kernel
theorem dX7_dearestNow_0 : decode cX7_dearestNow 0 = .ok (.aload_n 0, 1) := by decide +kernel
theorem dX7_dearestNow_1 : decode cX7_dearestNow 1 = .ok (.invokevirtual 180, 3) := by decide +kernel
theorem dX7_dearestNow_4 : decode cX7_dearestNow 4 = .ok (.istore_n 1, 1) := by decide +kernel
theorem dX7_dearestNow_5 : decode cX7_dearestNow 5 = .ok (.iconst (-1), 1) := by decide +kernel
theorem dX7_dearestNow_6 : decode cX7_dearestNow 6 = .ok (.istore_n 2, 1) := by decide +kernel
theorem dX7_dearestNow_7 : decode cX7_dearestNow 7 = .ok (.iconst (-1), 1) := by decide +kernel
theorem dX7_dearestNow_8 : decode cX7_dearestNow 8 = .ok (.istore_n 3, 1) := by decide +kernel
theorem dX7_dearestNow_9 : decode cX7_dearestNow 9 = .ok (.iconst 0, 1) := by decide +kernel
theorem dX7_dearestNow_10 : decode cX7_dearestNow 10 = .ok (.istore 4, 2) := by decide +kernel
theorem dX7_dearestNow_12 : decode cX7_dearestNow 12 = .ok (.iconst 0, 1) := by decide +kernel
theorem dX7_dearestNow_13 : decode cX7_dearestNow 13 = .ok (.istore 5, 2) := by decide +kernel
theorem dX7_dearestNow_15 : decode cX7_dearestNow 15 = .ok (.iload 5, 2) := by decide +kernel
theorem dX7_dearestNow_17 : decode cX7_dearestNow 17 = .ok (.aload_n 0, 1) := by decide +kernel
theorem dX7_dearestNow_18 : decode cX7_dearestNow 18 = .ok (.invokevirtual 68, 3) := by decide +kernel
theorem dX7_dearestNow_21 : decode cX7_dearestNow 21 = .ok (.if_icmp .ge 103, 3) := by decide +kernel
theorem dX7_dearestNow_24 : decode cX7_dearestNow 24 = .ok (.iload_n 1, 1) := by decide +kernel
theorem dX7_dearestNow_25 : decode cX7_dearestNow 25 = .ok (.ifCond .le 99, 3) := by decide +kernel
theorem dX7_dearestNow_28 : decode cX7_dearestNow 28 = .ok (.iload_n 1, 1) := by decide +kernel
theorem dX7_dearestNow_29 : decode cX7_dearestNow 29 = .ok (.iload 5, 2) := by decide +kernel
theorem dX7_dearestNow_31 : decode cX7_dearestNow 31 = .ok (.ishr, 1) := by decide +kernel
theorem dX7_dearestNow_32 : decode cX7_dearestNow 32 = .ok (.iconst 1, 1) := by decide +kernel
theorem dX7_dearestNow_33 : decode cX7_dearestNow 33 = .ok (.iand, 1) := by decide +kernel
theorem dX7_dearestNow_34 : decode cX7_dearestNow 34 = .ok (.iconst 1, 1) := by decide +kernel
theorem dX7_dearestNow_35 : decode cX7_dearestNow 35 = .ok (.if_icmp .ne 83, 3) := by decide +kernel
theorem dX7_dearestNow_38 : decode cX7_dearestNow 38 = .ok (.iload 4, 2) := by decide +kernel
theorem dX7_dearestNow_40 : decode cX7_dearestNow 40 = .ok (.ifCond .ne 78, 3) := by decide +kernel
theorem dX7_dearestNow_43 : decode cX7_dearestNow 43 = .ok (.aload_n 0, 1) := by decide +kernel
theorem dX7_dearestNow_44 : decode cX7_dearestNow 44 = .ok (.aload_n 0, 1) := by decide +kernel
theorem dX7_dearestNow_45 : decode cX7_dearestNow 45 = .ok (.getfield 76, 3) := by decide +kernel
theorem dX7_dearestNow_48 : decode cX7_dearestNow 48 = .ok (.iconst 1, 1) := by decide +kernel
theorem dX7_dearestNow_49 : decode cX7_dearestNow 49 = .ok (.iload 5, 2) := by decide +kernel
theorem dX7_dearestNow_51 : decode cX7_dearestNow 51 = .ok (.ishl, 1) := by decide +kernel
theorem dX7_dearestNow_52 : decode cX7_dearestNow 52 = .ok (.iconst (-1), 1) := by decide +kernel
theorem dX7_dearestNow_53 : decode cX7_dearestNow 53 = .ok (.ixor, 1) := by decide +kernel
theorem dX7_dearestNow_54 : decode cX7_dearestNow 54 = .ok (.iand, 1) := by decide +kernel
theorem dX7_dearestNow_55 : decode cX7_dearestNow 55 = .ok (.invokevirtual 157, 3) := by decide +kernel
theorem dX7_dearestNow_58 : decode cX7_dearestNow 58 = .ok (.istore 6, 2) := by decide +kernel
theorem dX7_dearestNow_60 : decode cX7_dearestNow 60 = .ok (.iload 6, 2) := by decide +kernel
theorem dX7_dearestNow_62 : decode cX7_dearestNow 62 = .ok (.iconst (-1), 1) := by decide +kernel
theorem dX7_dearestNow_63 : decode cX7_dearestNow 63 = .ok (.if_icmp .ne 7, 3) := by decide +kernel
theorem dX7_dearestNow_66 : decode cX7_dearestNow 66 = .ok (.iconst 1, 1) := by decide +kernel
theorem dX7_dearestNow_67 : decode cX7_dearestNow 67 = .ok (.goto 4, 3) := by decide +kernel
theorem dX7_dearestNow_70 : decode cX7_dearestNow 70 = .ok (.iconst 0, 1) := by decide +kernel
theorem dX7_dearestNow_71 : decode cX7_dearestNow 71 = .ok (.istore 4, 2) := by decide +kernel
theorem dX7_dearestNow_73 : decode cX7_dearestNow 73 = .ok (.iload 4, 2) := by decide +kernel
theorem dX7_dearestNow_75 : decode cX7_dearestNow 75 = .ok (.ifCond .ne 18, 3) := by decide +kernel
theorem dX7_dearestNow_78 : decode cX7_dearestNow 78 = .ok (.iload_n 2, 1) := by decide +kernel
theorem dX7_dearestNow_79 : decode cX7_dearestNow 79 = .ok (.iconst (-1), 1) := by decide +kernel
theorem dX7_dearestNow_80 : decode cX7_dearestNow 80 = .ok (.if_icmp .eq 13, 3) := by decide +kernel
theorem dX7_dearestNow_83 : decode cX7_dearestNow 83 = .ok (.aload_n 0, 1) := by decide +kernel
theorem dX7_dearestNow_84 : decode cX7_dearestNow 84 = .ok (.iload_n 3, 1) := by decide +kernel
theorem dX7_dearestNow_85 : decode cX7_dearestNow 85 = .ok (.iload 6, 2) := by decide +kernel
theorem dX7_dearestNow_87 : decode cX7_dearestNow 87 = .ok (.invokevirtual 154, 3) := by decide +kernel
theorem dX7_dearestNow_90 : decode cX7_dearestNow 90 = .ok (.ifCond .eq 8, 3) := by decide +kernel
theorem dX7_dearestNow_93 : decode cX7_dearestNow 93 = .ok (.iload 5, 2) := by decide +kernel
theorem dX7_dearestNow_95 : decode cX7_dearestNow 95 = .ok (.goto 4, 3) := by decide +kernel
theorem dX7_dearestNow_98 : decode cX7_dearestNow 98 = .ok (.iload_n 2, 1) := by decide +kernel
theorem dX7_dearestNow_99 : decode cX7_dearestNow 99 = .ok (.istore_n 2, 1) := by decide +kernel
theorem dX7_dearestNow_100 : decode cX7_dearestNow 100 = .ok (.iload 4, 2) := by decide +kernel
theorem dX7_dearestNow_102 : decode cX7_dearestNow 102 = .ok (.ifCond .ne 9, 3) := by decide +kernel
theorem dX7_dearestNow_105 : decode cX7_dearestNow 105 = .ok (.iload_n 2, 1) := by decide +kernel
theorem dX7_dearestNow_106 : decode cX7_dearestNow 106 = .ok (.iload 5, 2) := by decide +kernel
theorem dX7_dearestNow_108 : decode cX7_dearestNow 108 = .ok (.if_icmp .ne 8, 3) := by decide +kernel
theorem dX7_dearestNow_111 : decode cX7_dearestNow 111 = .ok (.iload 6, 2) := by decide +kernel
theorem dX7_dearestNow_113 : decode cX7_dearestNow 113 = .ok (.goto 4, 3) := by decide +kernel
theorem dX7_dearestNow_116 : decode cX7_dearestNow 116 = .ok (.iload_n 3, 1) := by decide +kernel
theorem dX7_dearestNow_117 : decode cX7_dearestNow 117 = .ok (.istore_n 3, 1) := by decide +kernel
theorem dX7_dearestNow_118 : decode cX7_dearestNow 118 = .ok (.iinc 5 1, 3) := by decide +kernel
theorem dX7_dearestNow_121 : decode cX7_dearestNow 121 = .ok (.goto (-106), 3) := by decide +kernel
theorem dX7_dearestNow_124 : decode cX7_dearestNow 124 = .ok (.iload_n 1, 1) := by decide +kernel
theorem dX7_dearestNow_125 : decode cX7_dearestNow 125 = .ok (.bipush (-3), 2) := by decide +kernel
theorem dX7_dearestNow_127 : decode cX7_dearestNow 127 = .ok (.if_icmp .ne 8, 3) := by decide +kernel
theorem dX7_dearestNow_130 : decode cX7_dearestNow 130 = .ok (.bipush (-3), 2) := by decide +kernel
theorem dX7_dearestNow_132 : decode cX7_dearestNow 132 = .ok (.goto 4, 3) := by decide +kernel
theorem dX7_dearestNow_135 : decode cX7_dearestNow 135 = .ok (.iload_n 2, 1) := by decide +kernel
theorem dX7_dearestNow_136 : decode cX7_dearestNow 136 = .ok (.ireturn, 1) := by decide +kernel
theorem dX7_dearest_0 : decode cX7_dearest 0 = .ok (.aload_n 0, 1) := by decide +kernel
theorem dX7_dearest_1 : decode cX7_dearest 1 = .ok (.invokevirtual 183, 3) := by decide +kernel
theorem dX7_dearest_4 : decode cX7_dearest 4 = .ok (.ireturn, 1) := by decide +kernel
theorem dX7_gainOf_0 : decode cX7_gainOf 0 = .ok (.aload_n 0, 1) := by decide +kernel
theorem dX7_gainOf_1 : decode cX7_gainOf 1 = .ok (.aload_n 0, 1) := by decide +kernel
theorem dX7_gainOf_2 : decode cX7_gainOf 2 = .ok (.getfield 76, 3) := by decide +kernel
theorem dX7_gainOf_5 : decode cX7_gainOf 5 = .ok (.invokevirtual 157, 3) := by decide +kernel
theorem dX7_gainOf_8 : decode cX7_gainOf 8 = .ok (.istore_n 3, 1) := by decide +kernel
theorem dX7_gainOf_9 : decode cX7_gainOf 9 = .ok (.iload_n 3, 1) := by decide +kernel
theorem dX7_gainOf_10 : decode cX7_gainOf 10 = .ok (.iconst (-1), 1) := by decide +kernel
theorem dX7_gainOf_11 : decode cX7_gainOf 11 = .ok (.if_icmp .ne 9, 3) := by decide +kernel
theorem dX7_gainOf_14 : decode cX7_gainOf 14 = .ok (.bipush (-3), 2) := by decide +kernel
theorem dX7_gainOf_16 : decode cX7_gainOf 16 = .ok (.invokestatic 160, 3) := by decide +kernel
theorem dX7_gainOf_19 : decode cX7_gainOf 19 = .ok (.lreturn, 1) := by decide +kernel
theorem dX7_gainOf_20 : decode cX7_gainOf 20 = .ok (.aload_n 0, 1) := by decide +kernel
theorem dX7_gainOf_21 : decode cX7_gainOf 21 = .ok (.aload_n 0, 1) := by decide +kernel
theorem dX7_gainOf_22 : decode cX7_gainOf 22 = .ok (.getfield 76, 3) := by decide +kernel
theorem dX7_gainOf_25 : decode cX7_gainOf 25 = .ok (.iconst 1, 1) := by decide +kernel
theorem dX7_gainOf_26 : decode cX7_gainOf 26 = .ok (.iload_n 1, 1) := by decide +kernel
theorem dX7_gainOf_27 : decode cX7_gainOf 27 = .ok (.ishl, 1) := by decide +kernel
theorem dX7_gainOf_28 : decode cX7_gainOf 28 = .ok (.ior, 1) := by decide +kernel
theorem dX7_gainOf_29 : decode cX7_gainOf 29 = .ok (.invokevirtual 157, 3) := by decide +kernel
theorem dX7_gainOf_32 : decode cX7_gainOf 32 = .ok (.istore 4, 2) := by decide +kernel
theorem dX7_gainOf_34 : decode cX7_gainOf 34 = .ok (.aload_n 0, 1) := by decide +kernel
theorem dX7_gainOf_35 : decode cX7_gainOf 35 = .ok (.getfield 36, 3) := by decide +kernel
theorem dX7_gainOf_38 : decode cX7_gainOf 38 = .ok (.iload_n 3, 1) := by decide +kernel
theorem dX7_gainOf_39 : decode cX7_gainOf 39 = .ok (.laload, 1) := by decide +kernel
theorem dX7_gainOf_40 : decode cX7_gainOf 40 = .ok (.aload_n 0, 1) := by decide +kernel
theorem dX7_gainOf_41 : decode cX7_gainOf 41 = .ok (.getfield 39, 3) := by decide +kernel
theorem dX7_gainOf_44 : decode cX7_gainOf 44 = .ok (.iload 4, 2) := by decide +kernel
theorem dX7_gainOf_46 : decode cX7_gainOf 46 = .ok (.laload, 1) := by decide +kernel
theorem dX7_gainOf_47 : decode cX7_gainOf 47 = .ok (.lmul, 1) := by decide +kernel
theorem dX7_gainOf_48 : decode cX7_gainOf 48 = .ok (.aload_n 0, 1) := by decide +kernel
theorem dX7_gainOf_49 : decode cX7_gainOf 49 = .ok (.getfield 36, 3) := by decide +kernel
theorem dX7_gainOf_52 : decode cX7_gainOf 52 = .ok (.iload 4, 2) := by decide +kernel
theorem dX7_gainOf_54 : decode cX7_gainOf 54 = .ok (.laload, 1) := by decide +kernel
theorem dX7_gainOf_55 : decode cX7_gainOf 55 = .ok (.aload_n 0, 1) := by decide +kernel
theorem dX7_gainOf_56 : decode cX7_gainOf 56 = .ok (.getfield 39, 3) := by decide +kernel
theorem dX7_gainOf_59 : decode cX7_gainOf 59 = .ok (.iload_n 3, 1) := by decide +kernel
theorem dX7_gainOf_60 : decode cX7_gainOf 60 = .ok (.laload, 1) := by decide +kernel
theorem dX7_gainOf_61 : decode cX7_gainOf 61 = .ok (.lmul, 1) := by decide +kernel
theorem dX7_gainOf_62 : decode cX7_gainOf 62 = .ok (.lsub, 1) := by decide +kernel
theorem dX7_gainOf_63 : decode cX7_gainOf 63 = .ok (.aload_n 0, 1) := by decide +kernel
theorem dX7_gainOf_64 : decode cX7_gainOf 64 = .ok (.getfield 39, 3) := by decide +kernel
theorem dX7_gainOf_67 : decode cX7_gainOf 67 = .ok (.iload_n 3, 1) := by decide +kernel
theorem dX7_gainOf_68 : decode cX7_gainOf 68 = .ok (.laload, 1) := by decide +kernel
theorem dX7_gainOf_69 : decode cX7_gainOf 69 = .ok (.aload_n 0, 1) := by decide +kernel
theorem dX7_gainOf_70 : decode cX7_gainOf 70 = .ok (.getfield 39, 3) := by decide +kernel
theorem dX7_gainOf_73 : decode cX7_gainOf 73 = .ok (.iload 4, 2) := by decide +kernel
theorem dX7_gainOf_75 : decode cX7_gainOf 75 = .ok (.laload, 1) := by decide +kernel
theorem dX7_gainOf_76 : decode cX7_gainOf 76 = .ok (.lmul, 1) := by decide +kernel
theorem dX7_gainOf_77 : decode cX7_gainOf 77 = .ok (.iload_n 2, 1) := by decide +kernel
theorem dX7_gainOf_78 : decode cX7_gainOf 78 = .ok (.invokestatic 138, 3) := by decide +kernel
theorem dX7_gainOf_81 : decode cX7_gainOf 81 = .ok (.lreturn, 1) := by decide +kernel
theorem dX7_gain_0 : decode cX7_gain 0 = .ok (.aload_n 0, 1) := by decide +kernel
theorem dX7_gain_1 : decode cX7_gain 1 = .ok (.iload_n 1, 1) := by decide +kernel
theorem dX7_gain_2 : decode cX7_gain 2 = .ok (.invokevirtual 72, 3) := by decide +kernel
theorem dX7_gain_5 : decode cX7_gain 5 = .ok (.ifCond .eq 29, 3) := by decide +kernel
theorem dX7_gain_8 : decode cX7_gain 8 = .ok (.aload_n 0, 1) := by decide +kernel
theorem dX7_gain_9 : decode cX7_gain 9 = .ok (.iload_n 1, 1) := by decide +kernel
theorem dX7_gain_10 : decode cX7_gain 10 = .ok (.invokevirtual 174, 3) := by decide +kernel
theorem dX7_gain_13 : decode cX7_gain 13 = .ok (.ifCond .ne 21, 3) := by decide +kernel
theorem dX7_gain_16 : decode cX7_gain 16 = .ok (.iload_n 2, 1) := by decide +kernel
theorem dX7_gain_17 : decode cX7_gain 17 = .ok (.iconst 0, 1) := by decide +kernel
theorem dX7_gain_18 : decode cX7_gain 18 = .ok (.iconst 1, 1) := by decide +kernel
theorem dX7_gain_19 : decode cX7_gain 19 = .ok (.invokestatic 64, 3) := by decide +kernel
theorem dX7_gain_22 : decode cX7_gain 22 = .ok (.ifCond .eq 12, 3) := by decide +kernel
theorem dX7_gain_25 : decode cX7_gain 25 = .ok (.aload_n 0, 1) := by decide +kernel
theorem dX7_gain_26 : decode cX7_gain 26 = .ok (.iload_n 1, 1) := by decide +kernel
theorem dX7_gain_27 : decode cX7_gain 27 = .ok (.iload_n 2, 1) := by decide +kernel
theorem dX7_gain_28 : decode cX7_gain 28 = .ok (.invokevirtual 186, 3) := by decide +kernel
theorem dX7_gain_31 : decode cX7_gain 31 = .ok (.goto 8, 3) := by decide +kernel
theorem dX7_gain_34 : decode cX7_gain 34 = .ok (.bipush (-2), 2) := by decide +kernel
theorem dX7_gain_36 : decode cX7_gain 36 = .ok (.invokestatic 160, 3) := by decide +kernel
theorem dX7_gain_39 : decode cX7_gain 39 = .ok (.lreturn, 1) := by decide +kernel
theorem dX7_growing_0 : decode cX7_growing 0 = .ok (.aload_n 0, 1) := by decide +kernel
theorem dX7_growing_1 : decode cX7_growing 1 = .ok (.aload_n 0, 1) := by decide +kernel
theorem dX7_growing_2 : decode cX7_growing 2 = .ok (.getfield 76, 3) := by decide +kernel
theorem dX7_growing_5 : decode cX7_growing 5 = .ok (.invokevirtual 157, 3) := by decide +kernel
theorem dX7_growing_8 : decode cX7_growing 8 = .ok (.istore_n 1, 1) := by decide +kernel
theorem dX7_growing_9 : decode cX7_growing 9 = .ok (.iconst (-1), 1) := by decide +kernel
theorem dX7_growing_10 : decode cX7_growing 10 = .ok (.istore_n 2, 1) := by decide +kernel
theorem dX7_growing_11 : decode cX7_growing 11 = .ok (.iconst 0, 1) := by decide +kernel
theorem dX7_growing_12 : decode cX7_growing 12 = .ok (.istore_n 3, 1) := by decide +kernel
theorem dX7_growing_13 : decode cX7_growing 13 = .ok (.iload_n 3, 1) := by decide +kernel
theorem dX7_growing_14 : decode cX7_growing 14 = .ok (.aload_n 0, 1) := by decide +kernel
theorem dX7_growing_15 : decode cX7_growing 15 = .ok (.invokevirtual 68, 3) := by decide +kernel
theorem dX7_growing_18 : decode cX7_growing 18 = .ok (.if_icmp .ge 68, 3) := by decide +kernel
theorem dX7_growing_21 : decode cX7_growing 21 = .ok (.aload_n 0, 1) := by decide +kernel
theorem dX7_growing_22 : decode cX7_growing 22 = .ok (.iload_n 3, 1) := by decide +kernel
theorem dX7_growing_23 : decode cX7_growing 23 = .ok (.invokevirtual 174, 3) := by decide +kernel
theorem dX7_growing_26 : decode cX7_growing 26 = .ok (.ifCond .eq 7, 3) := by decide +kernel
theorem dX7_growing_29 : decode cX7_growing 29 = .ok (.iload_n 1, 1) := by decide +kernel
theorem dX7_growing_30 : decode cX7_growing 30 = .ok (.goto 15, 3) := by decide +kernel
theorem dX7_growing_33 : decode cX7_growing 33 = .ok (.aload_n 0, 1) := by decide +kernel
theorem dX7_growing_34 : decode cX7_growing 34 = .ok (.aload_n 0, 1) := by decide +kernel
theorem dX7_growing_35 : decode cX7_growing 35 = .ok (.getfield 76, 3) := by decide +kernel
theorem dX7_growing_38 : decode cX7_growing 38 = .ok (.iconst 1, 1) := by decide +kernel
theorem dX7_growing_39 : decode cX7_growing 39 = .ok (.iload_n 3, 1) := by decide +kernel
theorem dX7_growing_40 : decode cX7_growing 40 = .ok (.ishl, 1) := by decide +kernel
theorem dX7_growing_41 : decode cX7_growing 41 = .ok (.ior, 1) := by decide +kernel
theorem dX7_growing_42 : decode cX7_growing 42 = .ok (.invokevirtual 157, 3) := by decide +kernel
theorem dX7_growing_45 : decode cX7_growing 45 = .ok (.istore 4, 2) := by decide +kernel
theorem dX7_growing_47 : decode cX7_growing 47 = .ok (.aload_n 0, 1) := by decide +kernel
theorem dX7_growing_48 : decode cX7_growing 48 = .ok (.iload 4, 2) := by decide +kernel
theorem dX7_growing_50 : decode cX7_growing 50 = .ok (.iload_n 1, 1) := by decide +kernel
theorem dX7_growing_51 : decode cX7_growing 51 = .ok (.invokevirtual 154, 3) := by decide +kernel
theorem dX7_growing_54 : decode cX7_growing 54 = .ok (.ifCond .eq 7, 3) := by decide +kernel
theorem dX7_growing_57 : decode cX7_growing 57 = .ok (.iload_n 3, 1) := by decide +kernel
theorem dX7_growing_58 : decode cX7_growing 58 = .ok (.goto 4, 3) := by decide +kernel
theorem dX7_growing_61 : decode cX7_growing 61 = .ok (.iload_n 2, 1) := by decide +kernel
theorem dX7_growing_62 : decode cX7_growing 62 = .ok (.istore_n 2, 1) := by decide +kernel
theorem dX7_growing_63 : decode cX7_growing 63 = .ok (.aload_n 0, 1) := by decide +kernel
theorem dX7_growing_64 : decode cX7_growing 64 = .ok (.iload 4, 2) := by decide +kernel
theorem dX7_growing_66 : decode cX7_growing 66 = .ok (.iload_n 1, 1) := by decide +kernel
theorem dX7_growing_67 : decode cX7_growing 67 = .ok (.invokevirtual 154, 3) := by decide +kernel
theorem dX7_growing_70 : decode cX7_growing 70 = .ok (.ifCond .eq 8, 3) := by decide +kernel
theorem dX7_growing_73 : decode cX7_growing 73 = .ok (.iload 4, 2) := by decide +kernel
theorem dX7_growing_75 : decode cX7_growing 75 = .ok (.goto 4, 3) := by decide +kernel
theorem dX7_growing_78 : decode cX7_growing 78 = .ok (.iload_n 1, 1) := by decide +kernel
theorem dX7_growing_79 : decode cX7_growing 79 = .ok (.istore_n 1, 1) := by decide +kernel
theorem dX7_growing_80 : decode cX7_growing 80 = .ok (.iinc 3 1, 3) := by decide +kernel
theorem dX7_growing_83 : decode cX7_growing 83 = .ok (.goto (-70), 3) := by decide +kernel
theorem dX7_growing_86 : decode cX7_growing 86 = .ok (.iload_n 2, 1) := by decide +kernel
theorem dX7_growing_87 : decode cX7_growing 87 = .ok (.ireturn, 1) := by decide +kernel
theorem dX7_grow_0 : decode cX7_grow 0 = .ok (.aload_n 0, 1) := by decide +kernel
theorem dX7_grow_1 : decode cX7_grow 1 = .ok (.aload_n 0, 1) := by decide +kernel
theorem dX7_grow_2 : decode cX7_grow 2 = .ok (.getfield 76, 3) := by decide +kernel
theorem dX7_grow_5 : decode cX7_grow 5 = .ok (.invokevirtual 157, 3) := by decide +kernel
theorem dX7_grow_8 : decode cX7_grow 8 = .ok (.iconst (-1), 1) := by decide +kernel
theorem dX7_grow_9 : decode cX7_grow 9 = .ok (.if_icmp .ne 6, 3) := by decide +kernel
theorem dX7_grow_12 : decode cX7_grow 12 = .ok (.bipush (-3), 2) := by decide +kernel
theorem dX7_grow_14 : decode cX7_grow 14 = .ok (.ireturn, 1) := by decide +kernel
theorem dX7_grow_15 : decode cX7_grow 15 = .ok (.iconst 0, 1) := by decide +kernel
theorem dX7_grow_16 : decode cX7_grow 16 = .ok (.istore_n 1, 1) := by decide +kernel
theorem dX7_grow_17 : decode cX7_grow 17 = .ok (.aload_n 0, 1) := by decide +kernel
theorem dX7_grow_18 : decode cX7_grow 18 = .ok (.invokevirtual 189, 3) := by decide +kernel
theorem dX7_grow_21 : decode cX7_grow 21 = .ok (.istore_n 2, 1) := by decide +kernel
theorem dX7_grow_22 : decode cX7_grow 22 = .ok (.iload_n 2, 1) := by decide +kernel
theorem dX7_grow_23 : decode cX7_grow 23 = .ok (.iconst (-1), 1) := by decide +kernel
theorem dX7_grow_24 : decode cX7_grow 24 = .ok (.if_icmp .eq 26, 3) := by decide +kernel
theorem dX7_grow_27 : decode cX7_grow 27 = .ok (.aload_n 0, 1) := by decide +kernel
theorem dX7_grow_28 : decode cX7_grow 28 = .ok (.dup, 1) := by decide +kernel
theorem dX7_grow_29 : decode cX7_grow 29 = .ok (.getfield 76, 3) := by decide +kernel
theorem dX7_grow_32 : decode cX7_grow 32 = .ok (.iconst 1, 1) := by decide +kernel
theorem dX7_grow_33 : decode cX7_grow 33 = .ok (.iload_n 2, 1) := by decide +kernel
theorem dX7_grow_34 : decode cX7_grow 34 = .ok (.ishl, 1) := by decide +kernel
theorem dX7_grow_35 : decode cX7_grow 35 = .ok (.ior, 1) := by decide +kernel
theorem dX7_grow_36 : decode cX7_grow 36 = .ok (.putfield 76, 3) := by decide +kernel
theorem dX7_grow_39 : decode cX7_grow 39 = .ok (.iinc 1 1, 3) := by decide +kernel
theorem dX7_grow_42 : decode cX7_grow 42 = .ok (.aload_n 0, 1) := by decide +kernel
theorem dX7_grow_43 : decode cX7_grow 43 = .ok (.invokevirtual 189, 3) := by decide +kernel
theorem dX7_grow_46 : decode cX7_grow 46 = .ok (.istore_n 2, 1) := by decide +kernel
theorem dX7_grow_47 : decode cX7_grow 47 = .ok (.goto (-25), 3) := by decide +kernel
theorem dX7_grow_50 : decode cX7_grow 50 = .ok (.iload_n 1, 1) := by decide +kernel
theorem dX7_grow_51 : decode cX7_grow 51 = .ok (.ireturn, 1) := by decide +kernel
theorem dX7_prune_0 : decode cX7_prune 0 = .ok (.aload_n 0, 1) := by decide +kernel
theorem dX7_prune_1 : decode cX7_prune 1 = .ok (.aload_n 0, 1) := by decide +kernel
theorem dX7_prune_2 : decode cX7_prune 2 = .ok (.getfield 76, 3) := by decide +kernel
theorem dX7_prune_5 : decode cX7_prune 5 = .ok (.invokevirtual 157, 3) := by decide +kernel
theorem dX7_prune_8 : decode cX7_prune 8 = .ok (.istore_n 1, 1) := by decide +kernel
theorem dX7_prune_9 : decode cX7_prune 9 = .ok (.iload_n 1, 1) := by decide +kernel
theorem dX7_prune_10 : decode cX7_prune 10 = .ok (.iconst (-1), 1) := by decide +kernel
theorem dX7_prune_11 : decode cX7_prune 11 = .ok (.if_icmp .ne 6, 3) := by decide +kernel
theorem dX7_prune_14 : decode cX7_prune 14 = .ok (.bipush (-3), 2) := by decide +kernel
theorem dX7_prune_16 : decode cX7_prune 16 = .ok (.ireturn, 1) := by decide +kernel
theorem dX7_prune_17 : decode cX7_prune 17 = .ok (.aload_n 0, 1) := by decide +kernel
theorem dX7_prune_18 : decode cX7_prune 18 = .ok (.getfield 76, 3) := by decide +kernel
theorem dX7_prune_21 : decode cX7_prune 21 = .ok (.invokestatic 145, 3) := by decide +kernel
theorem dX7_prune_24 : decode cX7_prune 24 = .ok (.istore_n 2, 1) := by decide +kernel
theorem dX7_prune_25 : decode cX7_prune 25 = .ok (.aload_n 0, 1) := by decide +kernel
theorem dX7_prune_26 : decode cX7_prune 26 = .ok (.iload_n 1, 1) := by decide +kernel
theorem dX7_prune_27 : decode cX7_prune 27 = .ok (.putfield 76, 3) := by decide +kernel
theorem dX7_prune_30 : decode cX7_prune 30 = .ok (.iload_n 2, 1) := by decide +kernel
theorem dX7_prune_31 : decode cX7_prune 31 = .ok (.iload_n 1, 1) := by decide +kernel
theorem dX7_prune_32 : decode cX7_prune 32 = .ok (.invokestatic 145, 3) := by decide +kernel
theorem dX7_prune_35 : decode cX7_prune 35 = .ok (.isub, 1) := by decide +kernel
theorem dX7_prune_36 : decode cX7_prune 36 = .ok (.ireturn, 1) := by decide +kernel
theorem dX7_wouldBe_0 : decode cX7_wouldBe 0 = .ok (.aload_n 0, 1) := by decide +kernel
theorem dX7_wouldBe_1 : decode cX7_wouldBe 1 = .ok (.getfield 19, 3) := by decide +kernel
theorem dX7_wouldBe_4 : decode cX7_wouldBe 4 = .ok (.iload_n 1, 1) := by decide +kernel
theorem dX7_wouldBe_5 : decode cX7_wouldBe 5 = .ok (.iaload, 1) := by decide +kernel
theorem dX7_wouldBe_6 : decode cX7_wouldBe 6 = .ok (.istore 4, 2) := by decide +kernel
theorem dX7_wouldBe_8 : decode cX7_wouldBe 8 = .ok (.aload_n 0, 1) := by decide +kernel
theorem dX7_wouldBe_9 : decode cX7_wouldBe 9 = .ok (.getfield 19, 3) := by decide +kernel
theorem dX7_wouldBe_12 : decode cX7_wouldBe 12 = .ok (.iload_n 1, 1) := by decide +kernel
theorem dX7_wouldBe_13 : decode cX7_wouldBe 13 = .ok (.iload_n 2, 1) := by decide +kernel
theorem dX7_wouldBe_14 : decode cX7_wouldBe 14 = .ok (.iastore, 1) := by decide +kernel
theorem dX7_wouldBe_15 : decode cX7_wouldBe 15 = .ok (.aload_n 0, 1) := by decide +kernel
theorem dX7_wouldBe_16 : decode cX7_wouldBe 16 = .ok (.iconst 0, 1) := by decide +kernel
theorem dX7_wouldBe_17 : decode cX7_wouldBe 17 = .ok (.putfield 90, 3) := by decide +kernel
theorem dX7_wouldBe_20 : decode cX7_wouldBe 20 = .ok (.aload_n 0, 1) := by decide +kernel
theorem dX7_wouldBe_21 : decode cX7_wouldBe 21 = .ok (.aload_n 0, 1) := by decide +kernel
theorem dX7_wouldBe_22 : decode cX7_wouldBe 22 = .ok (.getfield 76, 3) := by decide +kernel
theorem dX7_wouldBe_25 : decode cX7_wouldBe 25 = .ok (.iload_n 3, 1) := by decide +kernel
theorem dX7_wouldBe_26 : decode cX7_wouldBe 26 = .ok (.invokevirtual 164, 3) := by decide +kernel
theorem dX7_wouldBe_29 : decode cX7_wouldBe 29 = .ok (.lstore 5, 2) := by decide +kernel
theorem dX7_wouldBe_31 : decode cX7_wouldBe 31 = .ok (.aload_n 0, 1) := by decide +kernel
theorem dX7_wouldBe_32 : decode cX7_wouldBe 32 = .ok (.getfield 19, 3) := by decide +kernel
theorem dX7_wouldBe_35 : decode cX7_wouldBe 35 = .ok (.iload_n 1, 1) := by decide +kernel
theorem dX7_wouldBe_36 : decode cX7_wouldBe 36 = .ok (.iload 4, 2) := by decide +kernel
theorem dX7_wouldBe_38 : decode cX7_wouldBe 38 = .ok (.iastore, 1) := by decide +kernel
theorem dX7_wouldBe_39 : decode cX7_wouldBe 39 = .ok (.aload_n 0, 1) := by decide +kernel
theorem dX7_wouldBe_40 : decode cX7_wouldBe 40 = .ok (.iconst 0, 1) := by decide +kernel
theorem dX7_wouldBe_41 : decode cX7_wouldBe 41 = .ok (.putfield 90, 3) := by decide +kernel
theorem dX7_wouldBe_44 : decode cX7_wouldBe 44 = .ok (.lload 5, 2) := by decide +kernel
theorem dX7_wouldBe_46 : decode cX7_wouldBe 46 = .ok (.lreturn, 1) := by decide +kernel
theorem dX7_would_0 : decode cX7_would 0 = .ok (.aload_n 0, 1) := by decide +kernel
theorem dX7_would_1 : decode cX7_would 1 = .ok (.iload_n 1, 1) := by decide +kernel
theorem dX7_would_2 : decode cX7_would 2 = .ok (.invokevirtual 94, 3) := by decide +kernel
theorem dX7_would_5 : decode cX7_would 5 = .ok (.ifCond .eq 48, 3) := by decide +kernel
theorem dX7_would_8 : decode cX7_would 8 = .ok (.iload_n 2, 1) := by decide +kernel
theorem dX7_would_9 : decode cX7_would 9 = .ok (.iconst 0, 1) := by decide +kernel
theorem dX7_would_10 : decode cX7_would 10 = .ok (.iconst 1, 1) := by decide +kernel
theorem dX7_would_11 : decode cX7_would 11 = .ok (.invokestatic 64, 3) := by decide +kernel
theorem dX7_would_14 : decode cX7_would 14 = .ok (.ifCond .eq 39, 3) := by decide +kernel
theorem dX7_would_17 : decode cX7_would 17 = .ok (.iload_n 3, 1) := by decide +kernel
theorem dX7_would_18 : decode cX7_would 18 = .ok (.bipush (-9), 2) := by decide +kernel
theorem dX7_would_20 : decode cX7_would 20 = .ok (.bipush 9, 2) := by decide +kernel
theorem dX7_would_22 : decode cX7_would 22 = .ok (.invokestatic 64, 3) := by decide +kernel
theorem dX7_would_25 : decode cX7_would 25 = .ok (.ifCond .eq 28, 3) := by decide +kernel
theorem dX7_would_28 : decode cX7_would 28 = .ok (.iload 4, 2) := by decide +kernel
theorem dX7_would_30 : decode cX7_would 30 = .ok (.iconst 0, 1) := by decide +kernel
theorem dX7_would_31 : decode cX7_would 31 = .ok (.iconst 1, 1) := by decide +kernel
theorem dX7_would_32 : decode cX7_would 32 = .ok (.invokestatic 64, 3) := by decide +kernel
theorem dX7_would_35 : decode cX7_would 35 = .ok (.ifCond .eq 18, 3) := by decide +kernel
theorem dX7_would_38 : decode cX7_would 38 = .ok (.aload_n 0, 1) := by decide +kernel
theorem dX7_would_39 : decode cX7_would 39 = .ok (.iconst 2, 1) := by decide +kernel
theorem dX7_would_40 : decode cX7_would 40 = .ok (.iload_n 1, 1) := by decide +kernel
theorem dX7_would_41 : decode cX7_would 41 = .ok (.imul, 1) := by decide +kernel
theorem dX7_would_42 : decode cX7_would 42 = .ok (.iload_n 2, 1) := by decide +kernel
theorem dX7_would_43 : decode cX7_would 43 = .ok (.iadd, 1) := by decide +kernel
theorem dX7_would_44 : decode cX7_would 44 = .ok (.iload_n 3, 1) := by decide +kernel
theorem dX7_would_45 : decode cX7_would 45 = .ok (.iload 4, 2) := by decide +kernel
theorem dX7_would_47 : decode cX7_would 47 = .ok (.invokevirtual 192, 3) := by decide +kernel
theorem dX7_would_50 : decode cX7_would 50 = .ok (.goto 8, 3) := by decide +kernel
theorem dX7_would_53 : decode cX7_would 53 = .ok (.bipush (-2), 2) := by decide +kernel
theorem dX7_would_55 : decode cX7_would 55 = .ok (.invokestatic 160, 3) := by decide +kernel
theorem dX7_would_58 : decode cX7_would 58 = .ok (.lreturn, 1) := by decide +kernel
theorem dX7_shift_0 : decode cX7_shift 0 = .ok (.aload_n 0, 1) := by decide +kernel
theorem dX7_shift_1 : decode cX7_shift 1 = .ok (.iload_n 1, 1) := by decide +kernel
theorem dX7_shift_2 : decode cX7_shift 2 = .ok (.invokevirtual 94, 3) := by decide +kernel
theorem dX7_shift_5 : decode cX7_shift 5 = .ok (.ifCond .eq 25, 3) := by decide +kernel
theorem dX7_shift_8 : decode cX7_shift 8 = .ok (.iload_n 2, 1) := by decide +kernel
theorem dX7_shift_9 : decode cX7_shift 9 = .ok (.iconst 0, 1) := by decide +kernel
theorem dX7_shift_10 : decode cX7_shift 10 = .ok (.iconst 1, 1) := by decide +kernel
theorem dX7_shift_11 : decode cX7_shift 11 = .ok (.invokestatic 64, 3) := by decide +kernel
theorem dX7_shift_14 : decode cX7_shift 14 = .ok (.ifCond .eq 16, 3) := by decide +kernel
theorem dX7_shift_17 : decode cX7_shift 17 = .ok (.iload_n 3, 1) := by decide +kernel
theorem dX7_shift_18 : decode cX7_shift 18 = .ok (.sipush (-999), 3) := by decide +kernel
theorem dX7_shift_21 : decode cX7_shift 21 = .ok (.sipush 999, 3) := by decide +kernel
theorem dX7_shift_24 : decode cX7_shift 24 = .ok (.invokestatic 64, 3) := by decide +kernel
theorem dX7_shift_27 : decode cX7_shift 27 = .ok (.ifCond .ne 6, 3) := by decide +kernel
theorem dX7_shift_30 : decode cX7_shift 30 = .ok (.ldc 97, 2) := by decide +kernel
theorem dX7_shift_32 : decode cX7_shift 32 = .ok (.ireturn, 1) := by decide +kernel
theorem dX7_shift_33 : decode cX7_shift 33 = .ok (.aload_n 0, 1) := by decide +kernel
theorem dX7_shift_34 : decode cX7_shift 34 = .ok (.getfield 22, 3) := by decide +kernel
theorem dX7_shift_37 : decode cX7_shift 37 = .ok (.iconst 2, 1) := by decide +kernel
theorem dX7_shift_38 : decode cX7_shift 38 = .ok (.iload_n 1, 1) := by decide +kernel
theorem dX7_shift_39 : decode cX7_shift 39 = .ok (.imul, 1) := by decide +kernel
theorem dX7_shift_40 : decode cX7_shift 40 = .ok (.iload_n 2, 1) := by decide +kernel
theorem dX7_shift_41 : decode cX7_shift 41 = .ok (.iadd, 1) := by decide +kernel
theorem dX7_shift_42 : decode cX7_shift 42 = .ok (.iaload, 1) := by decide +kernel
theorem dX7_shift_43 : decode cX7_shift 43 = .ok (.istore 4, 2) := by decide +kernel
theorem dX7_shift_45 : decode cX7_shift 45 = .ok (.aload_n 0, 1) := by decide +kernel
theorem dX7_shift_46 : decode cX7_shift 46 = .ok (.getfield 22, 3) := by decide +kernel
theorem dX7_shift_49 : decode cX7_shift 49 = .ok (.iconst 2, 1) := by decide +kernel
theorem dX7_shift_50 : decode cX7_shift 50 = .ok (.iload_n 1, 1) := by decide +kernel
theorem dX7_shift_51 : decode cX7_shift 51 = .ok (.imul, 1) := by decide +kernel
theorem dX7_shift_52 : decode cX7_shift 52 = .ok (.iload_n 2, 1) := by decide +kernel
theorem dX7_shift_53 : decode cX7_shift 53 = .ok (.iadd, 1) := by decide +kernel
theorem dX7_shift_54 : decode cX7_shift 54 = .ok (.iload_n 3, 1) := by decide +kernel
theorem dX7_shift_55 : decode cX7_shift 55 = .ok (.iastore, 1) := by decide +kernel
theorem dX7_shift_56 : decode cX7_shift 56 = .ok (.iload 4, 2) := by decide +kernel
theorem dX7_shift_58 : decode cX7_shift 58 = .ok (.ireturn, 1) := by decide +kernel
theorem dX7_shiftAt_0 : decode cX7_shiftAt 0 = .ok (.aload_n 0, 1) := by decide +kernel
theorem dX7_shiftAt_1 : decode cX7_shiftAt 1 = .ok (.iload_n 1, 1) := by decide +kernel
theorem dX7_shiftAt_2 : decode cX7_shiftAt 2 = .ok (.invokevirtual 131, 3) := by decide +kernel
theorem dX7_shiftAt_5 : decode cX7_shiftAt 5 = .ok (.ifCond .eq 12, 3) := by decide +kernel
theorem dX7_shiftAt_8 : decode cX7_shiftAt 8 = .ok (.aload_n 0, 1) := by decide +kernel
theorem dX7_shiftAt_9 : decode cX7_shiftAt 9 = .ok (.getfield 22, 3) := by decide +kernel
theorem dX7_shiftAt_12 : decode cX7_shiftAt 12 = .ok (.iload_n 1, 1) := by decide +kernel
theorem dX7_shiftAt_13 : decode cX7_shiftAt 13 = .ok (.iaload, 1) := by decide +kernel
theorem dX7_shiftAt_14 : decode cX7_shiftAt 14 = .ok (.goto 4, 3) := by decide +kernel
theorem dX7_shiftAt_17 : decode cX7_shiftAt 17 = .ok (.iconst 0, 1) := by decide +kernel
theorem dX7_shiftAt_18 : decode cX7_shiftAt 18 = .ok (.ireturn, 1) := by decide +kernel
theorem dX7_stretchOf_0 : decode cX7_stretchOf 0 = .ok (.iconst 0, 1) := by decide +kernel
theorem dX7_stretchOf_1 : decode cX7_stretchOf 1 = .ok (.istore_n 2, 1) := by decide +kernel
theorem dX7_stretchOf_2 : decode cX7_stretchOf 2 = .ok (.iconst 0, 1) := by decide +kernel
theorem dX7_stretchOf_3 : decode cX7_stretchOf 3 = .ok (.istore_n 3, 1) := by decide +kernel
theorem dX7_stretchOf_4 : decode cX7_stretchOf 4 = .ok (.iload_n 3, 1) := by decide +kernel
theorem dX7_stretchOf_5 : decode cX7_stretchOf 5 = .ok (.iconst 2, 1) := by decide +kernel
theorem dX7_stretchOf_6 : decode cX7_stretchOf 6 = .ok (.if_icmp .ge 44, 3) := by decide +kernel
theorem dX7_stretchOf_9 : decode cX7_stretchOf 9 = .ok (.iload_n 2, 1) := by decide +kernel
theorem dX7_stretchOf_10 : decode cX7_stretchOf 10 = .ok (.aload_n 0, 1) := by decide +kernel
theorem dX7_stretchOf_11 : decode cX7_stretchOf 11 = .ok (.iconst 2, 1) := by decide +kernel
theorem dX7_stretchOf_12 : decode cX7_stretchOf 12 = .ok (.iload_n 1, 1) := by decide +kernel
theorem dX7_stretchOf_13 : decode cX7_stretchOf 13 = .ok (.invokestatic 79, 3) := by decide +kernel
theorem dX7_stretchOf_16 : decode cX7_stretchOf 16 = .ok (.imul, 1) := by decide +kernel
theorem dX7_stretchOf_17 : decode cX7_stretchOf 17 = .ok (.iload_n 3, 1) := by decide +kernel
theorem dX7_stretchOf_18 : decode cX7_stretchOf 18 = .ok (.iadd, 1) := by decide +kernel
theorem dX7_stretchOf_19 : decode cX7_stretchOf 19 = .ok (.invokevirtual 196, 3) := by decide +kernel
theorem dX7_stretchOf_22 : decode cX7_stretchOf 22 = .ok (.aload_n 0, 1) := by decide +kernel
theorem dX7_stretchOf_23 : decode cX7_stretchOf 23 = .ok (.iconst 2, 1) := by decide +kernel
theorem dX7_stretchOf_24 : decode cX7_stretchOf 24 = .ok (.iload_n 1, 1) := by decide +kernel
theorem dX7_stretchOf_25 : decode cX7_stretchOf 25 = .ok (.invokestatic 83, 3) := by decide +kernel
theorem dX7_stretchOf_28 : decode cX7_stretchOf 28 = .ok (.imul, 1) := by decide +kernel
theorem dX7_stretchOf_29 : decode cX7_stretchOf 29 = .ok (.iload_n 3, 1) := by decide +kernel
theorem dX7_stretchOf_30 : decode cX7_stretchOf 30 = .ok (.iadd, 1) := by decide +kernel
theorem dX7_stretchOf_31 : decode cX7_stretchOf 31 = .ok (.invokevirtual 196, 3) := by decide +kernel
theorem dX7_stretchOf_34 : decode cX7_stretchOf 34 = .ok (.isub, 1) := by decide +kernel
theorem dX7_stretchOf_35 : decode cX7_stretchOf 35 = .ok (.aload_n 0, 1) := by decide +kernel
theorem dX7_stretchOf_36 : decode cX7_stretchOf 36 = .ok (.iload_n 1, 1) := by decide +kernel
theorem dX7_stretchOf_37 : decode cX7_stretchOf 37 = .ok (.iload_n 3, 1) := by decide +kernel
theorem dX7_stretchOf_38 : decode cX7_stretchOf 38 = .ok (.invokevirtual 86, 3) := by decide +kernel
theorem dX7_stretchOf_41 : decode cX7_stretchOf 41 = .ok (.imul, 1) := by decide +kernel
theorem dX7_stretchOf_42 : decode cX7_stretchOf 42 = .ok (.iadd, 1) := by decide +kernel
theorem dX7_stretchOf_43 : decode cX7_stretchOf 43 = .ok (.istore_n 2, 1) := by decide +kernel
theorem dX7_stretchOf_44 : decode cX7_stretchOf 44 = .ok (.iinc 3 1, 3) := by decide +kernel
theorem dX7_stretchOf_47 : decode cX7_stretchOf 47 = .ok (.goto (-43), 3) := by decide +kernel
theorem dX7_stretchOf_50 : decode cX7_stretchOf 50 = .ok (.iload_n 2, 1) := by decide +kernel
theorem dX7_stretchOf_51 : decode cX7_stretchOf 51 = .ok (.ireturn, 1) := by decide +kernel
theorem dX7_stretch_0 : decode cX7_stretch 0 = .ok (.aload_n 0, 1) := by decide +kernel
theorem dX7_stretch_1 : decode cX7_stretch 1 = .ok (.iload_n 1, 1) := by decide +kernel
theorem dX7_stretch_2 : decode cX7_stretch 2 = .ok (.invokevirtual 72, 3) := by decide +kernel
theorem dX7_stretch_5 : decode cX7_stretch 5 = .ok (.ifCond .eq 28, 3) := by decide +kernel
theorem dX7_stretch_8 : decode cX7_stretch 8 = .ok (.iload_n 2, 1) := by decide +kernel
theorem dX7_stretch_9 : decode cX7_stretch 9 = .ok (.iconst 0, 1) := by decide +kernel
theorem dX7_stretch_10 : decode cX7_stretch 10 = .ok (.iconst 1, 1) := by decide +kernel
theorem dX7_stretch_11 : decode cX7_stretch 11 = .ok (.invokestatic 64, 3) := by decide +kernel
theorem dX7_stretch_14 : decode cX7_stretch 14 = .ok (.ifCond .eq 19, 3) := by decide +kernel
theorem dX7_stretch_17 : decode cX7_stretch 17 = .ok (.aload_n 0, 1) := by decide +kernel
theorem dX7_stretch_18 : decode cX7_stretch 18 = .ok (.iload_n 1, 1) := by decide +kernel
theorem dX7_stretch_19 : decode cX7_stretch 19 = .ok (.invokevirtual 199, 3) := by decide +kernel
theorem dX7_stretch_22 : decode cX7_stretch 22 = .ok (.i2l, 1) := by decide +kernel
theorem dX7_stretch_23 : decode cX7_stretch 23 = .ok (.ldc2_w 202, 3) := by decide +kernel
theorem dX7_stretch_26 : decode cX7_stretch 26 = .ok (.iload_n 2, 1) := by decide +kernel
theorem dX7_stretch_27 : decode cX7_stretch 27 = .ok (.invokestatic 138, 3) := by decide +kernel
theorem dX7_stretch_30 : decode cX7_stretch 30 = .ok (.goto 8, 3) := by decide +kernel
theorem dX7_stretch_33 : decode cX7_stretch 33 = .ok (.bipush (-2), 2) := by decide +kernel
theorem dX7_stretch_35 : decode cX7_stretch 35 = .ok (.invokestatic 160, 3) := by decide +kernel
theorem dX7_stretch_38 : decode cX7_stretch 38 = .ok (.lreturn, 1) := by decide +kernel
theorem dX7_workNow_0 : decode cX7_workNow 0 = .ok (.iconst 0, 1) := by decide +kernel
theorem dX7_workNow_1 : decode cX7_workNow 1 = .ok (.istore_n 1, 1) := by decide +kernel
theorem dX7_workNow_2 : decode cX7_workNow 2 = .ok (.iconst 0, 1) := by decide +kernel
theorem dX7_workNow_3 : decode cX7_workNow 3 = .ok (.istore_n 2, 1) := by decide +kernel
theorem dX7_workNow_4 : decode cX7_workNow 4 = .ok (.iload_n 2, 1) := by decide +kernel
theorem dX7_workNow_5 : decode cX7_workNow 5 = .ok (.bipush 10, 2) := by decide +kernel
theorem dX7_workNow_7 : decode cX7_workNow 7 = .ok (.if_icmp .ge 37, 3) := by decide +kernel
theorem dX7_workNow_10 : decode cX7_workNow 10 = .ok (.iload_n 1, 1) := by decide +kernel
theorem dX7_workNow_11 : decode cX7_workNow 11 = .ok (.aload_n 0, 1) := by decide +kernel
theorem dX7_workNow_12 : decode cX7_workNow 12 = .ok (.iload_n 2, 1) := by decide +kernel
theorem dX7_workNow_13 : decode cX7_workNow 13 = .ok (.invokevirtual 131, 3) := by decide +kernel
theorem dX7_workNow_16 : decode cX7_workNow 16 = .ok (.ifCond .eq 19, 3) := by decide +kernel
theorem dX7_workNow_19 : decode cX7_workNow 19 = .ok (.aload_n 0, 1) := by decide +kernel
theorem dX7_workNow_20 : decode cX7_workNow 20 = .ok (.getfield 19, 3) := by decide +kernel
theorem dX7_workNow_23 : decode cX7_workNow 23 = .ok (.iload_n 2, 1) := by decide +kernel
theorem dX7_workNow_24 : decode cX7_workNow 24 = .ok (.iaload, 1) := by decide +kernel
theorem dX7_workNow_25 : decode cX7_workNow 25 = .ok (.aload_n 0, 1) := by decide +kernel
theorem dX7_workNow_26 : decode cX7_workNow 26 = .ok (.getfield 22, 3) := by decide +kernel
theorem dX7_workNow_29 : decode cX7_workNow 29 = .ok (.iload_n 2, 1) := by decide +kernel
theorem dX7_workNow_30 : decode cX7_workNow 30 = .ok (.iaload, 1) := by decide +kernel
theorem dX7_workNow_31 : decode cX7_workNow 31 = .ok (.imul, 1) := by decide +kernel
theorem dX7_workNow_32 : decode cX7_workNow 32 = .ok (.goto 4, 3) := by decide +kernel
theorem dX7_workNow_35 : decode cX7_workNow 35 = .ok (.iconst 0, 1) := by decide +kernel
theorem dX7_workNow_36 : decode cX7_workNow 36 = .ok (.iadd, 1) := by decide +kernel
theorem dX7_workNow_37 : decode cX7_workNow 37 = .ok (.istore_n 1, 1) := by decide +kernel
theorem dX7_workNow_38 : decode cX7_workNow 38 = .ok (.iinc 2 1, 3) := by decide +kernel
theorem dX7_workNow_41 : decode cX7_workNow 41 = .ok (.goto (-37), 3) := by decide +kernel
theorem dX7_workNow_44 : decode cX7_workNow 44 = .ok (.iload_n 1, 1) := by decide +kernel
theorem dX7_workNow_45 : decode cX7_workNow 45 = .ok (.ireturn, 1) := by decide +kernel
theorem dX7_work_0 : decode cX7_work 0 = .ok (.iload_n 1, 1) := by decide +kernel
theorem dX7_work_1 : decode cX7_work 1 = .ok (.iconst 0, 1) := by decide +kernel
theorem dX7_work_2 : decode cX7_work 2 = .ok (.iconst 1, 1) := by decide +kernel
theorem dX7_work_3 : decode cX7_work 3 = .ok (.invokestatic 64, 3) := by decide +kernel
theorem dX7_work_6 : decode cX7_work 6 = .ok (.ifCond .eq 18, 3) := by decide +kernel
theorem dX7_work_9 : decode cX7_work 9 = .ok (.aload_n 0, 1) := by decide +kernel
theorem dX7_work_10 : decode cX7_work 10 = .ok (.invokevirtual 204, 3) := by decide +kernel
theorem dX7_work_13 : decode cX7_work 13 = .ok (.i2l, 1) := by decide +kernel
theorem dX7_work_14 : decode cX7_work 14 = .ok (.ldc2_w 202, 3) := by decide +kernel
theorem dX7_work_17 : decode cX7_work 17 = .ok (.iload_n 1, 1) := by decide +kernel
theorem dX7_work_18 : decode cX7_work 18 = .ok (.invokestatic 138, 3) := by decide +kernel
theorem dX7_work_21 : decode cX7_work 21 = .ok (.goto 8, 3) := by decide +kernel
theorem dX7_work_24 : decode cX7_work 24 = .ok (.bipush (-2), 2) := by decide +kernel
theorem dX7_work_26 : decode cX7_work 26 = .ok (.invokestatic 160, 3) := by decide +kernel
theorem dX7_work_29 : decode cX7_work 29 = .ok (.lreturn, 1) := by decide +kernel
theorem dX7_provesNow_0 : decode cX7_provesNow 0 = .ok (.iconst 0, 1) := by decide +kernel
theorem dX7_provesNow_1 : decode cX7_provesNow 1 = .ok (.istore_n 1, 1) := by decide +kernel
theorem dX7_provesNow_2 : decode cX7_provesNow 2 = .ok (.iload_n 1, 1) := by decide +kernel
theorem dX7_provesNow_3 : decode cX7_provesNow 3 = .ok (.aload_n 0, 1) := by decide +kernel
theorem dX7_provesNow_4 : decode cX7_provesNow 4 = .ok (.invokevirtual 68, 3) := by decide +kernel
theorem dX7_provesNow_7 : decode cX7_provesNow 7 = .ok (.if_icmp .ge 50, 3) := by decide +kernel
theorem dX7_provesNow_10 : decode cX7_provesNow 10 = .ok (.aload_n 0, 1) := by decide +kernel
theorem dX7_provesNow_11 : decode cX7_provesNow 11 = .ok (.iload_n 1, 1) := by decide +kernel
theorem dX7_provesNow_12 : decode cX7_provesNow 12 = .ok (.invokevirtual 199, 3) := by decide +kernel
theorem dX7_provesNow_15 : decode cX7_provesNow 15 = .ok (.istore_n 2, 1) := by decide +kernel
theorem dX7_provesNow_16 : decode cX7_provesNow 16 = .ok (.aload_n 0, 1) := by decide +kernel
theorem dX7_provesNow_17 : decode cX7_provesNow 17 = .ok (.iload_n 1, 1) := by decide +kernel
theorem dX7_provesNow_18 : decode cX7_provesNow 18 = .ok (.invokevirtual 174, 3) := by decide +kernel
theorem dX7_provesNow_21 : decode cX7_provesNow 21 = .ok (.ifCond .eq 30, 3) := by decide +kernel
theorem dX7_provesNow_24 : decode cX7_provesNow 24 = .ok (.iload_n 2, 1) := by decide +kernel
theorem dX7_provesNow_25 : decode cX7_provesNow 25 = .ok (.bipush 12, 2) := by decide +kernel
theorem dX7_provesNow_27 : decode cX7_provesNow 27 = .ok (.aload_n 0, 1) := by decide +kernel
theorem dX7_provesNow_28 : decode cX7_provesNow 28 = .ok (.iload_n 1, 1) := by decide +kernel
theorem dX7_provesNow_29 : decode cX7_provesNow 29 = .ok (.invokevirtual 111, 3) := by decide +kernel
theorem dX7_provesNow_32 : decode cX7_provesNow 32 = .ok (.imul, 1) := by decide +kernel
theorem dX7_provesNow_33 : decode cX7_provesNow 33 = .ok (.if_icmp .gt 16, 3) := by decide +kernel
theorem dX7_provesNow_36 : decode cX7_provesNow 36 = .ok (.iload_n 2, 1) := by decide +kernel
theorem dX7_provesNow_37 : decode cX7_provesNow 37 = .ok (.ineg, 1) := by decide +kernel
theorem dX7_provesNow_38 : decode cX7_provesNow 38 = .ok (.bipush 12, 2) := by decide +kernel
theorem dX7_provesNow_40 : decode cX7_provesNow 40 = .ok (.aload_n 0, 1) := by decide +kernel
theorem dX7_provesNow_41 : decode cX7_provesNow 41 = .ok (.iload_n 1, 1) := by decide +kernel
theorem dX7_provesNow_42 : decode cX7_provesNow 42 = .ok (.invokevirtual 111, 3) := by decide +kernel
theorem dX7_provesNow_45 : decode cX7_provesNow 45 = .ok (.imul, 1) := by decide +kernel
theorem dX7_provesNow_46 : decode cX7_provesNow 46 = .ok (.if_icmp .le 5, 3) := by decide +kernel
theorem dX7_provesNow_49 : decode cX7_provesNow 49 = .ok (.iconst 0, 1) := by decide +kernel
theorem dX7_provesNow_50 : decode cX7_provesNow 50 = .ok (.ireturn, 1) := by decide +kernel
theorem dX7_provesNow_51 : decode cX7_provesNow 51 = .ok (.iinc 1 1, 3) := by decide +kernel
theorem dX7_provesNow_54 : decode cX7_provesNow 54 = .ok (.goto (-52), 3) := by decide +kernel
theorem dX7_provesNow_57 : decode cX7_provesNow 57 = .ok (.aload_n 0, 1) := by decide +kernel
theorem dX7_provesNow_58 : decode cX7_provesNow 58 = .ok (.aload_n 0, 1) := by decide +kernel
theorem dX7_provesNow_59 : decode cX7_provesNow 59 = .ok (.getfield 76, 3) := by decide +kernel
theorem dX7_provesNow_62 : decode cX7_provesNow 62 = .ok (.invokevirtual 157, 3) := by decide +kernel
theorem dX7_provesNow_65 : decode cX7_provesNow 65 = .ok (.istore_n 1, 1) := by decide +kernel
theorem dX7_provesNow_66 : decode cX7_provesNow 66 = .ok (.iload_n 1, 1) := by decide +kernel
theorem dX7_provesNow_67 : decode cX7_provesNow 67 = .ok (.iconst (-1), 1) := by decide +kernel
theorem dX7_provesNow_68 : decode cX7_provesNow 68 = .ok (.if_icmp .eq 33, 3) := by decide +kernel
theorem dX7_provesNow_71 : decode cX7_provesNow 71 = .ok (.aload_n 0, 1) := by decide +kernel
theorem dX7_provesNow_72 : decode cX7_provesNow 72 = .ok (.invokevirtual 204, 3) := by decide +kernel
theorem dX7_provesNow_75 : decode cX7_provesNow 75 = .ok (.i2l, 1) := by decide +kernel
theorem dX7_provesNow_76 : decode cX7_provesNow 76 = .ok (.aload_n 0, 1) := by decide +kernel
theorem dX7_provesNow_77 : decode cX7_provesNow 77 = .ok (.getfield 39, 3) := by decide +kernel
theorem dX7_provesNow_80 : decode cX7_provesNow 80 = .ok (.iload_n 1, 1) := by decide +kernel
theorem dX7_provesNow_81 : decode cX7_provesNow 81 = .ok (.laload, 1) := by decide +kernel
theorem dX7_provesNow_82 : decode cX7_provesNow 82 = .ok (.lmul, 1) := by decide +kernel
theorem dX7_provesNow_83 : decode cX7_provesNow 83 = .ok (.ldc2_w 202, 3) := by decide +kernel
theorem dX7_provesNow_86 : decode cX7_provesNow 86 = .ok (.aload_n 0, 1) := by decide +kernel
theorem dX7_provesNow_87 : decode cX7_provesNow 87 = .ok (.getfield 36, 3) := by decide +kernel
theorem dX7_provesNow_90 : decode cX7_provesNow 90 = .ok (.iload_n 1, 1) := by decide +kernel
theorem dX7_provesNow_91 : decode cX7_provesNow 91 = .ok (.laload, 1) := by decide +kernel
theorem dX7_provesNow_92 : decode cX7_provesNow 92 = .ok (.lmul, 1) := by decide +kernel
theorem dX7_provesNow_93 : decode cX7_provesNow 93 = .ok (.lcmp, 1) := by decide +kernel
theorem dX7_provesNow_94 : decode cX7_provesNow 94 = .ok (.ifCond .ne 7, 3) := by decide +kernel
theorem dX7_provesNow_97 : decode cX7_provesNow 97 = .ok (.iconst 2, 1) := by decide +kernel
theorem dX7_provesNow_98 : decode cX7_provesNow 98 = .ok (.goto 4, 3) := by decide +kernel
theorem dX7_provesNow_101 : decode cX7_provesNow 101 = .ok (.iconst 1, 1) := by decide +kernel
theorem dX7_provesNow_102 : decode cX7_provesNow 102 = .ok (.ireturn, 1) := by decide +kernel
theorem dX7_proves_0 : decode cX7_proves 0 = .ok (.aload_n 0, 1) := by decide +kernel
theorem dX7_proves_1 : decode cX7_proves 1 = .ok (.invokevirtual 207, 3) := by decide +kernel
theorem dX7_proves_4 : decode cX7_proves 4 = .ok (.ireturn, 1) := by decide +kernel
theorem dX7_isCross_0 : decode cX7_isCross 0 = .ok (.iload_n 1, 1) := by decide +kernel
theorem dX7_isCross_1 : decode cX7_isCross 1 = .ok (.invokestatic 83, 3) := by decide +kernel
theorem dX7_isCross_4 : decode cX7_isCross 4 = .ok (.iload_n 2, 1) := by decide +kernel
theorem dX7_isCross_5 : decode cX7_isCross 5 = .ok (.invokestatic 83, 3) := by decide +kernel
theorem dX7_isCross_8 : decode cX7_isCross 8 = .ok (.if_icmp .eq 40, 3) := by decide +kernel
theorem dX7_isCross_11 : decode cX7_isCross 11 = .ok (.iload_n 1, 1) := by decide +kernel
theorem dX7_isCross_12 : decode cX7_isCross 12 = .ok (.invokestatic 83, 3) := by decide +kernel
theorem dX7_isCross_15 : decode cX7_isCross 15 = .ok (.iload_n 2, 1) := by decide +kernel
theorem dX7_isCross_16 : decode cX7_isCross 16 = .ok (.invokestatic 79, 3) := by decide +kernel
theorem dX7_isCross_19 : decode cX7_isCross 19 = .ok (.if_icmp .eq 29, 3) := by decide +kernel
theorem dX7_isCross_22 : decode cX7_isCross 22 = .ok (.iload_n 1, 1) := by decide +kernel
theorem dX7_isCross_23 : decode cX7_isCross 23 = .ok (.invokestatic 79, 3) := by decide +kernel
theorem dX7_isCross_26 : decode cX7_isCross 26 = .ok (.iload_n 2, 1) := by decide +kernel
theorem dX7_isCross_27 : decode cX7_isCross 27 = .ok (.invokestatic 83, 3) := by decide +kernel
theorem dX7_isCross_30 : decode cX7_isCross 30 = .ok (.if_icmp .eq 18, 3) := by decide +kernel
theorem dX7_isCross_33 : decode cX7_isCross 33 = .ok (.iload_n 1, 1) := by decide +kernel
theorem dX7_isCross_34 : decode cX7_isCross 34 = .ok (.invokestatic 79, 3) := by decide +kernel
theorem dX7_isCross_37 : decode cX7_isCross 37 = .ok (.iload_n 2, 1) := by decide +kernel
theorem dX7_isCross_38 : decode cX7_isCross 38 = .ok (.invokestatic 79, 3) := by decide +kernel
theorem dX7_isCross_41 : decode cX7_isCross 41 = .ok (.if_icmp .eq 7, 3) := by decide +kernel
theorem dX7_isCross_44 : decode cX7_isCross 44 = .ok (.iconst 1, 1) := by decide +kernel
theorem dX7_isCross_45 : decode cX7_isCross 45 = .ok (.goto 4, 3) := by decide +kernel
theorem dX7_isCross_48 : decode cX7_isCross 48 = .ok (.iconst 0, 1) := by decide +kernel
theorem dX7_isCross_49 : decode cX7_isCross 49 = .ok (.istore_n 3, 1) := by decide +kernel
theorem dX7_isCross_50 : decode cX7_isCross 50 = .ok (.aload_n 0, 1) := by decide +kernel
theorem dX7_isCross_51 : decode cX7_isCross 51 = .ok (.getfield 7, 3) := by decide +kernel
theorem dX7_isCross_54 : decode cX7_isCross 54 = .ok (.iload_n 2, 1) := by decide +kernel
theorem dX7_isCross_55 : decode cX7_isCross 55 = .ok (.invokestatic 83, 3) := by decide +kernel
theorem dX7_isCross_58 : decode cX7_isCross 58 = .ok (.iaload, 1) := by decide +kernel
theorem dX7_isCross_59 : decode cX7_isCross 59 = .ok (.aload_n 0, 1) := by decide +kernel
theorem dX7_isCross_60 : decode cX7_isCross 60 = .ok (.getfield 7, 3) := by decide +kernel
theorem dX7_isCross_63 : decode cX7_isCross 63 = .ok (.iload_n 1, 1) := by decide +kernel
theorem dX7_isCross_64 : decode cX7_isCross 64 = .ok (.invokestatic 83, 3) := by decide +kernel
theorem dX7_isCross_67 : decode cX7_isCross 67 = .ok (.iaload, 1) := by decide +kernel
theorem dX7_isCross_68 : decode cX7_isCross 68 = .ok (.isub, 1) := by decide +kernel
theorem dX7_isCross_69 : decode cX7_isCross 69 = .ok (.istore 4, 2) := by decide +kernel
theorem dX7_isCross_71 : decode cX7_isCross 71 = .ok (.aload_n 0, 1) := by decide +kernel
theorem dX7_isCross_72 : decode cX7_isCross 72 = .ok (.getfield 13, 3) := by decide +kernel
theorem dX7_isCross_75 : decode cX7_isCross 75 = .ok (.iload_n 2, 1) := by decide +kernel
theorem dX7_isCross_76 : decode cX7_isCross 76 = .ok (.invokestatic 83, 3) := by decide +kernel
theorem dX7_isCross_79 : decode cX7_isCross 79 = .ok (.iaload, 1) := by decide +kernel
theorem dX7_isCross_80 : decode cX7_isCross 80 = .ok (.aload_n 0, 1) := by decide +kernel
theorem dX7_isCross_81 : decode cX7_isCross 81 = .ok (.getfield 13, 3) := by decide +kernel
theorem dX7_isCross_84 : decode cX7_isCross 84 = .ok (.iload_n 1, 1) := by decide +kernel
theorem dX7_isCross_85 : decode cX7_isCross 85 = .ok (.invokestatic 83, 3) := by decide +kernel
theorem dX7_isCross_88 : decode cX7_isCross 88 = .ok (.iaload, 1) := by decide +kernel
theorem dX7_isCross_89 : decode cX7_isCross 89 = .ok (.isub, 1) := by decide +kernel
theorem dX7_isCross_90 : decode cX7_isCross 90 = .ok (.istore 5, 2) := by decide +kernel
theorem dX7_isCross_92 : decode cX7_isCross 92 = .ok (.aload_n 0, 1) := by decide +kernel
theorem dX7_isCross_93 : decode cX7_isCross 93 = .ok (.aload_n 0, 1) := by decide +kernel
theorem dX7_isCross_94 : decode cX7_isCross 94 = .ok (.iload_n 1, 1) := by decide +kernel
theorem dX7_isCross_95 : decode cX7_isCross 95 = .ok (.iconst 0, 1) := by decide +kernel
theorem dX7_isCross_96 : decode cX7_isCross 96 = .ok (.invokevirtual 86, 3) := by decide +kernel
theorem dX7_isCross_99 : decode cX7_isCross 99 = .ok (.aload_n 0, 1) := by decide +kernel
theorem dX7_isCross_100 : decode cX7_isCross 100 = .ok (.iload_n 2, 1) := by decide +kernel
theorem dX7_isCross_101 : decode cX7_isCross 101 = .ok (.iconst 1, 1) := by decide +kernel
theorem dX7_isCross_102 : decode cX7_isCross 102 = .ok (.invokevirtual 86, 3) := by decide +kernel
theorem dX7_isCross_105 : decode cX7_isCross 105 = .ok (.imul, 1) := by decide +kernel
theorem dX7_isCross_106 : decode cX7_isCross 106 = .ok (.aload_n 0, 1) := by decide +kernel
theorem dX7_isCross_107 : decode cX7_isCross 107 = .ok (.iload_n 1, 1) := by decide +kernel
theorem dX7_isCross_108 : decode cX7_isCross 108 = .ok (.iconst 1, 1) := by decide +kernel
theorem dX7_isCross_109 : decode cX7_isCross 109 = .ok (.invokevirtual 86, 3) := by decide +kernel
theorem dX7_isCross_112 : decode cX7_isCross 112 = .ok (.aload_n 0, 1) := by decide +kernel
theorem dX7_isCross_113 : decode cX7_isCross 113 = .ok (.iload_n 2, 1) := by decide +kernel
theorem dX7_isCross_114 : decode cX7_isCross 114 = .ok (.iconst 0, 1) := by decide +kernel
theorem dX7_isCross_115 : decode cX7_isCross 115 = .ok (.invokevirtual 86, 3) := by decide +kernel
theorem dX7_isCross_118 : decode cX7_isCross 118 = .ok (.imul, 1) := by decide +kernel
theorem dX7_isCross_119 : decode cX7_isCross 119 = .ok (.isub, 1) := by decide +kernel
theorem dX7_isCross_120 : decode cX7_isCross 120 = .ok (.putfield 210, 3) := by decide +kernel
theorem dX7_isCross_123 : decode cX7_isCross 123 = .ok (.aload_n 0, 1) := by decide +kernel
theorem dX7_isCross_124 : decode cX7_isCross 124 = .ok (.getfield 210, 3) := by decide +kernel
theorem dX7_isCross_127 : decode cX7_isCross 127 = .ok (.ifCond .ge 7, 3) := by decide +kernel
theorem dX7_isCross_130 : decode cX7_isCross 130 = .ok (.iconst (-1), 1) := by decide +kernel
theorem dX7_isCross_131 : decode cX7_isCross 131 = .ok (.goto 4, 3) := by decide +kernel
theorem dX7_isCross_134 : decode cX7_isCross 134 = .ok (.iconst 1, 1) := by decide +kernel
theorem dX7_isCross_135 : decode cX7_isCross 135 = .ok (.istore 6, 2) := by decide +kernel
theorem dX7_isCross_137 : decode cX7_isCross 137 = .ok (.aload_n 0, 1) := by decide +kernel
theorem dX7_isCross_138 : decode cX7_isCross 138 = .ok (.dup, 1) := by decide +kernel
theorem dX7_isCross_139 : decode cX7_isCross 139 = .ok (.getfield 210, 3) := by decide +kernel
theorem dX7_isCross_142 : decode cX7_isCross 142 = .ok (.iload 6, 2) := by decide +kernel
theorem dX7_isCross_144 : decode cX7_isCross 144 = .ok (.imul, 1) := by decide +kernel
theorem dX7_isCross_145 : decode cX7_isCross 145 = .ok (.putfield 210, 3) := by decide +kernel
theorem dX7_isCross_148 : decode cX7_isCross 148 = .ok (.aload_n 0, 1) := by decide +kernel
theorem dX7_isCross_149 : decode cX7_isCross 149 = .ok (.iload 6, 2) := by decide +kernel
theorem dX7_isCross_151 : decode cX7_isCross 151 = .ok (.iload 4, 2) := by decide +kernel
theorem dX7_isCross_153 : decode cX7_isCross 153 = .ok (.aload_n 0, 1) := by decide +kernel
theorem dX7_isCross_154 : decode cX7_isCross 154 = .ok (.iload_n 2, 1) := by decide +kernel
theorem dX7_isCross_155 : decode cX7_isCross 155 = .ok (.iconst 1, 1) := by decide +kernel
theorem dX7_isCross_156 : decode cX7_isCross 156 = .ok (.invokevirtual 86, 3) := by decide +kernel
theorem dX7_isCross_159 : decode cX7_isCross 159 = .ok (.imul, 1) := by decide +kernel
theorem dX7_isCross_160 : decode cX7_isCross 160 = .ok (.iload 5, 2) := by decide +kernel
theorem dX7_isCross_162 : decode cX7_isCross 162 = .ok (.aload_n 0, 1) := by decide +kernel
theorem dX7_isCross_163 : decode cX7_isCross 163 = .ok (.iload_n 2, 1) := by decide +kernel
theorem dX7_isCross_164 : decode cX7_isCross 164 = .ok (.iconst 0, 1) := by decide +kernel
theorem dX7_isCross_165 : decode cX7_isCross 165 = .ok (.invokevirtual 86, 3) := by decide +kernel
theorem dX7_isCross_168 : decode cX7_isCross 168 = .ok (.imul, 1) := by decide +kernel
theorem dX7_isCross_169 : decode cX7_isCross 169 = .ok (.isub, 1) := by decide +kernel
theorem dX7_isCross_170 : decode cX7_isCross 170 = .ok (.imul, 1) := by decide +kernel
theorem dX7_isCross_171 : decode cX7_isCross 171 = .ok (.putfield 213, 3) := by decide +kernel
theorem dX7_isCross_174 : decode cX7_isCross 174 = .ok (.aload_n 0, 1) := by decide +kernel
theorem dX7_isCross_175 : decode cX7_isCross 175 = .ok (.iload 6, 2) := by decide +kernel
theorem dX7_isCross_177 : decode cX7_isCross 177 = .ok (.iload 4, 2) := by decide +kernel
theorem dX7_isCross_179 : decode cX7_isCross 179 = .ok (.aload_n 0, 1) := by decide +kernel
theorem dX7_isCross_180 : decode cX7_isCross 180 = .ok (.iload_n 1, 1) := by decide +kernel
theorem dX7_isCross_181 : decode cX7_isCross 181 = .ok (.iconst 1, 1) := by decide +kernel
theorem dX7_isCross_182 : decode cX7_isCross 182 = .ok (.invokevirtual 86, 3) := by decide +kernel
theorem dX7_isCross_185 : decode cX7_isCross 185 = .ok (.imul, 1) := by decide +kernel
theorem dX7_isCross_186 : decode cX7_isCross 186 = .ok (.iload 5, 2) := by decide +kernel
theorem dX7_isCross_188 : decode cX7_isCross 188 = .ok (.aload_n 0, 1) := by decide +kernel
theorem dX7_isCross_189 : decode cX7_isCross 189 = .ok (.iload_n 1, 1) := by decide +kernel
theorem dX7_isCross_190 : decode cX7_isCross 190 = .ok (.iconst 0, 1) := by decide +kernel
theorem dX7_isCross_191 : decode cX7_isCross 191 = .ok (.invokevirtual 86, 3) := by decide +kernel
theorem dX7_isCross_194 : decode cX7_isCross 194 = .ok (.imul, 1) := by decide +kernel
theorem dX7_isCross_195 : decode cX7_isCross 195 = .ok (.isub, 1) := by decide +kernel
theorem dX7_isCross_196 : decode cX7_isCross 196 = .ok (.imul, 1) := by decide +kernel
theorem dX7_isCross_197 : decode cX7_isCross 197 = .ok (.putfield 216, 3) := by decide +kernel
theorem dX7_isCross_200 : decode cX7_isCross 200 = .ok (.iload_n 3, 1) := by decide +kernel
theorem dX7_isCross_201 : decode cX7_isCross 201 = .ok (.ifCond .eq 48, 3) := by decide +kernel
theorem dX7_isCross_204 : decode cX7_isCross 204 = .ok (.aload_n 0, 1) := by decide +kernel
theorem dX7_isCross_205 : decode cX7_isCross 205 = .ok (.getfield 210, 3) := by decide +kernel
theorem dX7_isCross_208 : decode cX7_isCross 208 = .ok (.ifCond .eq 41, 3) := by decide +kernel
theorem dX7_isCross_211 : decode cX7_isCross 211 = .ok (.aload_n 0, 1) := by decide +kernel
theorem dX7_isCross_212 : decode cX7_isCross 212 = .ok (.getfield 213, 3) := by decide +kernel
theorem dX7_isCross_215 : decode cX7_isCross 215 = .ok (.iconst 1, 1) := by decide +kernel
theorem dX7_isCross_216 : decode cX7_isCross 216 = .ok (.aload_n 0, 1) := by decide +kernel
theorem dX7_isCross_217 : decode cX7_isCross 217 = .ok (.getfield 210, 3) := by decide +kernel
theorem dX7_isCross_220 : decode cX7_isCross 220 = .ok (.iconst 1, 1) := by decide +kernel
theorem dX7_isCross_221 : decode cX7_isCross 221 = .ok (.isub, 1) := by decide +kernel
theorem dX7_isCross_222 : decode cX7_isCross 222 = .ok (.invokestatic 64, 3) := by decide +kernel
theorem dX7_isCross_225 : decode cX7_isCross 225 = .ok (.ifCond .eq 24, 3) := by decide +kernel
theorem dX7_isCross_228 : decode cX7_isCross 228 = .ok (.aload_n 0, 1) := by decide +kernel
theorem dX7_isCross_229 : decode cX7_isCross 229 = .ok (.getfield 216, 3) := by decide +kernel
theorem dX7_isCross_232 : decode cX7_isCross 232 = .ok (.iconst 1, 1) := by decide +kernel
theorem dX7_isCross_233 : decode cX7_isCross 233 = .ok (.aload_n 0, 1) := by decide +kernel
theorem dX7_isCross_234 : decode cX7_isCross 234 = .ok (.getfield 210, 3) := by decide +kernel
theorem dX7_isCross_237 : decode cX7_isCross 237 = .ok (.iconst 1, 1) := by decide +kernel
theorem dX7_isCross_238 : decode cX7_isCross 238 = .ok (.isub, 1) := by decide +kernel
theorem dX7_isCross_239 : decode cX7_isCross 239 = .ok (.invokestatic 64, 3) := by decide +kernel
theorem dX7_isCross_242 : decode cX7_isCross 242 = .ok (.ifCond .eq 7, 3) := by decide +kernel
theorem dX7_isCross_245 : decode cX7_isCross 245 = .ok (.iconst 1, 1) := by decide +kernel
theorem dX7_isCross_246 : decode cX7_isCross 246 = .ok (.goto 4, 3) := by decide +kernel
theorem dX7_isCross_249 : decode cX7_isCross 249 = .ok (.iconst 0, 1) := by decide +kernel
theorem dX7_isCross_250 : decode cX7_isCross 250 = .ok (.ireturn, 1) := by decide +kernel
theorem dX7_crossing_0 : decode cX7_crossing 0 = .ok (.iload_n 1, 1) := by decide +kernel
theorem dX7_crossing_1 : decode cX7_crossing 1 = .ok (.istore_n 3, 1) := by decide +kernel
theorem dX7_crossing_2 : decode cX7_crossing 2 = .ok (.iconst (-1), 1) := by decide +kernel
theorem dX7_crossing_3 : decode cX7_crossing 3 = .ok (.istore 4, 2) := by decide +kernel
theorem dX7_crossing_5 : decode cX7_crossing 5 = .ok (.iconst 0, 1) := by decide +kernel
theorem dX7_crossing_6 : decode cX7_crossing 6 = .ok (.istore 5, 2) := by decide +kernel
theorem dX7_crossing_8 : decode cX7_crossing 8 = .ok (.iload 5, 2) := by decide +kernel
theorem dX7_crossing_10 : decode cX7_crossing 10 = .ok (.aload_n 0, 1) := by decide +kernel
theorem dX7_crossing_11 : decode cX7_crossing 11 = .ok (.invokevirtual 68, 3) := by decide +kernel
theorem dX7_crossing_14 : decode cX7_crossing 14 = .ok (.if_icmp .ge 105, 3) := by decide +kernel
theorem dX7_crossing_17 : decode cX7_crossing 17 = .ok (.iload 5, 2) := by decide +kernel
theorem dX7_crossing_19 : decode cX7_crossing 19 = .ok (.iconst 1, 1) := by decide +kernel
theorem dX7_crossing_20 : decode cX7_crossing 20 = .ok (.iadd, 1) := by decide +kernel
theorem dX7_crossing_21 : decode cX7_crossing 21 = .ok (.istore 6, 2) := by decide +kernel
theorem dX7_crossing_23 : decode cX7_crossing 23 = .ok (.iload 6, 2) := by decide +kernel
theorem dX7_crossing_25 : decode cX7_crossing 25 = .ok (.aload_n 0, 1) := by decide +kernel
theorem dX7_crossing_26 : decode cX7_crossing 26 = .ok (.invokevirtual 68, 3) := by decide +kernel
theorem dX7_crossing_29 : decode cX7_crossing 29 = .ok (.if_icmp .ge 84, 3) := by decide +kernel
theorem dX7_crossing_32 : decode cX7_crossing 32 = .ok (.iload_n 2, 1) := by decide +kernel
theorem dX7_crossing_33 : decode cX7_crossing 33 = .ok (.iload 5, 2) := by decide +kernel
theorem dX7_crossing_35 : decode cX7_crossing 35 = .ok (.ishr, 1) := by decide +kernel
theorem dX7_crossing_36 : decode cX7_crossing 36 = .ok (.iconst 1, 1) := by decide +kernel
theorem dX7_crossing_37 : decode cX7_crossing 37 = .ok (.iand, 1) := by decide +kernel
theorem dX7_crossing_38 : decode cX7_crossing 38 = .ok (.iconst 1, 1) := by decide +kernel
theorem dX7_crossing_39 : decode cX7_crossing 39 = .ok (.if_icmp .ne 28, 3) := by decide +kernel
theorem dX7_crossing_42 : decode cX7_crossing 42 = .ok (.iload_n 2, 1) := by decide +kernel
theorem dX7_crossing_43 : decode cX7_crossing 43 = .ok (.iload 6, 2) := by decide +kernel
theorem dX7_crossing_45 : decode cX7_crossing 45 = .ok (.ishr, 1) := by decide +kernel
theorem dX7_crossing_46 : decode cX7_crossing 46 = .ok (.iconst 1, 1) := by decide +kernel
theorem dX7_crossing_47 : decode cX7_crossing 47 = .ok (.iand, 1) := by decide +kernel
theorem dX7_crossing_48 : decode cX7_crossing 48 = .ok (.iconst 1, 1) := by decide +kernel
theorem dX7_crossing_49 : decode cX7_crossing 49 = .ok (.if_icmp .ne 18, 3) := by decide +kernel
theorem dX7_crossing_52 : decode cX7_crossing 52 = .ok (.aload_n 0, 1) := by decide +kernel
theorem dX7_crossing_53 : decode cX7_crossing 53 = .ok (.iload 5, 2) := by decide +kernel
theorem dX7_crossing_55 : decode cX7_crossing 55 = .ok (.iload 6, 2) := by decide +kernel
theorem dX7_crossing_57 : decode cX7_crossing 57 = .ok (.invokevirtual 219, 3) := by decide +kernel
theorem dX7_crossing_60 : decode cX7_crossing 60 = .ok (.ifCond .eq 7, 3) := by decide +kernel
theorem dX7_crossing_63 : decode cX7_crossing 63 = .ok (.iconst 1, 1) := by decide +kernel
theorem dX7_crossing_64 : decode cX7_crossing 64 = .ok (.goto 4, 3) := by decide +kernel
theorem dX7_crossing_67 : decode cX7_crossing 67 = .ok (.iconst 0, 1) := by decide +kernel
theorem dX7_crossing_68 : decode cX7_crossing 68 = .ok (.istore 7, 2) := by decide +kernel
theorem dX7_crossing_70 : decode cX7_crossing 70 = .ok (.iload 7, 2) := by decide +kernel
theorem dX7_crossing_72 : decode cX7_crossing 72 = .ok (.ifCond .eq 18, 3) := by decide +kernel
theorem dX7_crossing_75 : decode cX7_crossing 75 = .ok (.iload_n 3, 1) := by decide +kernel
theorem dX7_crossing_76 : decode cX7_crossing 76 = .ok (.ifCond .ne 14, 3) := by decide +kernel
theorem dX7_crossing_79 : decode cX7_crossing 79 = .ok (.bipush 16, 2) := by decide +kernel
theorem dX7_crossing_81 : decode cX7_crossing 81 = .ok (.iload 5, 2) := by decide +kernel
theorem dX7_crossing_83 : decode cX7_crossing 83 = .ok (.imul, 1) := by decide +kernel
theorem dX7_crossing_84 : decode cX7_crossing 84 = .ok (.iload 6, 2) := by decide +kernel
theorem dX7_crossing_86 : decode cX7_crossing 86 = .ok (.iadd, 1) := by decide +kernel
theorem dX7_crossing_87 : decode cX7_crossing 87 = .ok (.goto 5, 3) := by decide +kernel
theorem dX7_crossing_90 : decode cX7_crossing 90 = .ok (.iload 4, 2) := by decide +kernel
theorem dX7_crossing_92 : decode cX7_crossing 92 = .ok (.istore 4, 2) := by decide +kernel
theorem dX7_crossing_94 : decode cX7_crossing 94 = .ok (.iload_n 3, 1) := by decide +kernel
theorem dX7_crossing_95 : decode cX7_crossing 95 = .ok (.iload 7, 2) := by decide +kernel
theorem dX7_crossing_97 : decode cX7_crossing 97 = .ok (.ifCond .eq 7, 3) := by decide +kernel
theorem dX7_crossing_100 : decode cX7_crossing 100 = .ok (.iconst 1, 1) := by decide +kernel
theorem dX7_crossing_101 : decode cX7_crossing 101 = .ok (.goto 4, 3) := by decide +kernel
theorem dX7_crossing_104 : decode cX7_crossing 104 = .ok (.iconst 0, 1) := by decide +kernel
theorem dX7_crossing_105 : decode cX7_crossing 105 = .ok (.isub, 1) := by decide +kernel
theorem dX7_crossing_106 : decode cX7_crossing 106 = .ok (.istore_n 3, 1) := by decide +kernel
theorem dX7_crossing_107 : decode cX7_crossing 107 = .ok (.iinc 6 1, 3) := by decide +kernel
theorem dX7_crossing_110 : decode cX7_crossing 110 = .ok (.goto (-87), 3) := by decide +kernel
theorem dX7_crossing_113 : decode cX7_crossing 113 = .ok (.iinc 5 1, 3) := by decide +kernel
theorem dX7_crossing_116 : decode cX7_crossing 116 = .ok (.goto (-108), 3) := by decide +kernel
theorem dX7_crossing_119 : decode cX7_crossing 119 = .ok (.iload 4, 2) := by decide +kernel
theorem dX7_crossing_121 : decode cX7_crossing 121 = .ok (.ireturn, 1) := by decide +kernel
theorem dX7_crossings_0 : decode cX7_crossings 0 = .ok (.aload_n 0, 1) := by decide +kernel
theorem dX7_crossings_1 : decode cX7_crossings 1 = .ok (.aload_n 0, 1) := by decide +kernel
theorem dX7_crossings_2 : decode cX7_crossings 2 = .ok (.getfield 76, 3) := by decide +kernel
theorem dX7_crossings_5 : decode cX7_crossings 5 = .ok (.invokevirtual 157, 3) := by decide +kernel
theorem dX7_crossings_8 : decode cX7_crossings 8 = .ok (.istore_n 1, 1) := by decide +kernel
theorem dX7_crossings_9 : decode cX7_crossings 9 = .ok (.iconst 0, 1) := by decide +kernel
theorem dX7_crossings_10 : decode cX7_crossings 10 = .ok (.istore_n 2, 1) := by decide +kernel
theorem dX7_crossings_11 : decode cX7_crossings 11 = .ok (.iload_n 1, 1) := by decide +kernel
theorem dX7_crossings_12 : decode cX7_crossings 12 = .ok (.iconst (-1), 1) := by decide +kernel
theorem dX7_crossings_13 : decode cX7_crossings 13 = .ok (.if_icmp .eq 19, 3) := by decide +kernel
theorem dX7_crossings_16 : decode cX7_crossings 16 = .ok (.aload_n 0, 1) := by decide +kernel
theorem dX7_crossings_17 : decode cX7_crossings 17 = .ok (.iload_n 2, 1) := by decide +kernel
theorem dX7_crossings_18 : decode cX7_crossings 18 = .ok (.iload_n 1, 1) := by decide +kernel
theorem dX7_crossings_19 : decode cX7_crossings 19 = .ok (.invokevirtual 222, 3) := by decide +kernel
theorem dX7_crossings_22 : decode cX7_crossings 22 = .ok (.iconst (-1), 1) := by decide +kernel
theorem dX7_crossings_23 : decode cX7_crossings 23 = .ok (.if_icmp .eq 9, 3) := by decide +kernel
theorem dX7_crossings_26 : decode cX7_crossings 26 = .ok (.iinc 2 1, 3) := by decide +kernel
theorem dX7_crossings_29 : decode cX7_crossings 29 = .ok (.goto (-18), 3) := by decide +kernel
theorem dX7_crossings_32 : decode cX7_crossings 32 = .ok (.iload_n 1, 1) := by decide +kernel
theorem dX7_crossings_33 : decode cX7_crossings 33 = .ok (.iconst (-1), 1) := by decide +kernel
theorem dX7_crossings_34 : decode cX7_crossings 34 = .ok (.if_icmp .ne 7, 3) := by decide +kernel
theorem dX7_crossings_37 : decode cX7_crossings 37 = .ok (.iconst (-1), 1) := by decide +kernel
theorem dX7_crossings_38 : decode cX7_crossings 38 = .ok (.goto 4, 3) := by decide +kernel
theorem dX7_crossings_41 : decode cX7_crossings 41 = .ok (.iload_n 2, 1) := by decide +kernel
theorem dX7_crossings_42 : decode cX7_crossings 42 = .ok (.ireturn, 1) := by decide +kernel
theorem dX7_crossOf_0 : decode cX7_crossOf 0 = .ok (.aload_n 0, 1) := by decide +kernel
theorem dX7_crossOf_1 : decode cX7_crossOf 1 = .ok (.iload_n 1, 1) := by decide +kernel
theorem dX7_crossOf_2 : decode cX7_crossOf 2 = .ok (.aload_n 0, 1) := by decide +kernel
theorem dX7_crossOf_3 : decode cX7_crossOf 3 = .ok (.aload_n 0, 1) := by decide +kernel
theorem dX7_crossOf_4 : decode cX7_crossOf 4 = .ok (.getfield 76, 3) := by decide +kernel
theorem dX7_crossOf_7 : decode cX7_crossOf 7 = .ok (.invokevirtual 157, 3) := by decide +kernel
theorem dX7_crossOf_10 : decode cX7_crossOf 10 = .ok (.invokevirtual 222, 3) := by decide +kernel
theorem dX7_crossOf_13 : decode cX7_crossOf 13 = .ok (.istore_n 3, 1) := by decide +kernel
theorem dX7_crossOf_14 : decode cX7_crossOf 14 = .ok (.iload_n 3, 1) := by decide +kernel
theorem dX7_crossOf_15 : decode cX7_crossOf 15 = .ok (.iconst (-1), 1) := by decide +kernel
theorem dX7_crossOf_16 : decode cX7_crossOf 16 = .ok (.if_icmp .ne 6, 3) := by decide +kernel
theorem dX7_crossOf_19 : decode cX7_crossOf 19 = .ok (.bipush (-2), 2) := by decide +kernel
theorem dX7_crossOf_21 : decode cX7_crossOf 21 = .ok (.ireturn, 1) := by decide +kernel
theorem dX7_crossOf_22 : decode cX7_crossOf 22 = .ok (.iload_n 3, 1) := by decide +kernel
theorem dX7_crossOf_23 : decode cX7_crossOf 23 = .ok (.bipush 16, 2) := by decide +kernel
theorem dX7_crossOf_25 : decode cX7_crossOf 25 = .ok (.idiv, 1) := by decide +kernel
theorem dX7_crossOf_26 : decode cX7_crossOf 26 = .ok (.istore 4, 2) := by decide +kernel
theorem dX7_crossOf_28 : decode cX7_crossOf 28 = .ok (.iload_n 3, 1) := by decide +kernel
theorem dX7_crossOf_29 : decode cX7_crossOf 29 = .ok (.bipush 16, 2) := by decide +kernel
theorem dX7_crossOf_31 : decode cX7_crossOf 31 = .ok (.irem, 1) := by decide +kernel
theorem dX7_crossOf_32 : decode cX7_crossOf 32 = .ok (.istore 5, 2) := by decide +kernel
theorem dX7_crossOf_34 : decode cX7_crossOf 34 = .ok (.aload_n 0, 1) := by decide +kernel
theorem dX7_crossOf_35 : decode cX7_crossOf 35 = .ok (.iload 4, 2) := by decide +kernel
theorem dX7_crossOf_37 : decode cX7_crossOf 37 = .ok (.iload 5, 2) := by decide +kernel
theorem dX7_crossOf_39 : decode cX7_crossOf 39 = .ok (.invokevirtual 219, 3) := by decide +kernel
theorem dX7_crossOf_42 : decode cX7_crossOf 42 = .ok (.pop, 1) := by decide +kernel
theorem dX7_crossOf_43 : decode cX7_crossOf 43 = .ok (.iload_n 2, 1) := by decide +kernel
theorem dX7_crossOf_44 : decode cX7_crossOf 44 = .ok (.iconst 2, 1) := by decide +kernel
theorem dX7_crossOf_45 : decode cX7_crossOf 45 = .ok (.if_icmp .ge 15, 3) := by decide +kernel
theorem dX7_crossOf_48 : decode cX7_crossOf 48 = .ok (.iload_n 2, 1) := by decide +kernel
theorem dX7_crossOf_49 : decode cX7_crossOf 49 = .ok (.ifCond .ne 8, 3) := by decide +kernel
theorem dX7_crossOf_52 : decode cX7_crossOf 52 = .ok (.iload 4, 2) := by decide +kernel
theorem dX7_crossOf_54 : decode cX7_crossOf 54 = .ok (.goto 5, 3) := by decide +kernel
theorem dX7_crossOf_57 : decode cX7_crossOf 57 = .ok (.iload 5, 2) := by decide +kernel
theorem dX7_crossOf_59 : decode cX7_crossOf 59 = .ok (.ireturn, 1) := by decide +kernel
theorem dX7_crossOf_60 : decode cX7_crossOf 60 = .ok (.iload_n 2, 1) := by decide +kernel
theorem dX7_crossOf_61 : decode cX7_crossOf 61 = .ok (.iconst 4, 1) := by decide +kernel
theorem dX7_crossOf_62 : decode cX7_crossOf 62 = .ok (.if_icmp .ge 16, 3) := by decide +kernel
theorem dX7_crossOf_65 : decode cX7_crossOf 65 = .ok (.aload_n 0, 1) := by decide +kernel
theorem dX7_crossOf_66 : decode cX7_crossOf 66 = .ok (.getfield 7, 3) := by decide +kernel
theorem dX7_crossOf_69 : decode cX7_crossOf 69 = .ok (.iload 4, 2) := by decide +kernel
theorem dX7_crossOf_71 : decode cX7_crossOf 71 = .ok (.invokestatic 83, 3) := by decide +kernel
theorem dX7_crossOf_74 : decode cX7_crossOf 74 = .ok (.iaload, 1) := by decide +kernel
theorem dX7_crossOf_75 : decode cX7_crossOf 75 = .ok (.goto 13, 3) := by decide +kernel
theorem dX7_crossOf_78 : decode cX7_crossOf 78 = .ok (.aload_n 0, 1) := by decide +kernel
theorem dX7_crossOf_79 : decode cX7_crossOf 79 = .ok (.getfield 13, 3) := by decide +kernel
theorem dX7_crossOf_82 : decode cX7_crossOf 82 = .ok (.iload 4, 2) := by decide +kernel
theorem dX7_crossOf_84 : decode cX7_crossOf 84 = .ok (.invokestatic 83, 3) := by decide +kernel
theorem dX7_crossOf_87 : decode cX7_crossOf 87 = .ok (.iaload, 1) := by decide +kernel
theorem dX7_crossOf_88 : decode cX7_crossOf 88 = .ok (.istore 6, 2) := by decide +kernel
theorem dX7_crossOf_90 : decode cX7_crossOf 90 = .ok (.iload 6, 2) := by decide +kernel
theorem dX7_crossOf_92 : decode cX7_crossOf 92 = .ok (.aload_n 0, 1) := by decide +kernel
theorem dX7_crossOf_93 : decode cX7_crossOf 93 = .ok (.getfield 210, 3) := by decide +kernel
theorem dX7_crossOf_96 : decode cX7_crossOf 96 = .ok (.imul, 1) := by decide +kernel
theorem dX7_crossOf_97 : decode cX7_crossOf 97 = .ok (.aload_n 0, 1) := by decide +kernel
theorem dX7_crossOf_98 : decode cX7_crossOf 98 = .ok (.getfield 213, 3) := by decide +kernel
theorem dX7_crossOf_101 : decode cX7_crossOf 101 = .ok (.aload_n 0, 1) := by decide +kernel
theorem dX7_crossOf_102 : decode cX7_crossOf 102 = .ok (.iload 4, 2) := by decide +kernel
theorem dX7_crossOf_104 : decode cX7_crossOf 104 = .ok (.iload_n 2, 1) := by decide +kernel
theorem dX7_crossOf_105 : decode cX7_crossOf 105 = .ok (.iconst 4, 1) := by decide +kernel
theorem dX7_crossOf_106 : decode cX7_crossOf 106 = .ok (.if_icmp .ge 7, 3) := by decide +kernel
theorem dX7_crossOf_109 : decode cX7_crossOf 109 = .ok (.iconst 0, 1) := by decide +kernel
theorem dX7_crossOf_110 : decode cX7_crossOf 110 = .ok (.goto 4, 3) := by decide +kernel
theorem dX7_crossOf_113 : decode cX7_crossOf 113 = .ok (.iconst 1, 1) := by decide +kernel
theorem dX7_crossOf_114 : decode cX7_crossOf 114 = .ok (.invokevirtual 86, 3) := by decide +kernel
theorem dX7_crossOf_117 : decode cX7_crossOf 117 = .ok (.imul, 1) := by decide +kernel
theorem dX7_crossOf_118 : decode cX7_crossOf 118 = .ok (.iadd, 1) := by decide +kernel
theorem dX7_crossOf_119 : decode cX7_crossOf 119 = .ok (.i2l, 1) := by decide +kernel
theorem dX7_crossOf_120 : decode cX7_crossOf 120 = .ok (.aload_n 0, 1) := by decide +kernel
theorem dX7_crossOf_121 : decode cX7_crossOf 121 = .ok (.getfield 210, 3) := by decide +kernel
theorem dX7_crossOf_124 : decode cX7_crossOf 124 = .ok (.i2l, 1) := by decide +kernel
theorem dX7_crossOf_125 : decode cX7_crossOf 125 = .ok (.iload_n 2, 1) := by decide +kernel
theorem dX7_crossOf_126 : decode cX7_crossOf 126 = .ok (.iconst 2, 1) := by decide +kernel
theorem dX7_crossOf_127 : decode cX7_crossOf 127 = .ok (.irem, 1) := by decide +kernel
theorem dX7_crossOf_128 : decode cX7_crossOf 128 = .ok (.invokestatic 138, 3) := by decide +kernel
theorem dX7_crossOf_131 : decode cX7_crossOf 131 = .ok (.l2i, 1) := by decide +kernel
theorem dX7_crossOf_132 : decode cX7_crossOf 132 = .ok (.ireturn, 1) := by decide +kernel
theorem dX7_cross_0 : decode cX7_cross 0 = .ok (.iload_n 1, 1) := by decide +kernel
theorem dX7_cross_1 : decode cX7_cross 1 = .ok (.ifCond .lt 12, 3) := by decide +kernel
theorem dX7_cross_4 : decode cX7_cross 4 = .ok (.iload_n 2, 1) := by decide +kernel
theorem dX7_cross_5 : decode cX7_cross 5 = .ok (.iconst 0, 1) := by decide +kernel
theorem dX7_cross_6 : decode cX7_cross 6 = .ok (.iconst 5, 1) := by decide +kernel
theorem dX7_cross_7 : decode cX7_cross 7 = .ok (.invokestatic 64, 3) := by decide +kernel
theorem dX7_cross_10 : decode cX7_cross 10 = .ok (.ifCond .ne 6, 3) := by decide +kernel
theorem dX7_cross_13 : decode cX7_cross 13 = .ok (.bipush (-2), 2) := by decide +kernel
theorem dX7_cross_15 : decode cX7_cross 15 = .ok (.ireturn, 1) := by decide +kernel
theorem dX7_cross_16 : decode cX7_cross 16 = .ok (.aload_n 0, 1) := by decide +kernel
theorem dX7_cross_17 : decode cX7_cross 17 = .ok (.aload_n 0, 1) := by decide +kernel
theorem dX7_cross_18 : decode cX7_cross 18 = .ok (.getfield 76, 3) := by decide +kernel
theorem dX7_cross_21 : decode cX7_cross 21 = .ok (.invokevirtual 157, 3) := by decide +kernel
theorem dX7_cross_24 : decode cX7_cross 24 = .ok (.iconst (-1), 1) := by decide +kernel
theorem dX7_cross_25 : decode cX7_cross 25 = .ok (.if_icmp .ne 8, 3) := by decide +kernel
theorem dX7_cross_28 : decode cX7_cross 28 = .ok (.bipush (-3), 2) := by decide +kernel
theorem dX7_cross_30 : decode cX7_cross 30 = .ok (.goto 9, 3) := by decide +kernel
theorem dX7_cross_33 : decode cX7_cross 33 = .ok (.aload_n 0, 1) := by decide +kernel
theorem dX7_cross_34 : decode cX7_cross 34 = .ok (.iload_n 1, 1) := by decide +kernel
theorem dX7_cross_35 : decode cX7_cross 35 = .ok (.iload_n 2, 1) := by decide +kernel
theorem dX7_cross_36 : decode cX7_cross 36 = .ok (.invokevirtual 225, 3) := by decide +kernel
theorem dX7_cross_39 : decode cX7_cross 39 = .ok (.ireturn, 1) := by decide +kernel
theorem dX7_meets_0 : decode cX7_meets 0 = .ok (.aload_n 0, 1) := by decide +kernel
theorem dX7_meets_1 : decode cX7_meets 1 = .ok (.iload_n 1, 1) := by decide +kernel
theorem dX7_meets_2 : decode cX7_meets 2 = .ok (.putfield 228, 3) := by decide +kernel
theorem dX7_meets_5 : decode cX7_meets 5 = .ok (.bipush (-10), 2) := by decide +kernel
theorem dX7_meets_7 : decode cX7_meets 7 = .ok (.iload_n 1, 1) := by decide +kernel
theorem dX7_meets_8 : decode cX7_meets 8 = .ok (.isub, 1) := by decide +kernel
theorem dX7_meets_9 : decode cX7_meets 9 = .ok (.ireturn, 1) := by decide +kernel
theorem dX7_isSheet_0 : decode cX7_isSheet 0 = .ok (.iload_n 0, 1) := by decide +kernel
theorem dX7_isSheet_1 : decode cX7_isSheet 1 = .ok (.iconst 0, 1) := by decide +kernel
theorem dX7_isSheet_2 : decode cX7_isSheet 2 = .ok (.iconst 3, 1) := by decide +kernel
theorem dX7_isSheet_3 : decode cX7_isSheet 3 = .ok (.invokestatic 64, 3) := by decide +kernel
theorem dX7_isSheet_6 : decode cX7_isSheet 6 = .ok (.ireturn, 1) := by decide +kernel
theorem dX7_sheet_0 : decode cX7_sheet 0 = .ok (.iload_n 1, 1) := by decide +kernel
theorem dX7_sheet_1 : decode cX7_sheet 1 = .ok (.invokestatic 98, 3) := by decide +kernel
theorem dX7_sheet_4 : decode cX7_sheet 4 = .ok (.ifCond .eq 18, 3) := by decide +kernel
theorem dX7_sheet_7 : decode cX7_sheet 7 = .ok (.iload_n 2, 1) := by decide +kernel
theorem dX7_sheet_8 : decode cX7_sheet 8 = .ok (.iconst 0, 1) := by decide +kernel
theorem dX7_sheet_9 : decode cX7_sheet 9 = .ok (.iconst 1, 1) := by decide +kernel
theorem dX7_sheet_10 : decode cX7_sheet 10 = .ok (.invokestatic 64, 3) := by decide +kernel
theorem dX7_sheet_13 : decode cX7_sheet 13 = .ok (.ifCond .eq 9, 3) := by decide +kernel
theorem dX7_sheet_16 : decode cX7_sheet 16 = .ok (.iload_n 3, 1) := by decide +kernel
theorem dX7_sheet_17 : decode cX7_sheet 17 = .ok (.bipush 40, 2) := by decide +kernel
theorem dX7_sheet_19 : decode cX7_sheet 19 = .ok (.if_icmp .le 6, 3) := by decide +kernel
theorem dX7_sheet_22 : decode cX7_sheet 22 = .ok (.bipush (-2), 2) := by decide +kernel
theorem dX7_sheet_24 : decode cX7_sheet 24 = .ok (.ireturn, 1) := by decide +kernel
theorem dX7_sheet_25 : decode cX7_sheet 25 = .ok (.iload_n 3, 1) := by decide +kernel
theorem dX7_sheet_26 : decode cX7_sheet 26 = .ok (.ifCond .ge 9, 3) := by decide +kernel
theorem dX7_sheet_29 : decode cX7_sheet 29 = .ok (.aload_n 0, 1) := by decide +kernel
theorem dX7_sheet_30 : decode cX7_sheet 30 = .ok (.iconst 5, 1) := by decide +kernel
theorem dX7_sheet_31 : decode cX7_sheet 31 = .ok (.invokevirtual 101, 3) := by decide +kernel
theorem dX7_sheet_34 : decode cX7_sheet 34 = .ok (.ireturn, 1) := by decide +kernel
theorem dX7_sheet_35 : decode cX7_sheet 35 = .ok (.aload_n 0, 1) := by decide +kernel
theorem dX7_sheet_36 : decode cX7_sheet 36 = .ok (.getfield 42, 3) := by decide +kernel
theorem dX7_sheet_39 : decode cX7_sheet 39 = .ok (.iload_n 1, 1) := by decide +kernel
theorem dX7_sheet_40 : decode cX7_sheet 40 = .ok (.iload_n 2, 1) := by decide +kernel
theorem dX7_sheet_41 : decode cX7_sheet 41 = .ok (.iastore, 1) := by decide +kernel
theorem dX7_sheet_42 : decode cX7_sheet 42 = .ok (.aload_n 0, 1) := by decide +kernel
theorem dX7_sheet_43 : decode cX7_sheet 43 = .ok (.getfield 45, 3) := by decide +kernel
theorem dX7_sheet_46 : decode cX7_sheet 46 = .ok (.iload_n 1, 1) := by decide +kernel
theorem dX7_sheet_47 : decode cX7_sheet 47 = .ok (.iload_n 3, 1) := by decide +kernel
theorem dX7_sheet_48 : decode cX7_sheet 48 = .ok (.iastore, 1) := by decide +kernel
theorem dX7_sheet_49 : decode cX7_sheet 49 = .ok (.bipush 40, 2) := by decide +kernel
theorem dX7_sheet_51 : decode cX7_sheet 51 = .ok (.iload_n 1, 1) := by decide +kernel
theorem dX7_sheet_52 : decode cX7_sheet 52 = .ok (.imul, 1) := by decide +kernel
theorem dX7_sheet_53 : decode cX7_sheet 53 = .ok (.istore 4, 2) := by decide +kernel
theorem dX7_sheet_55 : decode cX7_sheet 55 = .ok (.iload 4, 2) := by decide +kernel
theorem dX7_sheet_57 : decode cX7_sheet 57 = .ok (.bipush 40, 2) := by decide +kernel
theorem dX7_sheet_59 : decode cX7_sheet 59 = .ok (.iload_n 1, 1) := by decide +kernel
theorem dX7_sheet_60 : decode cX7_sheet 60 = .ok (.imul, 1) := by decide +kernel
theorem dX7_sheet_61 : decode cX7_sheet 61 = .ok (.bipush 40, 2) := by decide +kernel
theorem dX7_sheet_63 : decode cX7_sheet 63 = .ok (.iadd, 1) := by decide +kernel
theorem dX7_sheet_64 : decode cX7_sheet 64 = .ok (.if_icmp .ge 17, 3) := by decide +kernel
theorem dX7_sheet_67 : decode cX7_sheet 67 = .ok (.aload_n 0, 1) := by decide +kernel
theorem dX7_sheet_68 : decode cX7_sheet 68 = .ok (.getfield 48, 3) := by decide +kernel
theorem dX7_sheet_71 : decode cX7_sheet 71 = .ok (.iload 4, 2) := by decide +kernel
theorem dX7_sheet_73 : decode cX7_sheet 73 = .ok (.lconst 0, 1) := by decide +kernel
theorem dX7_sheet_74 : decode cX7_sheet 74 = .ok (.lastore, 1) := by decide +kernel
theorem dX7_sheet_75 : decode cX7_sheet 75 = .ok (.iinc 4 1, 3) := by decide +kernel
theorem dX7_sheet_78 : decode cX7_sheet 78 = .ok (.goto (-23), 3) := by decide +kernel
theorem dX7_sheet_81 : decode cX7_sheet 81 = .ok (.iload_n 3, 1) := by decide +kernel
theorem dX7_sheet_82 : decode cX7_sheet 82 = .ok (.ireturn, 1) := by decide +kernel
theorem dX7_lose_0 : decode cX7_lose 0 = .ok (.iload_n 1, 1) := by decide +kernel
theorem dX7_lose_1 : decode cX7_lose 1 = .ok (.invokestatic 98, 3) := by decide +kernel
theorem dX7_lose_4 : decode cX7_lose 4 = .ok (.ifCond .ne 6, 3) := by decide +kernel
theorem dX7_lose_7 : decode cX7_lose 7 = .ok (.bipush (-2), 2) := by decide +kernel
theorem dX7_lose_9 : decode cX7_lose 9 = .ok (.ireturn, 1) := by decide +kernel
theorem dX7_lose_10 : decode cX7_lose 10 = .ok (.aload_n 0, 1) := by decide +kernel
theorem dX7_lose_11 : decode cX7_lose 11 = .ok (.getfield 42, 3) := by decide +kernel
theorem dX7_lose_14 : decode cX7_lose 14 = .ok (.iload_n 1, 1) := by decide +kernel
theorem dX7_lose_15 : decode cX7_lose 15 = .ok (.iaload, 1) := by decide +kernel
theorem dX7_lose_16 : decode cX7_lose 16 = .ok (.iconst (-1), 1) := by decide +kernel
theorem dX7_lose_17 : decode cX7_lose 17 = .ok (.if_icmp .ne 9, 3) := by decide +kernel
theorem dX7_lose_20 : decode cX7_lose 20 = .ok (.aload_n 0, 1) := by decide +kernel
theorem dX7_lose_21 : decode cX7_lose 21 = .ok (.iconst 1, 1) := by decide +kernel
theorem dX7_lose_22 : decode cX7_lose 22 = .ok (.invokevirtual 101, 3) := by decide +kernel
theorem dX7_lose_25 : decode cX7_lose 25 = .ok (.ireturn, 1) := by decide +kernel
theorem dX7_lose_26 : decode cX7_lose 26 = .ok (.aload_n 0, 1) := by decide +kernel
theorem dX7_lose_27 : decode cX7_lose 27 = .ok (.getfield 42, 3) := by decide +kernel
theorem dX7_lose_30 : decode cX7_lose 30 = .ok (.iload_n 1, 1) := by decide +kernel
theorem dX7_lose_31 : decode cX7_lose 31 = .ok (.iconst (-1), 1) := by decide +kernel
theorem dX7_lose_32 : decode cX7_lose 32 = .ok (.iastore, 1) := by decide +kernel
theorem dX7_lose_33 : decode cX7_lose 33 = .ok (.aload_n 0, 1) := by decide +kernel
theorem dX7_lose_34 : decode cX7_lose 34 = .ok (.getfield 45, 3) := by decide +kernel
theorem dX7_lose_37 : decode cX7_lose 37 = .ok (.iload_n 1, 1) := by decide +kernel
theorem dX7_lose_38 : decode cX7_lose 38 = .ok (.iaload, 1) := by decide +kernel
theorem dX7_lose_39 : decode cX7_lose 39 = .ok (.ireturn, 1) := by decide +kernel
theorem dX7_put_0 : decode cX7_put 0 = .ok (.iload_n 1, 1) := by decide +kernel
theorem dX7_put_1 : decode cX7_put 1 = .ok (.invokestatic 98, 3) := by decide +kernel
theorem dX7_put_4 : decode cX7_put 4 = .ok (.ifCond .eq 12, 3) := by decide +kernel
theorem dX7_put_7 : decode cX7_put 7 = .ok (.iload_n 2, 1) := by decide +kernel
theorem dX7_put_8 : decode cX7_put 8 = .ok (.iconst 0, 1) := by decide +kernel
theorem dX7_put_9 : decode cX7_put 9 = .ok (.iconst 1, 1) := by decide +kernel
theorem dX7_put_10 : decode cX7_put 10 = .ok (.invokestatic 64, 3) := by decide +kernel
theorem dX7_put_13 : decode cX7_put 13 = .ok (.ifCond .ne 6, 3) := by decide +kernel
theorem dX7_put_16 : decode cX7_put 16 = .ok (.bipush (-2), 2) := by decide +kernel
theorem dX7_put_18 : decode cX7_put 18 = .ok (.ireturn, 1) := by decide +kernel
theorem dX7_put_19 : decode cX7_put 19 = .ok (.iload_n 2, 1) := by decide +kernel
theorem dX7_put_20 : decode cX7_put 20 = .ok (.iconst 1, 1) := by decide +kernel
theorem dX7_put_21 : decode cX7_put 21 = .ok (.if_icmp .ne 19, 3) := by decide +kernel
theorem dX7_put_24 : decode cX7_put 24 = .ok (.iload 4, 2) := by decide +kernel
theorem dX7_put_26 : decode cX7_put 26 = .ok (.ldc 231, 2) := by decide +kernel
theorem dX7_put_28 : decode cX7_put 28 = .ok (.ldc 232, 2) := by decide +kernel
theorem dX7_put_30 : decode cX7_put 30 = .ok (.invokestatic 64, 3) := by decide +kernel
theorem dX7_put_33 : decode cX7_put 33 = .ok (.ifCond .ne 7, 3) := by decide +kernel
theorem dX7_put_36 : decode cX7_put 36 = .ok (.iconst 1, 1) := by decide +kernel
theorem dX7_put_37 : decode cX7_put 37 = .ok (.goto 4, 3) := by decide +kernel
theorem dX7_put_40 : decode cX7_put 40 = .ok (.iconst 0, 1) := by decide +kernel
theorem dX7_put_41 : decode cX7_put 41 = .ok (.istore 5, 2) := by decide +kernel
theorem dX7_put_43 : decode cX7_put 43 = .ok (.aload_n 0, 1) := by decide +kernel
theorem dX7_put_44 : decode cX7_put 44 = .ok (.getfield 42, 3) := by decide +kernel
theorem dX7_put_47 : decode cX7_put 47 = .ok (.iload_n 1, 1) := by decide +kernel
theorem dX7_put_48 : decode cX7_put 48 = .ok (.iaload, 1) := by decide +kernel
theorem dX7_put_49 : decode cX7_put 49 = .ok (.iconst (-1), 1) := by decide +kernel
theorem dX7_put_50 : decode cX7_put 50 = .ok (.if_icmp .ne 7, 3) := by decide +kernel
theorem dX7_put_53 : decode cX7_put 53 = .ok (.iconst 1, 1) := by decide +kernel
theorem dX7_put_54 : decode cX7_put 54 = .ok (.goto 48, 3) := by decide +kernel
theorem dX7_put_57 : decode cX7_put 57 = .ok (.aload_n 0, 1) := by decide +kernel
theorem dX7_put_58 : decode cX7_put 58 = .ok (.getfield 42, 3) := by decide +kernel
theorem dX7_put_61 : decode cX7_put 61 = .ok (.iload_n 1, 1) := by decide +kernel
theorem dX7_put_62 : decode cX7_put 62 = .ok (.iaload, 1) := by decide +kernel
theorem dX7_put_63 : decode cX7_put 63 = .ok (.iload_n 2, 1) := by decide +kernel
theorem dX7_put_64 : decode cX7_put 64 = .ok (.if_icmp .eq 7, 3) := by decide +kernel
theorem dX7_put_67 : decode cX7_put 67 = .ok (.iconst 3, 1) := by decide +kernel
theorem dX7_put_68 : decode cX7_put 68 = .ok (.goto 34, 3) := by decide +kernel
theorem dX7_put_71 : decode cX7_put 71 = .ok (.iload_n 3, 1) := by decide +kernel
theorem dX7_put_72 : decode cX7_put 72 = .ok (.iconst 0, 1) := by decide +kernel
theorem dX7_put_73 : decode cX7_put 73 = .ok (.aload_n 0, 1) := by decide +kernel
theorem dX7_put_74 : decode cX7_put 74 = .ok (.getfield 45, 3) := by decide +kernel
theorem dX7_put_77 : decode cX7_put 77 = .ok (.iload_n 1, 1) := by decide +kernel
theorem dX7_put_78 : decode cX7_put 78 = .ok (.iaload, 1) := by decide +kernel
theorem dX7_put_79 : decode cX7_put 79 = .ok (.iconst 1, 1) := by decide +kernel
theorem dX7_put_80 : decode cX7_put 80 = .ok (.isub, 1) := by decide +kernel
theorem dX7_put_81 : decode cX7_put 81 = .ok (.invokestatic 64, 3) := by decide +kernel
theorem dX7_put_84 : decode cX7_put 84 = .ok (.ifCond .ne 7, 3) := by decide +kernel
theorem dX7_put_87 : decode cX7_put 87 = .ok (.iconst 2, 1) := by decide +kernel
theorem dX7_put_88 : decode cX7_put 88 = .ok (.goto 14, 3) := by decide +kernel
theorem dX7_put_91 : decode cX7_put 91 = .ok (.iload 5, 2) := by decide +kernel
theorem dX7_put_93 : decode cX7_put 93 = .ok (.ifCond .eq 8, 3) := by decide +kernel
theorem dX7_put_96 : decode cX7_put 96 = .ok (.bipush 6, 2) := by decide +kernel
theorem dX7_put_98 : decode cX7_put 98 = .ok (.goto 4, 3) := by decide +kernel
theorem dX7_put_101 : decode cX7_put 101 = .ok (.iconst 0, 1) := by decide +kernel
theorem dX7_put_102 : decode cX7_put 102 = .ok (.istore 6, 2) := by decide +kernel
theorem dX7_put_104 : decode cX7_put 104 = .ok (.iload 6, 2) := by decide +kernel
theorem dX7_put_106 : decode cX7_put 106 = .ok (.ifCond .le 10, 3) := by decide +kernel
theorem dX7_put_109 : decode cX7_put 109 = .ok (.aload_n 0, 1) := by decide +kernel
theorem dX7_put_110 : decode cX7_put 110 = .ok (.iload 6, 2) := by decide +kernel
theorem dX7_put_112 : decode cX7_put 112 = .ok (.invokevirtual 101, 3) := by decide +kernel
theorem dX7_put_115 : decode cX7_put 115 = .ok (.ireturn, 1) := by decide +kernel
theorem dX7_put_116 : decode cX7_put 116 = .ok (.aload_n 0, 1) := by decide +kernel
theorem dX7_put_117 : decode cX7_put 117 = .ok (.getfield 48, 3) := by decide +kernel
theorem dX7_put_120 : decode cX7_put 120 = .ok (.bipush 40, 2) := by decide +kernel
theorem dX7_put_122 : decode cX7_put 122 = .ok (.iload_n 1, 1) := by decide +kernel
theorem dX7_put_123 : decode cX7_put 123 = .ok (.imul, 1) := by decide +kernel
theorem dX7_put_124 : decode cX7_put 124 = .ok (.iload_n 3, 1) := by decide +kernel
theorem dX7_put_125 : decode cX7_put 125 = .ok (.iadd, 1) := by decide +kernel
theorem dX7_put_126 : decode cX7_put 126 = .ok (.iload_n 2, 1) := by decide +kernel
theorem dX7_put_127 : decode cX7_put 127 = .ok (.iconst 1, 1) := by decide +kernel
theorem dX7_put_128 : decode cX7_put 128 = .ok (.if_icmp .ne 17, 3) := by decide +kernel
theorem dX7_put_131 : decode cX7_put 131 = .ok (.iload 4, 2) := by decide +kernel
theorem dX7_put_133 : decode cX7_put 133 = .ok (.i2l, 1) := by decide +kernel
theorem dX7_put_134 : decode cX7_put 134 = .ok (.iload 4, 2) := by decide +kernel
theorem dX7_put_136 : decode cX7_put 136 = .ok (.i2l, 1) := by decide +kernel
theorem dX7_put_137 : decode cX7_put 137 = .ok (.lmul, 1) := by decide +kernel
theorem dX7_put_138 : decode cX7_put 138 = .ok (.iload 4, 2) := by decide +kernel
theorem dX7_put_140 : decode cX7_put 140 = .ok (.i2l, 1) := by decide +kernel
theorem dX7_put_141 : decode cX7_put 141 = .ok (.lmul, 1) := by decide +kernel
theorem dX7_put_142 : decode cX7_put 142 = .ok (.goto 6, 3) := by decide +kernel
theorem dX7_put_145 : decode cX7_put 145 = .ok (.iload 4, 2) := by decide +kernel
theorem dX7_put_147 : decode cX7_put 147 = .ok (.i2l, 1) := by decide +kernel
theorem dX7_put_148 : decode cX7_put 148 = .ok (.lastore, 1) := by decide +kernel
theorem dX7_put_149 : decode cX7_put 149 = .ok (.iconst 1, 1) := by decide +kernel
theorem dX7_put_150 : decode cX7_put 150 = .ok (.ireturn, 1) := by decide +kernel
theorem dX7_get_0 : decode cX7_get 0 = .ok (.iload_n 1, 1) := by decide +kernel
theorem dX7_get_1 : decode cX7_get 1 = .ok (.invokestatic 98, 3) := by decide +kernel
theorem dX7_get_4 : decode cX7_get 4 = .ok (.ifCond .ne 9, 3) := by decide +kernel
theorem dX7_get_7 : decode cX7_get 7 = .ok (.bipush (-2), 2) := by decide +kernel
theorem dX7_get_9 : decode cX7_get 9 = .ok (.invokestatic 160, 3) := by decide +kernel
theorem dX7_get_12 : decode cX7_get 12 = .ok (.lreturn, 1) := by decide +kernel
theorem dX7_get_13 : decode cX7_get 13 = .ok (.aload_n 0, 1) := by decide +kernel
theorem dX7_get_14 : decode cX7_get 14 = .ok (.getfield 42, 3) := by decide +kernel
theorem dX7_get_17 : decode cX7_get 17 = .ok (.iload_n 1, 1) := by decide +kernel
theorem dX7_get_18 : decode cX7_get 18 = .ok (.iaload, 1) := by decide +kernel
theorem dX7_get_19 : decode cX7_get 19 = .ok (.iconst (-1), 1) := by decide +kernel
theorem dX7_get_20 : decode cX7_get 20 = .ok (.if_icmp .ne 7, 3) := by decide +kernel
theorem dX7_get_23 : decode cX7_get 23 = .ok (.iconst 1, 1) := by decide +kernel
theorem dX7_get_24 : decode cX7_get 24 = .ok (.goto 24, 3) := by decide +kernel
theorem dX7_get_27 : decode cX7_get 27 = .ok (.iload_n 2, 1) := by decide +kernel
theorem dX7_get_28 : decode cX7_get 28 = .ok (.iconst 0, 1) := by decide +kernel
theorem dX7_get_29 : decode cX7_get 29 = .ok (.aload_n 0, 1) := by decide +kernel
theorem dX7_get_30 : decode cX7_get 30 = .ok (.getfield 45, 3) := by decide +kernel
theorem dX7_get_33 : decode cX7_get 33 = .ok (.iload_n 1, 1) := by decide +kernel
theorem dX7_get_34 : decode cX7_get 34 = .ok (.iaload, 1) := by decide +kernel
theorem dX7_get_35 : decode cX7_get 35 = .ok (.iconst 1, 1) := by decide +kernel
theorem dX7_get_36 : decode cX7_get 36 = .ok (.isub, 1) := by decide +kernel
theorem dX7_get_37 : decode cX7_get 37 = .ok (.invokestatic 64, 3) := by decide +kernel
theorem dX7_get_40 : decode cX7_get 40 = .ok (.ifCond .eq 7, 3) := by decide +kernel
theorem dX7_get_43 : decode cX7_get 43 = .ok (.iconst 0, 1) := by decide +kernel
theorem dX7_get_44 : decode cX7_get 44 = .ok (.goto 4, 3) := by decide +kernel
theorem dX7_get_47 : decode cX7_get 47 = .ok (.iconst 2, 1) := by decide +kernel
theorem dX7_get_48 : decode cX7_get 48 = .ok (.istore_n 3, 1) := by decide +kernel
theorem dX7_get_49 : decode cX7_get 49 = .ok (.iload_n 3, 1) := by decide +kernel
theorem dX7_get_50 : decode cX7_get 50 = .ok (.ifCond .le 14, 3) := by decide +kernel
theorem dX7_get_53 : decode cX7_get 53 = .ok (.aload_n 0, 1) := by decide +kernel
theorem dX7_get_54 : decode cX7_get 54 = .ok (.iload_n 3, 1) := by decide +kernel
theorem dX7_get_55 : decode cX7_get 55 = .ok (.invokevirtual 101, 3) := by decide +kernel
theorem dX7_get_58 : decode cX7_get 58 = .ok (.invokestatic 160, 3) := by decide +kernel
theorem dX7_get_61 : decode cX7_get 61 = .ok (.goto 14, 3) := by decide +kernel
theorem dX7_get_64 : decode cX7_get 64 = .ok (.aload_n 0, 1) := by decide +kernel
theorem dX7_get_65 : decode cX7_get 65 = .ok (.getfield 48, 3) := by decide +kernel
theorem dX7_get_68 : decode cX7_get 68 = .ok (.bipush 40, 2) := by decide +kernel
theorem dX7_get_70 : decode cX7_get 70 = .ok (.iload_n 1, 1) := by decide +kernel
theorem dX7_get_71 : decode cX7_get 71 = .ok (.imul, 1) := by decide +kernel
theorem dX7_get_72 : decode cX7_get 72 = .ok (.iload_n 2, 1) := by decide +kernel
theorem dX7_get_73 : decode cX7_get 73 = .ok (.iadd, 1) := by decide +kernel
theorem dX7_get_74 : decode cX7_get 74 = .ok (.laload, 1) := by decide +kernel
theorem dX7_get_75 : decode cX7_get 75 = .ok (.lreturn, 1) := by decide +kernel
theorem dX7_copy_0 : decode cX7_copy 0 = .ok (.iload_n 1, 1) := by decide +kernel
theorem dX7_copy_1 : decode cX7_copy 1 = .ok (.invokestatic 98, 3) := by decide +kernel
theorem dX7_copy_4 : decode cX7_copy 4 = .ok (.ifCond .eq 10, 3) := by decide +kernel
theorem dX7_copy_7 : decode cX7_copy 7 = .ok (.iload_n 3, 1) := by decide +kernel
theorem dX7_copy_8 : decode cX7_copy 8 = .ok (.invokestatic 98, 3) := by decide +kernel
theorem dX7_copy_11 : decode cX7_copy 11 = .ok (.ifCond .ne 6, 3) := by decide +kernel
theorem dX7_copy_14 : decode cX7_copy 14 = .ok (.bipush (-2), 2) := by decide +kernel
theorem dX7_copy_16 : decode cX7_copy 16 = .ok (.ireturn, 1) := by decide +kernel
theorem dX7_copy_17 : decode cX7_copy 17 = .ok (.aload_n 0, 1) := by decide +kernel
theorem dX7_copy_18 : decode cX7_copy 18 = .ok (.getfield 42, 3) := by decide +kernel
theorem dX7_copy_21 : decode cX7_copy 21 = .ok (.iload_n 1, 1) := by decide +kernel
theorem dX7_copy_22 : decode cX7_copy 22 = .ok (.iaload, 1) := by decide +kernel
theorem dX7_copy_23 : decode cX7_copy 23 = .ok (.iconst (-1), 1) := by decide +kernel
theorem dX7_copy_24 : decode cX7_copy 24 = .ok (.if_icmp .eq 13, 3) := by decide +kernel
theorem dX7_copy_27 : decode cX7_copy 27 = .ok (.aload_n 0, 1) := by decide +kernel
theorem dX7_copy_28 : decode cX7_copy 28 = .ok (.getfield 42, 3) := by decide +kernel
theorem dX7_copy_31 : decode cX7_copy 31 = .ok (.iload_n 3, 1) := by decide +kernel
theorem dX7_copy_32 : decode cX7_copy 32 = .ok (.iaload, 1) := by decide +kernel
theorem dX7_copy_33 : decode cX7_copy 33 = .ok (.iconst (-1), 1) := by decide +kernel
theorem dX7_copy_34 : decode cX7_copy 34 = .ok (.if_icmp .ne 9, 3) := by decide +kernel
theorem dX7_copy_37 : decode cX7_copy 37 = .ok (.aload_n 0, 1) := by decide +kernel
theorem dX7_copy_38 : decode cX7_copy 38 = .ok (.iconst 1, 1) := by decide +kernel
theorem dX7_copy_39 : decode cX7_copy 39 = .ok (.invokevirtual 101, 3) := by decide +kernel
theorem dX7_copy_42 : decode cX7_copy 42 = .ok (.ireturn, 1) := by decide +kernel
theorem dX7_copy_43 : decode cX7_copy 43 = .ok (.aload_n 0, 1) := by decide +kernel
theorem dX7_copy_44 : decode cX7_copy 44 = .ok (.getfield 42, 3) := by decide +kernel
theorem dX7_copy_47 : decode cX7_copy 47 = .ok (.iload_n 1, 1) := by decide +kernel
theorem dX7_copy_48 : decode cX7_copy 48 = .ok (.iaload, 1) := by decide +kernel
theorem dX7_copy_49 : decode cX7_copy 49 = .ok (.aload_n 0, 1) := by decide +kernel
theorem dX7_copy_50 : decode cX7_copy 50 = .ok (.getfield 42, 3) := by decide +kernel
theorem dX7_copy_53 : decode cX7_copy 53 = .ok (.iload_n 3, 1) := by decide +kernel
theorem dX7_copy_54 : decode cX7_copy 54 = .ok (.iaload, 1) := by decide +kernel
theorem dX7_copy_55 : decode cX7_copy 55 = .ok (.if_icmp .eq 9, 3) := by decide +kernel
theorem dX7_copy_58 : decode cX7_copy 58 = .ok (.aload_n 0, 1) := by decide +kernel
theorem dX7_copy_59 : decode cX7_copy 59 = .ok (.iconst 4, 1) := by decide +kernel
theorem dX7_copy_60 : decode cX7_copy 60 = .ok (.invokevirtual 101, 3) := by decide +kernel
theorem dX7_copy_63 : decode cX7_copy 63 = .ok (.ireturn, 1) := by decide +kernel
theorem dX7_copy_64 : decode cX7_copy 64 = .ok (.iload_n 2, 1) := by decide +kernel
theorem dX7_copy_65 : decode cX7_copy 65 = .ok (.ifCond .lt 48, 3) := by decide +kernel
theorem dX7_copy_68 : decode cX7_copy 68 = .ok (.iload 4, 2) := by decide +kernel
theorem dX7_copy_70 : decode cX7_copy 70 = .ok (.ifCond .lt 43, 3) := by decide +kernel
theorem dX7_copy_73 : decode cX7_copy 73 = .ok (.iload 5, 2) := by decide +kernel
theorem dX7_copy_75 : decode cX7_copy 75 = .ok (.ifCond .lt 38, 3) := by decide +kernel
theorem dX7_copy_78 : decode cX7_copy 78 = .ok (.iload_n 2, 1) := by decide +kernel
theorem dX7_copy_79 : decode cX7_copy 79 = .ok (.i2l, 1) := by decide +kernel
theorem dX7_copy_80 : decode cX7_copy 80 = .ok (.iload 5, 2) := by decide +kernel
theorem dX7_copy_82 : decode cX7_copy 82 = .ok (.i2l, 1) := by decide +kernel
theorem dX7_copy_83 : decode cX7_copy 83 = .ok (.ladd, 1) := by decide +kernel
theorem dX7_copy_84 : decode cX7_copy 84 = .ok (.aload_n 0, 1) := by decide +kernel
theorem dX7_copy_85 : decode cX7_copy 85 = .ok (.getfield 45, 3) := by decide +kernel
theorem dX7_copy_88 : decode cX7_copy 88 = .ok (.iload_n 1, 1) := by decide +kernel
theorem dX7_copy_89 : decode cX7_copy 89 = .ok (.iaload, 1) := by decide +kernel
theorem dX7_copy_90 : decode cX7_copy 90 = .ok (.i2l, 1) := by decide +kernel
theorem dX7_copy_91 : decode cX7_copy 91 = .ok (.lcmp, 1) := by decide +kernel
theorem dX7_copy_92 : decode cX7_copy 92 = .ok (.ifCond .gt 21, 3) := by decide +kernel
theorem dX7_copy_95 : decode cX7_copy 95 = .ok (.iload 4, 2) := by decide +kernel
theorem dX7_copy_97 : decode cX7_copy 97 = .ok (.i2l, 1) := by decide +kernel
theorem dX7_copy_98 : decode cX7_copy 98 = .ok (.iload 5, 2) := by decide +kernel
theorem dX7_copy_100 : decode cX7_copy 100 = .ok (.i2l, 1) := by decide +kernel
theorem dX7_copy_101 : decode cX7_copy 101 = .ok (.ladd, 1) := by decide +kernel
theorem dX7_copy_102 : decode cX7_copy 102 = .ok (.aload_n 0, 1) := by decide +kernel
theorem dX7_copy_103 : decode cX7_copy 103 = .ok (.getfield 45, 3) := by decide +kernel
theorem dX7_copy_106 : decode cX7_copy 106 = .ok (.iload_n 3, 1) := by decide +kernel
theorem dX7_copy_107 : decode cX7_copy 107 = .ok (.iaload, 1) := by decide +kernel
theorem dX7_copy_108 : decode cX7_copy 108 = .ok (.i2l, 1) := by decide +kernel
theorem dX7_copy_109 : decode cX7_copy 109 = .ok (.lcmp, 1) := by decide +kernel
theorem dX7_copy_110 : decode cX7_copy 110 = .ok (.ifCond .le 9, 3) := by decide +kernel
theorem dX7_copy_113 : decode cX7_copy 113 = .ok (.aload_n 0, 1) := by decide +kernel
theorem dX7_copy_114 : decode cX7_copy 114 = .ok (.iconst 2, 1) := by decide +kernel
theorem dX7_copy_115 : decode cX7_copy 115 = .ok (.invokevirtual 101, 3) := by decide +kernel
theorem dX7_copy_118 : decode cX7_copy 118 = .ok (.ireturn, 1) := by decide +kernel
theorem dX7_copy_119 : decode cX7_copy 119 = .ok (.iconst 0, 1) := by decide +kernel
theorem dX7_copy_120 : decode cX7_copy 120 = .ok (.istore 6, 2) := by decide +kernel
theorem dX7_copy_122 : decode cX7_copy 122 = .ok (.iload 6, 2) := by decide +kernel
theorem dX7_copy_124 : decode cX7_copy 124 = .ok (.iload 5, 2) := by decide +kernel
theorem dX7_copy_126 : decode cX7_copy 126 = .ok (.if_icmp .ge 30, 3) := by decide +kernel
theorem dX7_copy_129 : decode cX7_copy 129 = .ok (.aload_n 0, 1) := by decide +kernel
theorem dX7_copy_130 : decode cX7_copy 130 = .ok (.getfield 51, 3) := by decide +kernel
theorem dX7_copy_133 : decode cX7_copy 133 = .ok (.iload 6, 2) := by decide +kernel
theorem dX7_copy_135 : decode cX7_copy 135 = .ok (.aload_n 0, 1) := by decide +kernel
theorem dX7_copy_136 : decode cX7_copy 136 = .ok (.getfield 48, 3) := by decide +kernel
theorem dX7_copy_139 : decode cX7_copy 139 = .ok (.bipush 40, 2) := by decide +kernel
theorem dX7_copy_141 : decode cX7_copy 141 = .ok (.iload_n 1, 1) := by decide +kernel
theorem dX7_copy_142 : decode cX7_copy 142 = .ok (.imul, 1) := by decide +kernel
theorem dX7_copy_143 : decode cX7_copy 143 = .ok (.iload_n 2, 1) := by decide +kernel
theorem dX7_copy_144 : decode cX7_copy 144 = .ok (.iadd, 1) := by decide +kernel
theorem dX7_copy_145 : decode cX7_copy 145 = .ok (.iload 6, 2) := by decide +kernel
theorem dX7_copy_147 : decode cX7_copy 147 = .ok (.iadd, 1) := by decide +kernel
theorem dX7_copy_148 : decode cX7_copy 148 = .ok (.laload, 1) := by decide +kernel
theorem dX7_copy_149 : decode cX7_copy 149 = .ok (.lastore, 1) := by decide +kernel
theorem dX7_copy_150 : decode cX7_copy 150 = .ok (.iinc 6 1, 3) := by decide +kernel
theorem dX7_copy_153 : decode cX7_copy 153 = .ok (.goto (-31), 3) := by decide +kernel
theorem dX7_copy_156 : decode cX7_copy 156 = .ok (.iconst 0, 1) := by decide +kernel
theorem dX7_copy_157 : decode cX7_copy 157 = .ok (.istore 6, 2) := by decide +kernel
theorem dX7_copy_159 : decode cX7_copy 159 = .ok (.iload 6, 2) := by decide +kernel
theorem dX7_copy_161 : decode cX7_copy 161 = .ok (.iload 5, 2) := by decide +kernel
theorem dX7_copy_163 : decode cX7_copy 163 = .ok (.if_icmp .ge 31, 3) := by decide +kernel
theorem dX7_copy_166 : decode cX7_copy 166 = .ok (.aload_n 0, 1) := by decide +kernel
theorem dX7_copy_167 : decode cX7_copy 167 = .ok (.getfield 48, 3) := by decide +kernel
theorem dX7_copy_170 : decode cX7_copy 170 = .ok (.bipush 40, 2) := by decide +kernel
theorem dX7_copy_172 : decode cX7_copy 172 = .ok (.iload_n 3, 1) := by decide +kernel
theorem dX7_copy_173 : decode cX7_copy 173 = .ok (.imul, 1) := by decide +kernel
theorem dX7_copy_174 : decode cX7_copy 174 = .ok (.iload 4, 2) := by decide +kernel
theorem dX7_copy_176 : decode cX7_copy 176 = .ok (.iadd, 1) := by decide +kernel
theorem dX7_copy_177 : decode cX7_copy 177 = .ok (.iload 6, 2) := by decide +kernel
theorem dX7_copy_179 : decode cX7_copy 179 = .ok (.iadd, 1) := by decide +kernel
theorem dX7_copy_180 : decode cX7_copy 180 = .ok (.aload_n 0, 1) := by decide +kernel
theorem dX7_copy_181 : decode cX7_copy 181 = .ok (.getfield 51, 3) := by decide +kernel
theorem dX7_copy_184 : decode cX7_copy 184 = .ok (.iload 6, 2) := by decide +kernel
theorem dX7_copy_186 : decode cX7_copy 186 = .ok (.laload, 1) := by decide +kernel
theorem dX7_copy_187 : decode cX7_copy 187 = .ok (.lastore, 1) := by decide +kernel
theorem dX7_copy_188 : decode cX7_copy 188 = .ok (.iinc 6 1, 3) := by decide +kernel
theorem dX7_copy_191 : decode cX7_copy 191 = .ok (.goto (-32), 3) := by decide +kernel
theorem dX7_copy_194 : decode cX7_copy 194 = .ok (.iconst 1, 1) := by decide +kernel
theorem dX7_copy_195 : decode cX7_copy 195 = .ok (.ireturn, 1) := by decide +kernel
theorem dX7_write_0 : decode cX7_write 0 = .ok (.iload_n 1, 1) := by decide +kernel
theorem dX7_write_1 : decode cX7_write 1 = .ok (.invokestatic 98, 3) := by decide +kernel
theorem dX7_write_4 : decode cX7_write 4 = .ok (.ifCond .ne 6, 3) := by decide +kernel
theorem dX7_write_7 : decode cX7_write 7 = .ok (.bipush (-2), 2) := by decide +kernel
theorem dX7_write_9 : decode cX7_write 9 = .ok (.ireturn, 1) := by decide +kernel
theorem dX7_write_10 : decode cX7_write 10 = .ok (.aload_n 0, 1) := by decide +kernel
theorem dX7_write_11 : decode cX7_write 11 = .ok (.getfield 42, 3) := by decide +kernel
theorem dX7_write_14 : decode cX7_write 14 = .ok (.iload_n 1, 1) := by decide +kernel
theorem dX7_write_15 : decode cX7_write 15 = .ok (.iaload, 1) := by decide +kernel
theorem dX7_write_16 : decode cX7_write 16 = .ok (.iconst (-1), 1) := by decide +kernel
theorem dX7_write_17 : decode cX7_write 17 = .ok (.if_icmp .ne 9, 3) := by decide +kernel
theorem dX7_write_20 : decode cX7_write 20 = .ok (.aload_n 0, 1) := by decide +kernel
theorem dX7_write_21 : decode cX7_write 21 = .ok (.iconst 1, 1) := by decide +kernel
theorem dX7_write_22 : decode cX7_write 22 = .ok (.invokevirtual 101, 3) := by decide +kernel
theorem dX7_write_25 : decode cX7_write 25 = .ok (.ireturn, 1) := by decide +kernel
theorem dX7_write_26 : decode cX7_write 26 = .ok (.aload_n 0, 1) := by decide +kernel
theorem dX7_write_27 : decode cX7_write 27 = .ok (.aload_n 0, 1) := by decide +kernel
theorem dX7_write_28 : decode cX7_write 28 = .ok (.getfield 76, 3) := by decide +kernel
theorem dX7_write_31 : decode cX7_write 31 = .ok (.invokevirtual 157, 3) := by decide +kernel
theorem dX7_write_34 : decode cX7_write 34 = .ok (.iconst (-1), 1) := by decide +kernel
theorem dX7_write_35 : decode cX7_write 35 = .ok (.if_icmp .ne 6, 3) := by decide +kernel
theorem dX7_write_38 : decode cX7_write 38 = .ok (.bipush (-3), 2) := by decide +kernel
theorem dX7_write_40 : decode cX7_write 40 = .ok (.ireturn, 1) := by decide +kernel
theorem dX7_write_41 : decode cX7_write 41 = .ok (.iconst 0, 1) := by decide +kernel
theorem dX7_write_42 : decode cX7_write 42 = .ok (.istore_n 2, 1) := by decide +kernel
theorem dX7_write_43 : decode cX7_write 43 = .ok (.iload_n 2, 1) := by decide +kernel
theorem dX7_write_44 : decode cX7_write 44 = .ok (.aload_n 0, 1) := by decide +kernel
theorem dX7_write_45 : decode cX7_write 45 = .ok (.getfield 45, 3) := by decide +kernel
theorem dX7_write_48 : decode cX7_write 48 = .ok (.iload_n 1, 1) := by decide +kernel
theorem dX7_write_49 : decode cX7_write 49 = .ok (.iaload, 1) := by decide +kernel
theorem dX7_write_50 : decode cX7_write 50 = .ok (.if_icmp .ge 57, 3) := by decide +kernel
theorem dX7_write_53 : decode cX7_write 53 = .ok (.iload_n 2, 1) := by decide +kernel
theorem dX7_write_54 : decode cX7_write 54 = .ok (.iconst 2, 1) := by decide +kernel
theorem dX7_write_55 : decode cX7_write 55 = .ok (.aload_n 0, 1) := by decide +kernel
theorem dX7_write_56 : decode cX7_write 56 = .ok (.invokevirtual 68, 3) := by decide +kernel
theorem dX7_write_59 : decode cX7_write 59 = .ok (.imul, 1) := by decide +kernel
theorem dX7_write_60 : decode cX7_write 60 = .ok (.if_icmp .ge 47, 3) := by decide +kernel
theorem dX7_write_63 : decode cX7_write 63 = .ok (.aload_n 0, 1) := by decide +kernel
theorem dX7_write_64 : decode cX7_write 64 = .ok (.iload_n 2, 1) := by decide +kernel
theorem dX7_write_65 : decode cX7_write 65 = .ok (.iconst 2, 1) := by decide +kernel
theorem dX7_write_66 : decode cX7_write 66 = .ok (.idiv, 1) := by decide +kernel
theorem dX7_write_67 : decode cX7_write 67 = .ok (.iload_n 2, 1) := by decide +kernel
theorem dX7_write_68 : decode cX7_write 68 = .ok (.iconst 2, 1) := by decide +kernel
theorem dX7_write_69 : decode cX7_write 69 = .ok (.irem, 1) := by decide +kernel
theorem dX7_write_70 : decode cX7_write 70 = .ok (.invokevirtual 171, 3) := by decide +kernel
theorem dX7_write_73 : decode cX7_write 73 = .ok (.lstore_n 3, 1) := by decide +kernel
theorem dX7_write_74 : decode cX7_write 74 = .ok (.aload_n 0, 1) := by decide +kernel
theorem dX7_write_75 : decode cX7_write 75 = .ok (.getfield 48, 3) := by decide +kernel
theorem dX7_write_78 : decode cX7_write 78 = .ok (.bipush 40, 2) := by decide +kernel
theorem dX7_write_80 : decode cX7_write 80 = .ok (.iload_n 1, 1) := by decide +kernel
theorem dX7_write_81 : decode cX7_write 81 = .ok (.imul, 1) := by decide +kernel
theorem dX7_write_82 : decode cX7_write 82 = .ok (.iload_n 2, 1) := by decide +kernel
theorem dX7_write_83 : decode cX7_write 83 = .ok (.iadd, 1) := by decide +kernel
theorem dX7_write_84 : decode cX7_write 84 = .ok (.aload_n 0, 1) := by decide +kernel
theorem dX7_write_85 : decode cX7_write 85 = .ok (.getfield 42, 3) := by decide +kernel
theorem dX7_write_88 : decode cX7_write 88 = .ok (.iload_n 1, 1) := by decide +kernel
theorem dX7_write_89 : decode cX7_write 89 = .ok (.iaload, 1) := by decide +kernel
theorem dX7_write_90 : decode cX7_write 90 = .ok (.ifCond .ne 9, 3) := by decide +kernel
theorem dX7_write_93 : decode cX7_write 93 = .ok (.lload_n 3, 1) := by decide +kernel
theorem dX7_write_94 : decode cX7_write 94 = .ok (.l2i, 1) := by decide +kernel
theorem dX7_write_95 : decode cX7_write 95 = .ok (.i2l, 1) := by decide +kernel
theorem dX7_write_96 : decode cX7_write 96 = .ok (.goto 4, 3) := by decide +kernel
theorem dX7_write_99 : decode cX7_write 99 = .ok (.lload_n 3, 1) := by decide +kernel
theorem dX7_write_100 : decode cX7_write 100 = .ok (.lastore, 1) := by decide +kernel
theorem dX7_write_101 : decode cX7_write 101 = .ok (.iinc 2 1, 3) := by decide +kernel
theorem dX7_write_104 : decode cX7_write 104 = .ok (.goto (-61), 3) := by decide +kernel
theorem dX7_write_107 : decode cX7_write 107 = .ok (.iload_n 2, 1) := by decide +kernel
theorem dX7_write_108 : decode cX7_write 108 = .ok (.ireturn, 1) := by decide +kernel
theorem dX7_ways_0 : decode cX7_ways 0 = .ok (.iconst 0, 1) := by decide +kernel
theorem dX7_ways_1 : decode cX7_ways 1 = .ok (.istore_n 1, 1) := by decide +kernel
theorem dX7_ways_2 : decode cX7_ways 2 = .ok (.iconst 0, 1) := by decide +kernel
theorem dX7_ways_3 : decode cX7_ways 3 = .ok (.istore_n 2, 1) := by decide +kernel
theorem dX7_ways_4 : decode cX7_ways 4 = .ok (.iload_n 2, 1) := by decide +kernel
theorem dX7_ways_5 : decode cX7_ways 5 = .ok (.bipush 10, 2) := by decide +kernel
theorem dX7_ways_7 : decode cX7_ways 7 = .ok (.if_icmp .ge 25, 3) := by decide +kernel
theorem dX7_ways_10 : decode cX7_ways 10 = .ok (.iload_n 1, 1) := by decide +kernel
theorem dX7_ways_11 : decode cX7_ways 11 = .ok (.aload_n 0, 1) := by decide +kernel
theorem dX7_ways_12 : decode cX7_ways 12 = .ok (.iload_n 2, 1) := by decide +kernel
theorem dX7_ways_13 : decode cX7_ways 13 = .ok (.invokevirtual 131, 3) := by decide +kernel
theorem dX7_ways_16 : decode cX7_ways 16 = .ok (.ifCond .eq 7, 3) := by decide +kernel
theorem dX7_ways_19 : decode cX7_ways 19 = .ok (.iconst 1, 1) := by decide +kernel
theorem dX7_ways_20 : decode cX7_ways 20 = .ok (.goto 4, 3) := by decide +kernel
theorem dX7_ways_23 : decode cX7_ways 23 = .ok (.iconst 0, 1) := by decide +kernel
theorem dX7_ways_24 : decode cX7_ways 24 = .ok (.iadd, 1) := by decide +kernel
theorem dX7_ways_25 : decode cX7_ways 25 = .ok (.istore_n 1, 1) := by decide +kernel
theorem dX7_ways_26 : decode cX7_ways 26 = .ok (.iinc 2 1, 3) := by decide +kernel
theorem dX7_ways_29 : decode cX7_ways 29 = .ok (.goto (-25), 3) := by decide +kernel
theorem dX7_ways_32 : decode cX7_ways 32 = .ok (.iload_n 1, 1) := by decide +kernel
theorem dX7_ways_33 : decode cX7_ways 33 = .ok (.ireturn, 1) := by decide +kernel
theorem dX7_count_0 : decode cX7_count 0 = .ok (.aload_n 0, 1) := by decide +kernel
theorem dX7_count_1 : decode cX7_count 1 = .ok (.aload_n 0, 1) := by decide +kernel
theorem dX7_count_2 : decode cX7_count 2 = .ok (.getfield 76, 3) := by decide +kernel
theorem dX7_count_5 : decode cX7_count 5 = .ok (.invokevirtual 157, 3) := by decide +kernel
theorem dX7_count_8 : decode cX7_count 8 = .ok (.istore_n 2, 1) := by decide +kernel
theorem dX7_count_9 : decode cX7_count 9 = .ok (.iload_n 1, 1) := by decide +kernel
theorem dX7_count_10 : decode cX7_count 10 = .ok (.tableswitch 125 0 8 #[50, 55, 63, 68, 82, 99, 110, 115, 120], 50) := by decide +kernel
theorem dX7_count_60 : decode cX7_count 60 = .ok (.aload_n 0, 1) := by decide +kernel
theorem dX7_count_61 : decode cX7_count 61 = .ok (.getfield 60, 3) := by decide +kernel
theorem dX7_count_64 : decode cX7_count 64 = .ok (.ireturn, 1) := by decide +kernel
theorem dX7_count_65 : decode cX7_count 65 = .ok (.aload_n 0, 1) := by decide +kernel
theorem dX7_count_66 : decode cX7_count 66 = .ok (.getfield 76, 3) := by decide +kernel
theorem dX7_count_69 : decode cX7_count 69 = .ok (.invokestatic 145, 3) := by decide +kernel
theorem dX7_count_72 : decode cX7_count 72 = .ok (.ireturn, 1) := by decide +kernel
theorem dX7_count_73 : decode cX7_count 73 = .ok (.aload_n 0, 1) := by decide +kernel
theorem dX7_count_74 : decode cX7_count 74 = .ok (.invokevirtual 233, 3) := by decide +kernel
theorem dX7_count_77 : decode cX7_count 77 = .ok (.ireturn, 1) := by decide +kernel
theorem dX7_count_78 : decode cX7_count 78 = .ok (.iload_n 2, 1) := by decide +kernel
theorem dX7_count_79 : decode cX7_count 79 = .ok (.iconst (-1), 1) := by decide +kernel
theorem dX7_count_80 : decode cX7_count 80 = .ok (.if_icmp .ne 7, 3) := by decide +kernel
theorem dX7_count_83 : decode cX7_count 83 = .ok (.iconst (-1), 1) := by decide +kernel
theorem dX7_count_84 : decode cX7_count 84 = .ok (.goto 7, 3) := by decide +kernel
theorem dX7_count_87 : decode cX7_count 87 = .ok (.iload_n 2, 1) := by decide +kernel
theorem dX7_count_88 : decode cX7_count 88 = .ok (.invokestatic 145, 3) := by decide +kernel
theorem dX7_count_91 : decode cX7_count 91 = .ok (.ireturn, 1) := by decide +kernel
theorem dX7_count_92 : decode cX7_count 92 = .ok (.iload_n 2, 1) := by decide +kernel
theorem dX7_count_93 : decode cX7_count 93 = .ok (.iconst (-1), 1) := by decide +kernel
theorem dX7_count_94 : decode cX7_count 94 = .ok (.if_icmp .ne 7, 3) := by decide +kernel
theorem dX7_count_97 : decode cX7_count 97 = .ok (.iconst (-1), 1) := by decide +kernel
theorem dX7_count_98 : decode cX7_count 98 = .ok (.goto 10, 3) := by decide +kernel
theorem dX7_count_101 : decode cX7_count 101 = .ok (.aload_n 0, 1) := by decide +kernel
theorem dX7_count_102 : decode cX7_count 102 = .ok (.invokevirtual 180, 3) := by decide +kernel
theorem dX7_count_105 : decode cX7_count 105 = .ok (.invokestatic 145, 3) := by decide +kernel
theorem dX7_count_108 : decode cX7_count 108 = .ok (.ireturn, 1) := by decide +kernel
theorem dX7_count_109 : decode cX7_count 109 = .ok (.iload_n 2, 1) := by decide +kernel
theorem dX7_count_110 : decode cX7_count 110 = .ok (.iconst (-1), 1) := by decide +kernel
theorem dX7_count_111 : decode cX7_count 111 = .ok (.if_icmp .ne 7, 3) := by decide +kernel
theorem dX7_count_114 : decode cX7_count 114 = .ok (.iconst 0, 1) := by decide +kernel
theorem dX7_count_115 : decode cX7_count 115 = .ok (.goto 4, 3) := by decide +kernel
theorem dX7_count_118 : decode cX7_count 118 = .ok (.iconst 1, 1) := by decide +kernel
theorem dX7_count_119 : decode cX7_count 119 = .ok (.ireturn, 1) := by decide +kernel
theorem dX7_count_120 : decode cX7_count 120 = .ok (.aload_n 0, 1) := by decide +kernel
theorem dX7_count_121 : decode cX7_count 121 = .ok (.invokevirtual 236, 3) := by decide +kernel
theorem dX7_count_124 : decode cX7_count 124 = .ok (.ireturn, 1) := by decide +kernel
theorem dX7_count_125 : decode cX7_count 125 = .ok (.aload_n 0, 1) := by decide +kernel
theorem dX7_count_126 : decode cX7_count 126 = .ok (.invokevirtual 207, 3) := by decide +kernel
theorem dX7_count_129 : decode cX7_count 129 = .ok (.ireturn, 1) := by decide +kernel
theorem dX7_count_130 : decode cX7_count 130 = .ok (.aload_n 0, 1) := by decide +kernel
theorem dX7_count_131 : decode cX7_count 131 = .ok (.getfield 228, 3) := by decide +kernel
theorem dX7_count_134 : decode cX7_count 134 = .ok (.ireturn, 1) := by decide +kernel
theorem dX7_count_135 : decode cX7_count 135 = .ok (.bipush (-2), 2) := by decide +kernel
theorem dX7_count_137 : decode cX7_count 137 = .ok (.ireturn, 1) := by decide +kernel
theorem dX7_pairDigest_0 : decode cX7_pairDigest 0 = .ok (.lload_n 1, 1) := by decide +kernel
theorem dX7_pairDigest_1 : decode cX7_pairDigest 1 = .ok (.lstore 4, 2) := by decide +kernel
theorem dX7_pairDigest_3 : decode cX7_pairDigest 3 = .ok (.iconst 0, 1) := by decide +kernel
theorem dX7_pairDigest_4 : decode cX7_pairDigest 4 = .ok (.istore 6, 2) := by decide +kernel
theorem dX7_pairDigest_6 : decode cX7_pairDigest 6 = .ok (.iload 6, 2) := by decide +kernel
theorem dX7_pairDigest_8 : decode cX7_pairDigest 8 = .ok (.iconst 4, 1) := by decide +kernel
theorem dX7_pairDigest_9 : decode cX7_pairDigest 9 = .ok (.if_icmp .ge 26, 3) := by decide +kernel
theorem dX7_pairDigest_12 : decode cX7_pairDigest 12 = .ok (.ldc2_w 239, 3) := by decide +kernel
theorem dX7_pairDigest_15 : decode cX7_pairDigest 15 = .ok (.lload 4, 2) := by decide +kernel
theorem dX7_pairDigest_17 : decode cX7_pairDigest 17 = .ok (.lmul, 1) := by decide +kernel
theorem dX7_pairDigest_18 : decode cX7_pairDigest 18 = .ok (.aload_n 0, 1) := by decide +kernel
theorem dX7_pairDigest_19 : decode cX7_pairDigest 19 = .ok (.iload_n 3, 1) := by decide +kernel
theorem dX7_pairDigest_20 : decode cX7_pairDigest 20 = .ok (.iload 6, 2) := by decide +kernel
theorem dX7_pairDigest_22 : decode cX7_pairDigest 22 = .ok (.invokevirtual 114, 3) := by decide +kernel
theorem dX7_pairDigest_25 : decode cX7_pairDigest 25 = .ok (.i2l, 1) := by decide +kernel
theorem dX7_pairDigest_26 : decode cX7_pairDigest 26 = .ok (.ladd, 1) := by decide +kernel
theorem dX7_pairDigest_27 : decode cX7_pairDigest 27 = .ok (.lstore 4, 2) := by decide +kernel
theorem dX7_pairDigest_29 : decode cX7_pairDigest 29 = .ok (.iinc 6 1, 3) := by decide +kernel
theorem dX7_pairDigest_32 : decode cX7_pairDigest 32 = .ok (.goto (-26), 3) := by decide +kernel
theorem dX7_pairDigest_35 : decode cX7_pairDigest 35 = .ok (.ldc2_w 239, 3) := by decide +kernel
theorem dX7_pairDigest_38 : decode cX7_pairDigest 38 = .ok (.lload 4, 2) := by decide +kernel
theorem dX7_pairDigest_40 : decode cX7_pairDigest 40 = .ok (.lmul, 1) := by decide +kernel
theorem dX7_pairDigest_41 : decode cX7_pairDigest 41 = .ok (.aload_n 0, 1) := by decide +kernel
theorem dX7_pairDigest_42 : decode cX7_pairDigest 42 = .ok (.iload_n 3, 1) := by decide +kernel
theorem dX7_pairDigest_43 : decode cX7_pairDigest 43 = .ok (.iconst 0, 1) := by decide +kernel
theorem dX7_pairDigest_44 : decode cX7_pairDigest 44 = .ok (.invokevirtual 171, 3) := by decide +kernel
theorem dX7_pairDigest_47 : decode cX7_pairDigest 47 = .ok (.ladd, 1) := by decide +kernel
theorem dX7_pairDigest_48 : decode cX7_pairDigest 48 = .ok (.lstore 4, 2) := by decide +kernel
theorem dX7_pairDigest_50 : decode cX7_pairDigest 50 = .ok (.ldc2_w 239, 3) := by decide +kernel
theorem dX7_pairDigest_53 : decode cX7_pairDigest 53 = .ok (.lload 4, 2) := by decide +kernel
theorem dX7_pairDigest_55 : decode cX7_pairDigest 55 = .ok (.lmul, 1) := by decide +kernel
theorem dX7_pairDigest_56 : decode cX7_pairDigest 56 = .ok (.aload_n 0, 1) := by decide +kernel
theorem dX7_pairDigest_57 : decode cX7_pairDigest 57 = .ok (.iload_n 3, 1) := by decide +kernel
theorem dX7_pairDigest_58 : decode cX7_pairDigest 58 = .ok (.iconst 1, 1) := by decide +kernel
theorem dX7_pairDigest_59 : decode cX7_pairDigest 59 = .ok (.invokevirtual 171, 3) := by decide +kernel
theorem dX7_pairDigest_62 : decode cX7_pairDigest 62 = .ok (.ladd, 1) := by decide +kernel
theorem dX7_pairDigest_63 : decode cX7_pairDigest 63 = .ok (.lstore 4, 2) := by decide +kernel
theorem dX7_pairDigest_65 : decode cX7_pairDigest 65 = .ok (.ldc2_w 239, 3) := by decide +kernel
theorem dX7_pairDigest_68 : decode cX7_pairDigest 68 = .ok (.lload 4, 2) := by decide +kernel
theorem dX7_pairDigest_70 : decode cX7_pairDigest 70 = .ok (.lmul, 1) := by decide +kernel
theorem dX7_pairDigest_71 : decode cX7_pairDigest 71 = .ok (.aload_n 0, 1) := by decide +kernel
theorem dX7_pairDigest_72 : decode cX7_pairDigest 72 = .ok (.iload_n 3, 1) := by decide +kernel
theorem dX7_pairDigest_73 : decode cX7_pairDigest 73 = .ok (.iconst 0, 1) := by decide +kernel
theorem dX7_pairDigest_74 : decode cX7_pairDigest 74 = .ok (.invokevirtual 241, 3) := by decide +kernel
theorem dX7_pairDigest_77 : decode cX7_pairDigest 77 = .ok (.ladd, 1) := by decide +kernel
theorem dX7_pairDigest_78 : decode cX7_pairDigest 78 = .ok (.lstore 4, 2) := by decide +kernel
theorem dX7_pairDigest_80 : decode cX7_pairDigest 80 = .ok (.ldc2_w 239, 3) := by decide +kernel
theorem dX7_pairDigest_83 : decode cX7_pairDigest 83 = .ok (.lload 4, 2) := by decide +kernel
theorem dX7_pairDigest_85 : decode cX7_pairDigest 85 = .ok (.lmul, 1) := by decide +kernel
theorem dX7_pairDigest_86 : decode cX7_pairDigest 86 = .ok (.aload_n 0, 1) := by decide +kernel
theorem dX7_pairDigest_87 : decode cX7_pairDigest 87 = .ok (.iload_n 3, 1) := by decide +kernel
theorem dX7_pairDigest_88 : decode cX7_pairDigest 88 = .ok (.iconst 1, 1) := by decide +kernel
theorem dX7_pairDigest_89 : decode cX7_pairDigest 89 = .ok (.invokevirtual 241, 3) := by decide +kernel
theorem dX7_pairDigest_92 : decode cX7_pairDigest 92 = .ok (.ladd, 1) := by decide +kernel
theorem dX7_pairDigest_93 : decode cX7_pairDigest 93 = .ok (.lstore 4, 2) := by decide +kernel
theorem dX7_pairDigest_95 : decode cX7_pairDigest 95 = .ok (.aload_n 0, 1) := by decide +kernel
theorem dX7_pairDigest_96 : decode cX7_pairDigest 96 = .ok (.iload_n 3, 1) := by decide +kernel
theorem dX7_pairDigest_97 : decode cX7_pairDigest 97 = .ok (.invokevirtual 174, 3) := by decide +kernel
theorem dX7_pairDigest_100 : decode cX7_pairDigest 100 = .ok (.ifCond .eq 47, 3) := by decide +kernel
theorem dX7_pairDigest_103 : decode cX7_pairDigest 103 = .ok (.ldc2_w 239, 3) := by decide +kernel
theorem dX7_pairDigest_106 : decode cX7_pairDigest 106 = .ok (.lload 4, 2) := by decide +kernel
theorem dX7_pairDigest_108 : decode cX7_pairDigest 108 = .ok (.lmul, 1) := by decide +kernel
theorem dX7_pairDigest_109 : decode cX7_pairDigest 109 = .ok (.aload_n 0, 1) := by decide +kernel
theorem dX7_pairDigest_110 : decode cX7_pairDigest 110 = .ok (.iload_n 3, 1) := by decide +kernel
theorem dX7_pairDigest_111 : decode cX7_pairDigest 111 = .ok (.iconst 0, 1) := by decide +kernel
theorem dX7_pairDigest_112 : decode cX7_pairDigest 112 = .ok (.invokevirtual 244, 3) := by decide +kernel
theorem dX7_pairDigest_115 : decode cX7_pairDigest 115 = .ok (.ladd, 1) := by decide +kernel
theorem dX7_pairDigest_116 : decode cX7_pairDigest 116 = .ok (.lstore 4, 2) := by decide +kernel
theorem dX7_pairDigest_118 : decode cX7_pairDigest 118 = .ok (.ldc2_w 239, 3) := by decide +kernel
theorem dX7_pairDigest_121 : decode cX7_pairDigest 121 = .ok (.lload 4, 2) := by decide +kernel
theorem dX7_pairDigest_123 : decode cX7_pairDigest 123 = .ok (.lmul, 1) := by decide +kernel
theorem dX7_pairDigest_124 : decode cX7_pairDigest 124 = .ok (.aload_n 0, 1) := by decide +kernel
theorem dX7_pairDigest_125 : decode cX7_pairDigest 125 = .ok (.iload_n 3, 1) := by decide +kernel
theorem dX7_pairDigest_126 : decode cX7_pairDigest 126 = .ok (.iconst 1, 1) := by decide +kernel
theorem dX7_pairDigest_127 : decode cX7_pairDigest 127 = .ok (.invokevirtual 244, 3) := by decide +kernel
theorem dX7_pairDigest_130 : decode cX7_pairDigest 130 = .ok (.ladd, 1) := by decide +kernel
theorem dX7_pairDigest_131 : decode cX7_pairDigest 131 = .ok (.lstore 4, 2) := by decide +kernel
theorem dX7_pairDigest_133 : decode cX7_pairDigest 133 = .ok (.ldc2_w 239, 3) := by decide +kernel
theorem dX7_pairDigest_136 : decode cX7_pairDigest 136 = .ok (.lload 4, 2) := by decide +kernel
theorem dX7_pairDigest_138 : decode cX7_pairDigest 138 = .ok (.lmul, 1) := by decide +kernel
theorem dX7_pairDigest_139 : decode cX7_pairDigest 139 = .ok (.aload_n 0, 1) := by decide +kernel
theorem dX7_pairDigest_140 : decode cX7_pairDigest 140 = .ok (.iload_n 3, 1) := by decide +kernel
theorem dX7_pairDigest_141 : decode cX7_pairDigest 141 = .ok (.invokevirtual 247, 3) := by decide +kernel
theorem dX7_pairDigest_144 : decode cX7_pairDigest 144 = .ok (.i2l, 1) := by decide +kernel
theorem dX7_pairDigest_145 : decode cX7_pairDigest 145 = .ok (.ladd, 1) := by decide +kernel
theorem dX7_pairDigest_146 : decode cX7_pairDigest 146 = .ok (.lreturn, 1) := by decide +kernel
theorem dX7_pairDigest_147 : decode cX7_pairDigest 147 = .ok (.ldc2_w 239, 3) := by decide +kernel
theorem dX7_pairDigest_150 : decode cX7_pairDigest 150 = .ok (.lload 4, 2) := by decide +kernel
theorem dX7_pairDigest_152 : decode cX7_pairDigest 152 = .ok (.lmul, 1) := by decide +kernel
theorem dX7_pairDigest_153 : decode cX7_pairDigest 153 = .ok (.aload_n 0, 1) := by decide +kernel
theorem dX7_pairDigest_154 : decode cX7_pairDigest 154 = .ok (.iload_n 3, 1) := by decide +kernel
theorem dX7_pairDigest_155 : decode cX7_pairDigest 155 = .ok (.iconst 0, 1) := by decide +kernel
theorem dX7_pairDigest_156 : decode cX7_pairDigest 156 = .ok (.invokevirtual 186, 3) := by decide +kernel
theorem dX7_pairDigest_159 : decode cX7_pairDigest 159 = .ok (.ladd, 1) := by decide +kernel
theorem dX7_pairDigest_160 : decode cX7_pairDigest 160 = .ok (.lstore 4, 2) := by decide +kernel
theorem dX7_pairDigest_162 : decode cX7_pairDigest 162 = .ok (.ldc2_w 239, 3) := by decide +kernel
theorem dX7_pairDigest_165 : decode cX7_pairDigest 165 = .ok (.lload 4, 2) := by decide +kernel
theorem dX7_pairDigest_167 : decode cX7_pairDigest 167 = .ok (.lmul, 1) := by decide +kernel
theorem dX7_pairDigest_168 : decode cX7_pairDigest 168 = .ok (.aload_n 0, 1) := by decide +kernel
theorem dX7_pairDigest_169 : decode cX7_pairDigest 169 = .ok (.iload_n 3, 1) := by decide +kernel
theorem dX7_pairDigest_170 : decode cX7_pairDigest 170 = .ok (.iconst 1, 1) := by decide +kernel
theorem dX7_pairDigest_171 : decode cX7_pairDigest 171 = .ok (.invokevirtual 186, 3) := by decide +kernel
theorem dX7_pairDigest_174 : decode cX7_pairDigest 174 = .ok (.ladd, 1) := by decide +kernel
theorem dX7_pairDigest_175 : decode cX7_pairDigest 175 = .ok (.lreturn, 1) := by decide +kernel
theorem dX7_digest_0 : decode cX7_digest 0 = .ok (.ldc2_w 250, 3) := by decide +kernel
theorem dX7_digest_3 : decode cX7_digest 3 = .ok (.lstore_n 1, 1) := by decide +kernel
theorem dX7_digest_4 : decode cX7_digest 4 = .ok (.iconst 0, 1) := by decide +kernel
theorem dX7_digest_5 : decode cX7_digest 5 = .ok (.istore_n 3, 1) := by decide +kernel
theorem dX7_digest_6 : decode cX7_digest 6 = .ok (.iload_n 3, 1) := by decide +kernel
theorem dX7_digest_7 : decode cX7_digest 7 = .ok (.bipush 8, 2) := by decide +kernel
theorem dX7_digest_9 : decode cX7_digest 9 = .ok (.if_icmp .ge 22, 3) := by decide +kernel
theorem dX7_digest_12 : decode cX7_digest 12 = .ok (.ldc2_w 239, 3) := by decide +kernel
theorem dX7_digest_15 : decode cX7_digest 15 = .ok (.lload_n 1, 1) := by decide +kernel
theorem dX7_digest_16 : decode cX7_digest 16 = .ok (.lmul, 1) := by decide +kernel
theorem dX7_digest_17 : decode cX7_digest 17 = .ok (.aload_n 0, 1) := by decide +kernel
theorem dX7_digest_18 : decode cX7_digest 18 = .ok (.iload_n 3, 1) := by decide +kernel
theorem dX7_digest_19 : decode cX7_digest 19 = .ok (.invokevirtual 252, 3) := by decide +kernel
theorem dX7_digest_22 : decode cX7_digest 22 = .ok (.i2l, 1) := by decide +kernel
theorem dX7_digest_23 : decode cX7_digest 23 = .ok (.ladd, 1) := by decide +kernel
theorem dX7_digest_24 : decode cX7_digest 24 = .ok (.lstore_n 1, 1) := by decide +kernel
theorem dX7_digest_25 : decode cX7_digest 25 = .ok (.iinc 3 1, 3) := by decide +kernel
theorem dX7_digest_28 : decode cX7_digest 28 = .ok (.goto (-22), 3) := by decide +kernel
theorem dX7_digest_31 : decode cX7_digest 31 = .ok (.ldc2_w 239, 3) := by decide +kernel
theorem dX7_digest_34 : decode cX7_digest 34 = .ok (.lload_n 1, 1) := by decide +kernel
theorem dX7_digest_35 : decode cX7_digest 35 = .ok (.lmul, 1) := by decide +kernel
theorem dX7_digest_36 : decode cX7_digest 36 = .ok (.aload_n 0, 1) := by decide +kernel
theorem dX7_digest_37 : decode cX7_digest 37 = .ok (.aload_n 0, 1) := by decide +kernel
theorem dX7_digest_38 : decode cX7_digest 38 = .ok (.getfield 76, 3) := by decide +kernel
theorem dX7_digest_41 : decode cX7_digest 41 = .ok (.iconst 0, 1) := by decide +kernel
theorem dX7_digest_42 : decode cX7_digest 42 = .ok (.invokevirtual 164, 3) := by decide +kernel
theorem dX7_digest_45 : decode cX7_digest 45 = .ok (.ladd, 1) := by decide +kernel
theorem dX7_digest_46 : decode cX7_digest 46 = .ok (.lstore_n 1, 1) := by decide +kernel
theorem dX7_digest_47 : decode cX7_digest 47 = .ok (.ldc2_w 239, 3) := by decide +kernel
theorem dX7_digest_50 : decode cX7_digest 50 = .ok (.lload_n 1, 1) := by decide +kernel
theorem dX7_digest_51 : decode cX7_digest 51 = .ok (.lmul, 1) := by decide +kernel
theorem dX7_digest_52 : decode cX7_digest 52 = .ok (.aload_n 0, 1) := by decide +kernel
theorem dX7_digest_53 : decode cX7_digest 53 = .ok (.aload_n 0, 1) := by decide +kernel
theorem dX7_digest_54 : decode cX7_digest 54 = .ok (.getfield 76, 3) := by decide +kernel
theorem dX7_digest_57 : decode cX7_digest 57 = .ok (.iconst 1, 1) := by decide +kernel
theorem dX7_digest_58 : decode cX7_digest 58 = .ok (.invokevirtual 164, 3) := by decide +kernel
theorem dX7_digest_61 : decode cX7_digest 61 = .ok (.ladd, 1) := by decide +kernel
theorem dX7_digest_62 : decode cX7_digest 62 = .ok (.lstore_n 1, 1) := by decide +kernel
theorem dX7_digest_63 : decode cX7_digest 63 = .ok (.ldc2_w 239, 3) := by decide +kernel
theorem dX7_digest_66 : decode cX7_digest 66 = .ok (.lload_n 1, 1) := by decide +kernel
theorem dX7_digest_67 : decode cX7_digest 67 = .ok (.lmul, 1) := by decide +kernel
theorem dX7_digest_68 : decode cX7_digest 68 = .ok (.aload_n 0, 1) := by decide +kernel
theorem dX7_digest_69 : decode cX7_digest 69 = .ok (.invokevirtual 255, 3) := by decide +kernel
theorem dX7_digest_72 : decode cX7_digest 72 = .ok (.i2l, 1) := by decide +kernel
theorem dX7_digest_73 : decode cX7_digest 73 = .ok (.ladd, 1) := by decide +kernel
theorem dX7_digest_74 : decode cX7_digest 74 = .ok (.lstore_n 1, 1) := by decide +kernel
theorem dX7_digest_75 : decode cX7_digest 75 = .ok (.ldc2_w 239, 3) := by decide +kernel
theorem dX7_digest_78 : decode cX7_digest 78 = .ok (.lload_n 1, 1) := by decide +kernel
theorem dX7_digest_79 : decode cX7_digest 79 = .ok (.lmul, 1) := by decide +kernel
theorem dX7_digest_80 : decode cX7_digest 80 = .ok (.aload_n 0, 1) := by decide +kernel
theorem dX7_digest_81 : decode cX7_digest 81 = .ok (.invokevirtual 168, 3) := by decide +kernel
theorem dX7_digest_84 : decode cX7_digest 84 = .ok (.i2l, 1) := by decide +kernel
theorem dX7_digest_85 : decode cX7_digest 85 = .ok (.ladd, 1) := by decide +kernel
theorem dX7_digest_86 : decode cX7_digest 86 = .ok (.lstore_n 1, 1) := by decide +kernel
theorem dX7_digest_87 : decode cX7_digest 87 = .ok (.ldc2_w 239, 3) := by decide +kernel
theorem dX7_digest_90 : decode cX7_digest 90 = .ok (.lload_n 1, 1) := by decide +kernel
theorem dX7_digest_91 : decode cX7_digest 91 = .ok (.lmul, 1) := by decide +kernel
theorem dX7_digest_92 : decode cX7_digest 92 = .ok (.aload_n 0, 1) := by decide +kernel
theorem dX7_digest_93 : decode cX7_digest 93 = .ok (.invokevirtual 180, 3) := by decide +kernel
theorem dX7_digest_96 : decode cX7_digest 96 = .ok (.i2l, 1) := by decide +kernel
theorem dX7_digest_97 : decode cX7_digest 97 = .ok (.ladd, 1) := by decide +kernel
theorem dX7_digest_98 : decode cX7_digest 98 = .ok (.lstore_n 1, 1) := by decide +kernel
theorem dX7_digest_99 : decode cX7_digest 99 = .ok (.ldc2_w 239, 3) := by decide +kernel
theorem dX7_digest_102 : decode cX7_digest 102 = .ok (.lload_n 1, 1) := by decide +kernel
theorem dX7_digest_103 : decode cX7_digest 103 = .ok (.lmul, 1) := by decide +kernel
theorem dX7_digest_104 : decode cX7_digest 104 = .ok (.aload_n 0, 1) := by decide +kernel
theorem dX7_digest_105 : decode cX7_digest 105 = .ok (.invokevirtual 183, 3) := by decide +kernel
theorem dX7_digest_108 : decode cX7_digest 108 = .ok (.i2l, 1) := by decide +kernel
theorem dX7_digest_109 : decode cX7_digest 109 = .ok (.ladd, 1) := by decide +kernel
theorem dX7_digest_110 : decode cX7_digest 110 = .ok (.lstore_n 1, 1) := by decide +kernel
theorem dX7_digest_111 : decode cX7_digest 111 = .ok (.iconst 0, 1) := by decide +kernel
theorem dX7_digest_112 : decode cX7_digest 112 = .ok (.istore_n 3, 1) := by decide +kernel
theorem dX7_digest_113 : decode cX7_digest 113 = .ok (.iload_n 3, 1) := by decide +kernel
theorem dX7_digest_114 : decode cX7_digest 114 = .ok (.aload_n 0, 1) := by decide +kernel
theorem dX7_digest_115 : decode cX7_digest 115 = .ok (.getfield 60, 3) := by decide +kernel
theorem dX7_digest_118 : decode cX7_digest 118 = .ok (.if_icmp .ge 40, 3) := by decide +kernel
theorem dX7_digest_121 : decode cX7_digest 121 = .ok (.iconst 0, 1) := by decide +kernel
theorem dX7_digest_122 : decode cX7_digest 122 = .ok (.istore 4, 2) := by decide +kernel
theorem dX7_digest_124 : decode cX7_digest 124 = .ok (.iload 4, 2) := by decide +kernel
theorem dX7_digest_126 : decode cX7_digest 126 = .ok (.bipush 7, 2) := by decide +kernel
theorem dX7_digest_128 : decode cX7_digest 128 = .ok (.if_icmp .ge 24, 3) := by decide +kernel
theorem dX7_digest_131 : decode cX7_digest 131 = .ok (.ldc2_w 239, 3) := by decide +kernel
theorem dX7_digest_134 : decode cX7_digest 134 = .ok (.lload_n 1, 1) := by decide +kernel
theorem dX7_digest_135 : decode cX7_digest 135 = .ok (.lmul, 1) := by decide +kernel
theorem dX7_digest_136 : decode cX7_digest 136 = .ok (.aload_n 0, 1) := by decide +kernel
theorem dX7_digest_137 : decode cX7_digest 137 = .ok (.iload_n 3, 1) := by decide +kernel
theorem dX7_digest_138 : decode cX7_digest 138 = .ok (.iload 4, 2) := by decide +kernel
theorem dX7_digest_140 : decode cX7_digest 140 = .ok (.invokevirtual 108, 3) := by decide +kernel
theorem dX7_digest_143 : decode cX7_digest 143 = .ok (.i2l, 1) := by decide +kernel
theorem dX7_digest_144 : decode cX7_digest 144 = .ok (.ladd, 1) := by decide +kernel
theorem dX7_digest_145 : decode cX7_digest 145 = .ok (.lstore_n 1, 1) := by decide +kernel
theorem dX7_digest_146 : decode cX7_digest 146 = .ok (.iinc 4 1, 3) := by decide +kernel
theorem dX7_digest_149 : decode cX7_digest 149 = .ok (.goto (-25), 3) := by decide +kernel
theorem dX7_digest_152 : decode cX7_digest 152 = .ok (.iinc 3 1, 3) := by decide +kernel
theorem dX7_digest_155 : decode cX7_digest 155 = .ok (.goto (-42), 3) := by decide +kernel
theorem dX7_digest_158 : decode cX7_digest 158 = .ok (.iconst 0, 1) := by decide +kernel
theorem dX7_digest_159 : decode cX7_digest 159 = .ok (.istore_n 3, 1) := by decide +kernel
theorem dX7_digest_160 : decode cX7_digest 160 = .ok (.iload_n 3, 1) := by decide +kernel
theorem dX7_digest_161 : decode cX7_digest 161 = .ok (.aload_n 0, 1) := by decide +kernel
theorem dX7_digest_162 : decode cX7_digest 162 = .ok (.invokevirtual 68, 3) := by decide +kernel
theorem dX7_digest_165 : decode cX7_digest 165 = .ok (.if_icmp .ge 16, 3) := by decide +kernel
theorem dX7_digest_168 : decode cX7_digest 168 = .ok (.aload_n 0, 1) := by decide +kernel
theorem dX7_digest_169 : decode cX7_digest 169 = .ok (.lload_n 1, 1) := by decide +kernel
theorem dX7_digest_170 : decode cX7_digest 170 = .ok (.iload_n 3, 1) := by decide +kernel
