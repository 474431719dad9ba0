theorem dX6_digestPair_96 : decode cX6_digestPair 96 = .ok (.iload_n 3, 1) := by decide +kernel
theorem dX6_digestPair_97 : decode cX6_digestPair 97 = .ok (.invokevirtual 136, 3) := by decide +kernel
theorem dX6_digestPair_100 : decode cX6_digestPair 100 = .ok (.ifCond .eq 47, 3) := by decide +kernel
theorem dX6_digestPair_103 : decode cX6_digestPair 103 = .ok (.ldc2_w 274, 3) := by decide +kernel
theorem dX6_digestPair_106 : decode cX6_digestPair 106 = .ok (.lload 4, 2) := by decide +kernel
theorem dX6_digestPair_108 : decode cX6_digestPair 108 = .ok (.lmul, 1) := by decide +kernel
theorem dX6_digestPair_109 : decode cX6_digestPair 109 = .ok (.aload_n 0, 1) := by decide +kernel
theorem dX6_digestPair_110 : decode cX6_digestPair 110 = .ok (.iload_n 3, 1) := by decide +kernel
theorem dX6_digestPair_111 : decode cX6_digestPair 111 = .ok (.iconst 0, 1) := by decide +kernel
theorem dX6_digestPair_112 : decode cX6_digestPair 112 = .ok (.invokevirtual 310, 3) := by decide +kernel
theorem dX6_digestPair_115 : decode cX6_digestPair 115 = .ok (.ladd, 1) := by decide +kernel
theorem dX6_digestPair_116 : decode cX6_digestPair 116 = .ok (.lstore 4, 2) := by decide +kernel
theorem dX6_digestPair_118 : decode cX6_digestPair 118 = .ok (.ldc2_w 274, 3) := by decide +kernel
theorem dX6_digestPair_121 : decode cX6_digestPair 121 = .ok (.lload 4, 2) := by decide +kernel
theorem dX6_digestPair_123 : decode cX6_digestPair 123 = .ok (.lmul, 1) := by decide +kernel
theorem dX6_digestPair_124 : decode cX6_digestPair 124 = .ok (.aload_n 0, 1) := by decide +kernel
theorem dX6_digestPair_125 : decode cX6_digestPair 125 = .ok (.iload_n 3, 1) := by decide +kernel
theorem dX6_digestPair_126 : decode cX6_digestPair 126 = .ok (.iconst 1, 1) := by decide +kernel
theorem dX6_digestPair_127 : decode cX6_digestPair 127 = .ok (.invokevirtual 310, 3) := by decide +kernel
theorem dX6_digestPair_130 : decode cX6_digestPair 130 = .ok (.ladd, 1) := by decide +kernel
theorem dX6_digestPair_131 : decode cX6_digestPair 131 = .ok (.lstore 4, 2) := by decide +kernel
theorem dX6_digestPair_133 : decode cX6_digestPair 133 = .ok (.ldc2_w 274, 3) := by decide +kernel
theorem dX6_digestPair_136 : decode cX6_digestPair 136 = .ok (.lload 4, 2) := by decide +kernel
theorem dX6_digestPair_138 : decode cX6_digestPair 138 = .ok (.lmul, 1) := by decide +kernel
theorem dX6_digestPair_139 : decode cX6_digestPair 139 = .ok (.aload_n 0, 1) := by decide +kernel
theorem dX6_digestPair_140 : decode cX6_digestPair 140 = .ok (.iload_n 3, 1) := by decide +kernel
theorem dX6_digestPair_141 : decode cX6_digestPair 141 = .ok (.invokevirtual 313, 3) := by decide +kernel
theorem dX6_digestPair_144 : decode cX6_digestPair 144 = .ok (.i2l, 1) := by decide +kernel
theorem dX6_digestPair_145 : decode cX6_digestPair 145 = .ok (.ladd, 1) := by decide +kernel
theorem dX6_digestPair_146 : decode cX6_digestPair 146 = .ok (.lreturn, 1) := by decide +kernel
theorem dX6_digestPair_147 : decode cX6_digestPair 147 = .ok (.ldc2_w 274, 3) := by decide +kernel
theorem dX6_digestPair_150 : decode cX6_digestPair 150 = .ok (.lload 4, 2) := by decide +kernel
theorem dX6_digestPair_152 : decode cX6_digestPair 152 = .ok (.lmul, 1) := by decide +kernel
theorem dX6_digestPair_153 : decode cX6_digestPair 153 = .ok (.aload_n 0, 1) := by decide +kernel
theorem dX6_digestPair_154 : decode cX6_digestPair 154 = .ok (.iload_n 3, 1) := by decide +kernel
theorem dX6_digestPair_155 : decode cX6_digestPair 155 = .ok (.iconst 0, 1) := by decide +kernel
theorem dX6_digestPair_156 : decode cX6_digestPair 156 = .ok (.invokevirtual 316, 3) := by decide +kernel
theorem dX6_digestPair_159 : decode cX6_digestPair 159 = .ok (.ladd, 1) := by decide +kernel
theorem dX6_digestPair_160 : decode cX6_digestPair 160 = .ok (.lstore 4, 2) := by decide +kernel
theorem dX6_digestPair_162 : decode cX6_digestPair 162 = .ok (.ldc2_w 274, 3) := by decide +kernel
theorem dX6_digestPair_165 : decode cX6_digestPair 165 = .ok (.lload 4, 2) := by decide +kernel
theorem dX6_digestPair_167 : decode cX6_digestPair 167 = .ok (.lmul, 1) := by decide +kernel
theorem dX6_digestPair_168 : decode cX6_digestPair 168 = .ok (.aload_n 0, 1) := by decide +kernel
theorem dX6_digestPair_169 : decode cX6_digestPair 169 = .ok (.iload_n 3, 1) := by decide +kernel
theorem dX6_digestPair_170 : decode cX6_digestPair 170 = .ok (.iconst 1, 1) := by decide +kernel
theorem dX6_digestPair_171 : decode cX6_digestPair 171 = .ok (.invokevirtual 316, 3) := by decide +kernel
theorem dX6_digestPair_174 : decode cX6_digestPair 174 = .ok (.ladd, 1) := by decide +kernel
theorem dX6_digestPair_175 : decode cX6_digestPair 175 = .ok (.lreturn, 1) := by decide +kernel
theorem dX6_bestNow_0 : decode cX6_bestNow 0 = .ok (.aload_n 0, 1) := by decide +kernel
theorem dX6_bestNow_1 : decode cX6_bestNow 1 = .ok (.getfield 52, 3) := by decide +kernel
theorem dX6_bestNow_4 : decode cX6_bestNow 4 = .ok (.ifCond .eq 26, 3) := by decide +kernel
theorem dX6_bestNow_7 : decode cX6_bestNow 7 = .ok (.aload_n 0, 1) := by decide +kernel
theorem dX6_bestNow_8 : decode cX6_bestNow 8 = .ok (.getfield 24, 3) := by decide +kernel
theorem dX6_bestNow_11 : decode cX6_bestNow 11 = .ok (.aload_n 0, 1) := by decide +kernel
theorem dX6_bestNow_12 : decode cX6_bestNow 12 = .ok (.getfield 13, 3) := by decide +kernel
theorem dX6_bestNow_15 : decode cX6_bestNow 15 = .ok (.aload_n 0, 1) := by decide +kernel
theorem dX6_bestNow_16 : decode cX6_bestNow 16 = .ok (.getfield 13, 3) := by decide +kernel
theorem dX6_bestNow_19 : decode cX6_bestNow 19 = .ok (.invokevirtual 75, 3) := by decide +kernel
theorem dX6_bestNow_22 : decode cX6_bestNow 22 = .ok (.invokevirtual 199, 3) := by decide +kernel
theorem dX6_bestNow_25 : decode cX6_bestNow 25 = .ok (.aload_n 0, 1) := by decide +kernel
theorem dX6_bestNow_26 : decode cX6_bestNow 26 = .ok (.iconst 0, 1) := by decide +kernel
theorem dX6_bestNow_27 : decode cX6_bestNow 27 = .ok (.putfield 52, 3) := by decide +kernel
theorem dX6_bestNow_30 : decode cX6_bestNow 30 = .ok (.aload_n 0, 1) := by decide +kernel
theorem dX6_bestNow_31 : decode cX6_bestNow 31 = .ok (.getfield 24, 3) := by decide +kernel
theorem dX6_bestNow_34 : decode cX6_bestNow 34 = .ok (.aload_n 0, 1) := by decide +kernel
theorem dX6_bestNow_35 : decode cX6_bestNow 35 = .ok (.getfield 72, 3) := by decide +kernel
theorem dX6_bestNow_38 : decode cX6_bestNow 38 = .ok (.invokevirtual 175, 3) := by decide +kernel
theorem dX6_bestNow_41 : decode cX6_bestNow 41 = .ok (.ireturn, 1) := by decide +kernel
theorem dX6_mostSaving_0 : decode cX6_mostSaving 0 = .ok (.iconst (-1), 1) := by decide +kernel
theorem dX6_mostSaving_1 : decode cX6_mostSaving 1 = .ok (.istore_n 1, 1) := by decide +kernel
theorem dX6_mostSaving_2 : decode cX6_mostSaving 2 = .ok (.aload_n 0, 1) := by decide +kernel
theorem dX6_mostSaving_3 : decode cX6_mostSaving 3 = .ok (.getfield 24, 3) := by decide +kernel
theorem dX6_mostSaving_6 : decode cX6_mostSaving 6 = .ok (.aload_n 0, 1) := by decide +kernel
theorem dX6_mostSaving_7 : decode cX6_mostSaving 7 = .ok (.getfield 72, 3) := by decide +kernel
theorem dX6_mostSaving_10 : decode cX6_mostSaving 10 = .ok (.invokevirtual 175, 3) := by decide +kernel
theorem dX6_mostSaving_13 : decode cX6_mostSaving 13 = .ok (.istore_n 2, 1) := by decide +kernel
theorem dX6_mostSaving_14 : decode cX6_mostSaving 14 = .ok (.iconst 0, 1) := by decide +kernel
theorem dX6_mostSaving_15 : decode cX6_mostSaving 15 = .ok (.istore_n 3, 1) := by decide +kernel
theorem dX6_mostSaving_16 : decode cX6_mostSaving 16 = .ok (.iload_n 3, 1) := by decide +kernel
theorem dX6_mostSaving_17 : decode cX6_mostSaving 17 = .ok (.aload_n 0, 1) := by decide +kernel
theorem dX6_mostSaving_18 : decode cX6_mostSaving 18 = .ok (.getfield 13, 3) := by decide +kernel
theorem dX6_mostSaving_21 : decode cX6_mostSaving 21 = .ok (.invokevirtual 98, 3) := by decide +kernel
theorem dX6_mostSaving_24 : decode cX6_mostSaving 24 = .ok (.if_icmp .ge 44, 3) := by decide +kernel
theorem dX6_mostSaving_27 : decode cX6_mostSaving 27 = .ok (.aload_n 0, 1) := by decide +kernel
theorem dX6_mostSaving_28 : decode cX6_mostSaving 28 = .ok (.getfield 24, 3) := by decide +kernel
theorem dX6_mostSaving_31 : decode cX6_mostSaving 31 = .ok (.aload_n 0, 1) := by decide +kernel
theorem dX6_mostSaving_32 : decode cX6_mostSaving 32 = .ok (.getfield 72, 3) := by decide +kernel
theorem dX6_mostSaving_35 : decode cX6_mostSaving 35 = .ok (.iconst 1, 1) := by decide +kernel
theorem dX6_mostSaving_36 : decode cX6_mostSaving 36 = .ok (.iload_n 3, 1) := by decide +kernel
theorem dX6_mostSaving_37 : decode cX6_mostSaving 37 = .ok (.ishl, 1) := by decide +kernel
theorem dX6_mostSaving_38 : decode cX6_mostSaving 38 = .ok (.ior, 1) := by decide +kernel
theorem dX6_mostSaving_39 : decode cX6_mostSaving 39 = .ok (.invokevirtual 175, 3) := by decide +kernel
theorem dX6_mostSaving_42 : decode cX6_mostSaving 42 = .ok (.istore 4, 2) := by decide +kernel
theorem dX6_mostSaving_44 : decode cX6_mostSaving 44 = .ok (.aload_n 0, 1) := by decide +kernel
theorem dX6_mostSaving_45 : decode cX6_mostSaving 45 = .ok (.getfield 24, 3) := by decide +kernel
theorem dX6_mostSaving_48 : decode cX6_mostSaving 48 = .ok (.iload_n 2, 1) := by decide +kernel
theorem dX6_mostSaving_49 : decode cX6_mostSaving 49 = .ok (.iload 4, 2) := by decide +kernel
theorem dX6_mostSaving_51 : decode cX6_mostSaving 51 = .ok (.invokevirtual 178, 3) := by decide +kernel
theorem dX6_mostSaving_54 : decode cX6_mostSaving 54 = .ok (.ifCond .eq 8, 3) := by decide +kernel
theorem dX6_mostSaving_57 : decode cX6_mostSaving 57 = .ok (.iload_n 3, 1) := by decide +kernel
theorem dX6_mostSaving_58 : decode cX6_mostSaving 58 = .ok (.istore_n 1, 1) := by decide +kernel
theorem dX6_mostSaving_59 : decode cX6_mostSaving 59 = .ok (.iload 4, 2) := by decide +kernel
theorem dX6_mostSaving_61 : decode cX6_mostSaving 61 = .ok (.istore_n 2, 1) := by decide +kernel
theorem dX6_mostSaving_62 : decode cX6_mostSaving 62 = .ok (.iinc 3 1, 3) := by decide +kernel
theorem dX6_mostSaving_65 : decode cX6_mostSaving 65 = .ok (.goto (-49), 3) := by decide +kernel
theorem dX6_mostSaving_68 : decode cX6_mostSaving 68 = .ok (.iload_n 1, 1) := by decide +kernel
theorem dX6_mostSaving_69 : decode cX6_mostSaving 69 = .ok (.ireturn, 1) := by decide +kernel
theorem dX6_crossings_0 : decode cX6_crossings 0 = .ok (.aload_n 0, 1) := by decide +kernel
theorem dX6_crossings_1 : decode cX6_crossings 1 = .ok (.invokevirtual 146, 3) := by decide +kernel
theorem dX6_crossings_4 : decode cX6_crossings 4 = .ok (.istore_n 1, 1) := by decide +kernel
theorem dX6_crossings_5 : decode cX6_crossings 5 = .ok (.iload_n 1, 1) := by decide +kernel
theorem dX6_crossings_6 : decode cX6_crossings 6 = .ok (.ifCond .ge 7, 3) := by decide +kernel
theorem dX6_crossings_9 : decode cX6_crossings 9 = .ok (.iconst (-1), 1) := by decide +kernel
theorem dX6_crossings_10 : decode cX6_crossings 10 = .ok (.goto 24, 3) := by decide +kernel
theorem dX6_crossings_13 : decode cX6_crossings 13 = .ok (.aload_n 0, 1) := by decide +kernel
theorem dX6_crossings_14 : decode cX6_crossings 14 = .ok (.getfield 41, 3) := by decide +kernel
theorem dX6_crossings_17 : decode cX6_crossings 17 = .ok (.aload_n 0, 1) := by decide +kernel
theorem dX6_crossings_18 : decode cX6_crossings 18 = .ok (.getfield 13, 3) := by decide +kernel
theorem dX6_crossings_21 : decode cX6_crossings 21 = .ok (.aload_n 0, 1) := by decide +kernel
theorem dX6_crossings_22 : decode cX6_crossings 22 = .ok (.getfield 24, 3) := by decide +kernel
theorem dX6_crossings_25 : decode cX6_crossings 25 = .ok (.getfield 157, 3) := by decide +kernel
theorem dX6_crossings_28 : decode cX6_crossings 28 = .ok (.iload_n 1, 1) := by decide +kernel
theorem dX6_crossings_29 : decode cX6_crossings 29 = .ok (.iaload, 1) := by decide +kernel
theorem dX6_crossings_30 : decode cX6_crossings 30 = .ok (.iconst (-1), 1) := by decide +kernel
theorem dX6_crossings_31 : decode cX6_crossings 31 = .ok (.invokevirtual 221, 3) := by decide +kernel
theorem dX6_crossings_34 : decode cX6_crossings 34 = .ok (.ireturn, 1) := by decide +kernel
theorem dX6_found_0 : decode cX6_found 0 = .ok (.aload_n 0, 1) := by decide +kernel
theorem dX6_found_1 : decode cX6_found 1 = .ok (.iload_n 1, 1) := by decide +kernel
theorem dX6_found_2 : decode cX6_found 2 = .ok (.putfield 269, 3) := by decide +kernel
theorem dX6_found_5 : decode cX6_found 5 = .ok (.bipush (-10), 2) := by decide +kernel
theorem dX6_found_7 : decode cX6_found 7 = .ok (.iload_n 1, 1) := by decide +kernel
theorem dX6_found_8 : decode cX6_found 8 = .ok (.isub, 1) := by decide +kernel
theorem dX6_found_9 : decode cX6_found 9 = .ok (.ireturn, 1) := by decide +kernel
theorem dX6_isBar_0 : decode cX6_isBar 0 = .ok (.aload_n 0, 1) := by decide +kernel
theorem dX6_isBar_1 : decode cX6_isBar 1 = .ok (.getfield 13, 3) := by decide +kernel
theorem dX6_isBar_4 : decode cX6_isBar 4 = .ok (.iload_n 1, 1) := by decide +kernel
theorem dX6_isBar_5 : decode cX6_isBar 5 = .ok (.invokevirtual 95, 3) := by decide +kernel
theorem dX6_isBar_8 : decode cX6_isBar 8 = .ok (.ifCond .eq 18, 3) := by decide +kernel
theorem dX6_isBar_11 : decode cX6_isBar 11 = .ok (.aload_n 0, 1) := by decide +kernel
theorem dX6_isBar_12 : decode cX6_isBar 12 = .ok (.getfield 72, 3) := by decide +kernel
theorem dX6_isBar_15 : decode cX6_isBar 15 = .ok (.iload_n 1, 1) := by decide +kernel
theorem dX6_isBar_16 : decode cX6_isBar 16 = .ok (.ishr, 1) := by decide +kernel
theorem dX6_isBar_17 : decode cX6_isBar 17 = .ok (.iconst 1, 1) := by decide +kernel
theorem dX6_isBar_18 : decode cX6_isBar 18 = .ok (.iand, 1) := by decide +kernel
theorem dX6_isBar_19 : decode cX6_isBar 19 = .ok (.ifCond .eq 7, 3) := by decide +kernel
theorem dX6_isBar_22 : decode cX6_isBar 22 = .ok (.iconst 1, 1) := by decide +kernel
theorem dX6_isBar_23 : decode cX6_isBar 23 = .ok (.goto 4, 3) := by decide +kernel
theorem dX6_isBar_26 : decode cX6_isBar 26 = .ok (.iconst 0, 1) := by decide +kernel
theorem dX6_isBar_27 : decode cX6_isBar 27 = .ok (.ireturn, 1) := by decide +kernel
theorem dX6_bitsOrNone_0 : decode cX6_bitsOrNone 0 = .ok (.iload_n 0, 1) := by decide +kernel
theorem dX6_bitsOrNone_1 : decode cX6_bitsOrNone 1 = .ok (.ifCond .ge 7, 3) := by decide +kernel
theorem dX6_bitsOrNone_4 : decode cX6_bitsOrNone 4 = .ok (.iconst (-1), 1) := by decide +kernel
theorem dX6_bitsOrNone_5 : decode cX6_bitsOrNone 5 = .ok (.goto 7, 3) := by decide +kernel
theorem dX6_bitsOrNone_8 : decode cX6_bitsOrNone 8 = .ok (.iload_n 0, 1) := by decide +kernel
theorem dX6_bitsOrNone_9 : decode cX6_bitsOrNone 9 = .ok (.invokestatic 194, 3) := by decide +kernel
theorem dX6_bitsOrNone_12 : decode cX6_bitsOrNone 12 = .ok (.ireturn, 1) := by decide +kernel
theorem dX6_asLong_0 : decode cX6_asLong 0 = .ok (.ldc2_w 319, 3) := by decide +kernel
theorem dX6_asLong_3 : decode cX6_asLong 3 = .ok (.iload_n 0, 1) := by decide +kernel
theorem dX6_asLong_4 : decode cX6_asLong 4 = .ok (.i2l, 1) := by decide +kernel
theorem dX6_asLong_5 : decode cX6_asLong 5 = .ok (.lsub, 1) := by decide +kernel
theorem dX6_asLong_6 : decode cX6_asLong 6 = .ok (.lreturn, 1) := by decide +kernel
theorem dX6_isWithin_0 : decode cX6_isWithin 0 = .ok (.iload_n 0, 1) := by decide +kernel
theorem dX6_isWithin_1 : decode cX6_isWithin 1 = .ok (.iload_n 1, 1) := by decide +kernel
theorem dX6_isWithin_2 : decode cX6_isWithin 2 = .ok (.if_icmp .lt 12, 3) := by decide +kernel
theorem dX6_isWithin_5 : decode cX6_isWithin 5 = .ok (.iload_n 0, 1) := by decide +kernel
theorem dX6_isWithin_6 : decode cX6_isWithin 6 = .ok (.iload_n 2, 1) := by decide +kernel
theorem dX6_isWithin_7 : decode cX6_isWithin 7 = .ok (.if_icmp .gt 7, 3) := by decide +kernel
theorem dX6_isWithin_10 : decode cX6_isWithin 10 = .ok (.iconst 1, 1) := by decide +kernel
theorem dX6_isWithin_11 : decode cX6_isWithin 11 = .ok (.goto 4, 3) := by decide +kernel
theorem dX6_isWithin_14 : decode cX6_isWithin 14 = .ok (.iconst 0, 1) := by decide +kernel
theorem dX6_isWithin_15 : decode cX6_isWithin 15 = .ok (.ireturn, 1) := by decide +kernel
theorem dX6_isLoad_0 : decode cX6_isLoad 0 = .ok (.lload_n 0, 1) := by decide +kernel
theorem dX6_isLoad_1 : decode cX6_isLoad 1 = .ok (.ldc2_w 321, 3) := by decide +kernel
theorem dX6_isLoad_4 : decode cX6_isLoad 4 = .ok (.lcmp, 1) := by decide +kernel
theorem dX6_isLoad_5 : decode cX6_isLoad 5 = .ok (.ifCond .lt 15, 3) := by decide +kernel
theorem dX6_isLoad_8 : decode cX6_isLoad 8 = .ok (.lload_n 0, 1) := by decide +kernel
theorem dX6_isLoad_9 : decode cX6_isLoad 9 = .ok (.ldc2_w 323, 3) := by decide +kernel
theorem dX6_isLoad_12 : decode cX6_isLoad 12 = .ok (.lcmp, 1) := by decide +kernel
theorem dX6_isLoad_13 : decode cX6_isLoad 13 = .ok (.ifCond .gt 7, 3) := by decide +kernel
theorem dX6_isLoad_16 : decode cX6_isLoad 16 = .ok (.iconst 1, 1) := by decide +kernel
theorem dX6_isLoad_17 : decode cX6_isLoad 17 = .ok (.goto 4, 3) := by decide +kernel
theorem dX6_isLoad_20 : decode cX6_isLoad 20 = .ok (.iconst 0, 1) := by decide +kernel
theorem dX6_isLoad_21 : decode cX6_isLoad 21 = .ok (.ireturn, 1) := by decide +kernel
theorem dX6_isPart_0 : decode cX6_isPart 0 = .ok (.iload_n 0, 1) := by decide +kernel
theorem dX6_isPart_1 : decode cX6_isPart 1 = .ok (.ifCond .eq 8, 3) := by decide +kernel
theorem dX6_isPart_4 : decode cX6_isPart 4 = .ok (.iload_n 0, 1) := by decide +kernel
theorem dX6_isPart_5 : decode cX6_isPart 5 = .ok (.iconst 1, 1) := by decide +kernel
theorem dX6_isPart_6 : decode cX6_isPart 6 = .ok (.if_icmp .ne 7, 3) := by decide +kernel
theorem dX6_isPart_9 : decode cX6_isPart 9 = .ok (.iconst 1, 1) := by decide +kernel
theorem dX6_isPart_10 : decode cX6_isPart 10 = .ok (.goto 4, 3) := by decide +kernel
theorem dX6_isPart_13 : decode cX6_isPart 13 = .ok (.iconst 0, 1) := by decide +kernel
theorem dX6_isPart_14 : decode cX6_isPart 14 = .ok (.ireturn, 1) := by decide +kernel
theorem dX6_isSheet_0 : decode cX6_isSheet 0 = .ok (.iload_n 0, 1) := by decide +kernel
theorem dX6_isSheet_1 : decode cX6_isSheet 1 = .ok (.ifCond .lt 12, 3) := by decide +kernel
theorem dX6_isSheet_4 : decode cX6_isSheet 4 = .ok (.iload_n 0, 1) := by decide +kernel
theorem dX6_isSheet_5 : decode cX6_isSheet 5 = .ok (.iconst 4, 1) := by decide +kernel
theorem dX6_isSheet_6 : decode cX6_isSheet 6 = .ok (.if_icmp .ge 7, 3) := by decide +kernel
theorem dX6_isSheet_9 : decode cX6_isSheet 9 = .ok (.iconst 1, 1) := by decide +kernel
theorem dX6_isSheet_10 : decode cX6_isSheet 10 = .ok (.goto 4, 3) := by decide +kernel
theorem dX6_isSheet_13 : decode cX6_isSheet 13 = .ok (.iconst 0, 1) := by decide +kernel
theorem dX6_isSheet_14 : decode cX6_isSheet 14 = .ok (.ireturn, 1) := by decide +kernel
theorem dX6_lowest_0 : decode cX6_lowest 0 = .ok (.lload_n 0, 1) := by decide +kernel
theorem dX6_lowest_1 : decode cX6_lowest 1 = .ok (.invokestatic 211, 3) := by decide +kernel
theorem dX6_lowest_4 : decode cX6_lowest 4 = .ok (.lstore 5, 2) := by decide +kernel
theorem dX6_lowest_6 : decode cX6_lowest 6 = .ok (.lload_n 2, 1) := by decide +kernel
theorem dX6_lowest_7 : decode cX6_lowest 7 = .ok (.invokestatic 211, 3) := by decide +kernel
theorem dX6_lowest_10 : decode cX6_lowest 10 = .ok (.lstore 7, 2) := by decide +kernel
theorem dX6_lowest_12 : decode cX6_lowest 12 = .ok (.iconst 0, 1) := by decide +kernel
theorem dX6_lowest_13 : decode cX6_lowest 13 = .ok (.istore 9, 2) := by decide +kernel
theorem dX6_lowest_15 : decode cX6_lowest 15 = .ok (.iload 9, 2) := by decide +kernel
theorem dX6_lowest_17 : decode cX6_lowest 17 = .ok (.sipush 128, 3) := by decide +kernel
theorem dX6_lowest_20 : decode cX6_lowest 20 = .ok (.if_icmp .ge 31, 3) := by decide +kernel
theorem dX6_lowest_23 : decode cX6_lowest 23 = .ok (.lload 7, 2) := by decide +kernel
theorem dX6_lowest_25 : decode cX6_lowest 25 = .ok (.lconst 0, 1) := by decide +kernel
theorem dX6_lowest_26 : decode cX6_lowest 26 = .ok (.lcmp, 1) := by decide +kernel
theorem dX6_lowest_27 : decode cX6_lowest 27 = .ok (.ifCond .eq 24, 3) := by decide +kernel
theorem dX6_lowest_30 : decode cX6_lowest 30 = .ok (.lload 5, 2) := by decide +kernel
theorem dX6_lowest_32 : decode cX6_lowest 32 = .ok (.lload 7, 2) := by decide +kernel
theorem dX6_lowest_34 : decode cX6_lowest 34 = .ok (.lrem, 1) := by decide +kernel
theorem dX6_lowest_35 : decode cX6_lowest 35 = .ok (.lstore 10, 2) := by decide +kernel
theorem dX6_lowest_37 : decode cX6_lowest 37 = .ok (.lload 7, 2) := by decide +kernel
theorem dX6_lowest_39 : decode cX6_lowest 39 = .ok (.lstore 5, 2) := by decide +kernel
theorem dX6_lowest_41 : decode cX6_lowest 41 = .ok (.lload 10, 2) := by decide +kernel
theorem dX6_lowest_43 : decode cX6_lowest 43 = .ok (.lstore 7, 2) := by decide +kernel
theorem dX6_lowest_45 : decode cX6_lowest 45 = .ok (.iinc 9 1, 3) := by decide +kernel
theorem dX6_lowest_48 : decode cX6_lowest 48 = .ok (.goto (-33), 3) := by decide +kernel
theorem dX6_lowest_51 : decode cX6_lowest 51 = .ok (.lload_n 2, 1) := by decide +kernel
theorem dX6_lowest_52 : decode cX6_lowest 52 = .ok (.lconst 0, 1) := by decide +kernel
theorem dX6_lowest_53 : decode cX6_lowest 53 = .ok (.lcmp, 1) := by decide +kernel
theorem dX6_lowest_54 : decode cX6_lowest 54 = .ok (.ifCond .ge 9, 3) := by decide +kernel
theorem dX6_lowest_57 : decode cX6_lowest 57 = .ok (.lload 5, 2) := by decide +kernel
theorem dX6_lowest_59 : decode cX6_lowest 59 = .ok (.lneg, 1) := by decide +kernel
theorem dX6_lowest_60 : decode cX6_lowest 60 = .ok (.goto 5, 3) := by decide +kernel
theorem dX6_lowest_63 : decode cX6_lowest 63 = .ok (.lload 5, 2) := by decide +kernel
theorem dX6_lowest_65 : decode cX6_lowest 65 = .ok (.lstore 9, 2) := by decide +kernel
theorem dX6_lowest_67 : decode cX6_lowest 67 = .ok (.lload 9, 2) := by decide +kernel
theorem dX6_lowest_69 : decode cX6_lowest 69 = .ok (.lconst 0, 1) := by decide +kernel
theorem dX6_lowest_70 : decode cX6_lowest 70 = .ok (.lcmp, 1) := by decide +kernel
theorem dX6_lowest_71 : decode cX6_lowest 71 = .ok (.ifCond .ne 7, 3) := by decide +kernel
theorem dX6_lowest_74 : decode cX6_lowest 74 = .ok (.iload 4, 2) := by decide +kernel
theorem dX6_lowest_76 : decode cX6_lowest 76 = .ok (.i2l, 1) := by decide +kernel
theorem dX6_lowest_77 : decode cX6_lowest 77 = .ok (.lreturn, 1) := by decide +kernel
theorem dX6_lowest_78 : decode cX6_lowest 78 = .ok (.iload 4, 2) := by decide +kernel
theorem dX6_lowest_80 : decode cX6_lowest 80 = .ok (.ifCond .ne 7, 3) := by decide +kernel
theorem dX6_lowest_83 : decode cX6_lowest 83 = .ok (.lload_n 0, 1) := by decide +kernel
theorem dX6_lowest_84 : decode cX6_lowest 84 = .ok (.goto 4, 3) := by decide +kernel
theorem dX6_lowest_87 : decode cX6_lowest 87 = .ok (.lload_n 2, 1) := by decide +kernel
theorem dX6_lowest_88 : decode cX6_lowest 88 = .ok (.lload 9, 2) := by decide +kernel
theorem dX6_lowest_90 : decode cX6_lowest 90 = .ok (.ldiv, 1) := by decide +kernel
theorem dX6_lowest_91 : decode cX6_lowest 91 = .ok (.lreturn, 1) := by decide +kernel
theorem dX7_init_0 : decode cX7_init 0 = .ok (.aload_n 0, 1) := by decide +kernel
theorem dX7_init_1 : decode cX7_init 1 = .ok (.invokespecial 1, 3) := by decide +kernel
theorem dX7_init_4 : decode cX7_init 4 = .ok (.aload_n 0, 1) := by decide +kernel
theorem dX7_init_5 : decode cX7_init 5 = .ok (.iconst 5, 1) := by decide +kernel
theorem dX7_init_6 : decode cX7_init 6 = .ok (.newarray .int, 2) := by decide +kernel
theorem dX7_init_8 : decode cX7_init 8 = .ok (.putfield 7, 3) := by decide +kernel
theorem dX7_init_11 : decode cX7_init 11 = .ok (.aload_n 0, 1) := by decide +kernel
theorem dX7_init_12 : decode cX7_init 12 = .ok (.iconst 5, 1) := by decide +kernel
theorem dX7_init_13 : decode cX7_init 13 = .ok (.newarray .int, 2) := by decide +kernel
theorem dX7_init_15 : decode cX7_init 15 = .ok (.putfield 13, 3) := by decide +kernel
theorem dX7_init_18 : decode cX7_init 18 = .ok (.aload_n 0, 1) := by decide +kernel
theorem dX7_init_19 : decode cX7_init 19 = .ok (.iconst 5, 1) := by decide +kernel
theorem dX7_init_20 : decode cX7_init 20 = .ok (.newarray .int, 2) := by decide +kernel
theorem dX7_init_22 : decode cX7_init 22 = .ok (.putfield 16, 3) := by decide +kernel
theorem dX7_init_25 : decode cX7_init 25 = .ok (.aload_n 0, 1) := by decide +kernel
theorem dX7_init_26 : decode cX7_init 26 = .ok (.bipush 10, 2) := by decide +kernel
theorem dX7_init_28 : decode cX7_init 28 = .ok (.newarray .int, 2) := by decide +kernel
theorem dX7_init_30 : decode cX7_init 30 = .ok (.putfield 19, 3) := by decide +kernel
theorem dX7_init_33 : decode cX7_init 33 = .ok (.aload_n 0, 1) := by decide +kernel
theorem dX7_init_34 : decode cX7_init 34 = .ok (.bipush 10, 2) := by decide +kernel
theorem dX7_init_36 : decode cX7_init 36 = .ok (.newarray .int, 2) := by decide +kernel
theorem dX7_init_38 : decode cX7_init 38 = .ok (.putfield 22, 3) := by decide +kernel
theorem dX7_init_41 : decode cX7_init 41 = .ok (.aload_n 0, 1) := by decide +kernel
theorem dX7_init_42 : decode cX7_init 42 = .ok (.bipush 110, 2) := by decide +kernel
theorem dX7_init_44 : decode cX7_init 44 = .ok (.newarray .long, 2) := by decide +kernel
theorem dX7_init_46 : decode cX7_init 46 = .ok (.putfield 25, 3) := by decide +kernel
theorem dX7_init_49 : decode cX7_init 49 = .ok (.aload_n 0, 1) := by decide +kernel
theorem dX7_init_50 : decode cX7_init 50 = .ok (.bipush 10, 2) := by decide +kernel
theorem dX7_init_52 : decode cX7_init 52 = .ok (.newarray .int, 2) := by decide +kernel
theorem dX7_init_54 : decode cX7_init 54 = .ok (.putfield 29, 3) := by decide +kernel
theorem dX7_init_57 : decode cX7_init 57 = .ok (.aload_n 0, 1) := by decide +kernel
theorem dX7_init_58 : decode cX7_init 58 = .ok (.sipush 1024, 3) := by decide +kernel
theorem dX7_init_61 : decode cX7_init 61 = .ok (.newarray .boolean, 2) := by decide +kernel
theorem dX7_init_63 : decode cX7_init 63 = .ok (.putfield 32, 3) := by decide +kernel
theorem dX7_init_66 : decode cX7_init 66 = .ok (.aload_n 0, 1) := by decide +kernel
theorem dX7_init_67 : decode cX7_init 67 = .ok (.sipush 1024, 3) := by decide +kernel
theorem dX7_init_70 : decode cX7_init 70 = .ok (.newarray .long, 2) := by decide +kernel
theorem dX7_init_72 : decode cX7_init 72 = .ok (.putfield 36, 3) := by decide +kernel
theorem dX7_init_75 : decode cX7_init 75 = .ok (.aload_n 0, 1) := by decide +kernel
theorem dX7_init_76 : decode cX7_init 76 = .ok (.sipush 1024, 3) := by decide +kernel
theorem dX7_init_79 : decode cX7_init 79 = .ok (.newarray .long, 2) := by decide +kernel
theorem dX7_init_81 : decode cX7_init 81 = .ok (.putfield 39, 3) := by decide +kernel
theorem dX7_init_84 : decode cX7_init 84 = .ok (.aload_n 0, 1) := by decide +kernel
theorem dX7_init_85 : decode cX7_init 85 = .ok (.iconst 4, 1) := by decide +kernel
theorem dX7_init_86 : decode cX7_init 86 = .ok (.newarray .int, 2) := by decide +kernel
theorem dX7_init_88 : decode cX7_init 88 = .ok (.putfield 42, 3) := by decide +kernel
theorem dX7_init_91 : decode cX7_init 91 = .ok (.aload_n 0, 1) := by decide +kernel
theorem dX7_init_92 : decode cX7_init 92 = .ok (.iconst 4, 1) := by decide +kernel
theorem dX7_init_93 : decode cX7_init 93 = .ok (.newarray .int, 2) := by decide +kernel
theorem dX7_init_95 : decode cX7_init 95 = .ok (.putfield 45, 3) := by decide +kernel
theorem dX7_init_98 : decode cX7_init 98 = .ok (.aload_n 0, 1) := by decide +kernel
theorem dX7_init_99 : decode cX7_init 99 = .ok (.sipush 160, 3) := by decide +kernel
theorem dX7_init_102 : decode cX7_init 102 = .ok (.newarray .long, 2) := by decide +kernel
theorem dX7_init_104 : decode cX7_init 104 = .ok (.putfield 48, 3) := by decide +kernel
theorem dX7_init_107 : decode cX7_init 107 = .ok (.aload_n 0, 1) := by decide +kernel
theorem dX7_init_108 : decode cX7_init 108 = .ok (.bipush 40, 2) := by decide +kernel
theorem dX7_init_110 : decode cX7_init 110 = .ok (.newarray .long, 2) := by decide +kernel
theorem dX7_init_112 : decode cX7_init 112 = .ok (.putfield 51, 3) := by decide +kernel
theorem dX7_init_115 : decode cX7_init 115 = .ok (.iconst 0, 1) := by decide +kernel
theorem dX7_init_116 : decode cX7_init 116 = .ok (.istore_n 1, 1) := by decide +kernel
theorem dX7_init_117 : decode cX7_init 117 = .ok (.iload_n 1, 1) := by decide +kernel
theorem dX7_init_118 : decode cX7_init 118 = .ok (.iconst 4, 1) := by decide +kernel
theorem dX7_init_119 : decode cX7_init 119 = .ok (.if_icmp .ge 16, 3) := by decide +kernel
theorem dX7_init_122 : decode cX7_init 122 = .ok (.aload_n 0, 1) := by decide +kernel
theorem dX7_init_123 : decode cX7_init 123 = .ok (.getfield 42, 3) := by decide +kernel
theorem dX7_init_126 : decode cX7_init 126 = .ok (.iload_n 1, 1) := by decide +kernel
theorem dX7_init_127 : decode cX7_init 127 = .ok (.iconst (-1), 1) := by decide +kernel
theorem dX7_init_128 : decode cX7_init 128 = .ok (.iastore, 1) := by decide +kernel
theorem dX7_init_129 : decode cX7_init 129 = .ok (.iinc 1 1, 3) := by decide +kernel
theorem dX7_init_132 : decode cX7_init 132 = .ok (.goto (-15), 3) := by decide +kernel
theorem dX7_init_135 : decode cX7_init 135 = .ok (.return_, 1) := by decide +kernel
theorem dX7_in_0 : decode cX7_in 0 = .ok (.iload_n 0, 1) := by decide +kernel
theorem dX7_in_1 : decode cX7_in 1 = .ok (.iload_n 1, 1) := by decide +kernel
theorem dX7_in_2 : decode cX7_in 2 = .ok (.if_icmp .lt 12, 3) := by decide +kernel
theorem dX7_in_5 : decode cX7_in 5 = .ok (.iload_n 0, 1) := by decide +kernel
theorem dX7_in_6 : decode cX7_in 6 = .ok (.iload_n 2, 1) := by decide +kernel
theorem dX7_in_7 : decode cX7_in 7 = .ok (.if_icmp .gt 7, 3) := by decide +kernel
theorem dX7_in_10 : decode cX7_in 10 = .ok (.iconst 1, 1) := by decide +kernel
theorem dX7_in_11 : decode cX7_in 11 = .ok (.goto 4, 3) := by decide +kernel
theorem dX7_in_14 : decode cX7_in 14 = .ok (.iconst 0, 1) := by decide +kernel
theorem dX7_in_15 : decode cX7_in 15 = .ok (.ireturn, 1) := by decide +kernel
theorem dX7_no_0 : decode cX7_no 0 = .ok (.ldc2_w 54, 3) := by decide +kernel
theorem dX7_no_3 : decode cX7_no 3 = .ok (.iload_n 0, 1) := by decide +kernel
theorem dX7_no_4 : decode cX7_no 4 = .ok (.i2l, 1) := by decide +kernel
theorem dX7_no_5 : decode cX7_no 5 = .ok (.lsub, 1) := by decide +kernel
theorem dX7_no_6 : decode cX7_no 6 = .ok (.lreturn, 1) := by decide +kernel
theorem dX7_divisor_0 : decode cX7_divisor 0 = .ok (.lload_n 0, 1) := by decide +kernel
theorem dX7_divisor_1 : decode cX7_divisor 1 = .ok (.lconst 0, 1) := by decide +kernel
theorem dX7_divisor_2 : decode cX7_divisor 2 = .ok (.lcmp, 1) := by decide +kernel
theorem dX7_divisor_3 : decode cX7_divisor 3 = .ok (.ifCond .ge 8, 3) := by decide +kernel
theorem dX7_divisor_6 : decode cX7_divisor 6 = .ok (.lload_n 0, 1) := by decide +kernel
theorem dX7_divisor_7 : decode cX7_divisor 7 = .ok (.lneg, 1) := by decide +kernel
theorem dX7_divisor_8 : decode cX7_divisor 8 = .ok (.goto 4, 3) := by decide +kernel
theorem dX7_divisor_11 : decode cX7_divisor 11 = .ok (.lload_n 0, 1) := by decide +kernel
theorem dX7_divisor_12 : decode cX7_divisor 12 = .ok (.lstore 4, 2) := by decide +kernel
theorem dX7_divisor_14 : decode cX7_divisor 14 = .ok (.lload_n 2, 1) := by decide +kernel
theorem dX7_divisor_15 : decode cX7_divisor 15 = .ok (.lconst 0, 1) := by decide +kernel
theorem dX7_divisor_16 : decode cX7_divisor 16 = .ok (.lcmp, 1) := by decide +kernel
theorem dX7_divisor_17 : decode cX7_divisor 17 = .ok (.ifCond .ge 8, 3) := by decide +kernel
theorem dX7_divisor_20 : decode cX7_divisor 20 = .ok (.lload_n 2, 1) := by decide +kernel
theorem dX7_divisor_21 : decode cX7_divisor 21 = .ok (.lneg, 1) := by decide +kernel
theorem dX7_divisor_22 : decode cX7_divisor 22 = .ok (.goto 4, 3) := by decide +kernel
theorem dX7_divisor_25 : decode cX7_divisor 25 = .ok (.lload_n 2, 1) := by decide +kernel
theorem dX7_divisor_26 : decode cX7_divisor 26 = .ok (.lstore 6, 2) := by decide +kernel
theorem dX7_divisor_28 : decode cX7_divisor 28 = .ok (.lload 6, 2) := by decide +kernel
theorem dX7_divisor_30 : decode cX7_divisor 30 = .ok (.lconst 0, 1) := by decide +kernel
theorem dX7_divisor_31 : decode cX7_divisor 31 = .ok (.lcmp, 1) := by decide +kernel
theorem dX7_divisor_32 : decode cX7_divisor 32 = .ok (.ifCond .eq 21, 3) := by decide +kernel
theorem dX7_divisor_35 : decode cX7_divisor 35 = .ok (.lload 4, 2) := by decide +kernel
theorem dX7_divisor_37 : decode cX7_divisor 37 = .ok (.lload 6, 2) := by decide +kernel
theorem dX7_divisor_39 : decode cX7_divisor 39 = .ok (.lrem, 1) := by decide +kernel
theorem dX7_divisor_40 : decode cX7_divisor 40 = .ok (.lstore 8, 2) := by decide +kernel
theorem dX7_divisor_42 : decode cX7_divisor 42 = .ok (.lload 6, 2) := by decide +kernel
theorem dX7_divisor_44 : decode cX7_divisor 44 = .ok (.lstore 4, 2) := by decide +kernel
theorem dX7_divisor_46 : decode cX7_divisor 46 = .ok (.lload 8, 2) := by decide +kernel
theorem dX7_divisor_48 : decode cX7_divisor 48 = .ok (.lstore 6, 2) := by decide +kernel
theorem dX7_divisor_50 : decode cX7_divisor 50 = .ok (.goto (-22), 3) := by decide +kernel
theorem dX7_divisor_53 : decode cX7_divisor 53 = .ok (.lload 4, 2) := by decide +kernel
theorem dX7_divisor_55 : decode cX7_divisor 55 = .ok (.lreturn, 1) := by decide +kernel
theorem dX7_partOf_0 : decode cX7_partOf 0 = .ok (.lload_n 0, 1) := by decide +kernel
theorem dX7_partOf_1 : decode cX7_partOf 1 = .ok (.lload_n 2, 1) := by decide +kernel
theorem dX7_partOf_2 : decode cX7_partOf 2 = .ok (.invokestatic 56, 3) := by decide +kernel
theorem dX7_partOf_5 : decode cX7_partOf 5 = .ok (.lstore 5, 2) := by decide +kernel
theorem dX7_partOf_7 : decode cX7_partOf 7 = .ok (.lload_n 2, 1) := by decide +kernel
theorem dX7_partOf_8 : decode cX7_partOf 8 = .ok (.lconst 0, 1) := by decide +kernel
theorem dX7_partOf_9 : decode cX7_partOf 9 = .ok (.lcmp, 1) := by decide +kernel
theorem dX7_partOf_10 : decode cX7_partOf 10 = .ok (.ifCond .ge 9, 3) := by decide +kernel
theorem dX7_partOf_13 : decode cX7_partOf 13 = .ok (.lload 5, 2) := by decide +kernel
theorem dX7_partOf_15 : decode cX7_partOf 15 = .ok (.lneg, 1) := by decide +kernel
theorem dX7_partOf_16 : decode cX7_partOf 16 = .ok (.goto 5, 3) := by decide +kernel
theorem dX7_partOf_19 : decode cX7_partOf 19 = .ok (.lload 5, 2) := by decide +kernel
theorem dX7_partOf_21 : decode cX7_partOf 21 = .ok (.lstore 5, 2) := by decide +kernel
theorem dX7_partOf_23 : decode cX7_partOf 23 = .ok (.iload 4, 2) := by decide +kernel
theorem dX7_partOf_25 : decode cX7_partOf 25 = .ok (.ifCond .ne 10, 3) := by decide +kernel
theorem dX7_partOf_28 : decode cX7_partOf 28 = .ok (.lload_n 0, 1) := by decide +kernel
theorem dX7_partOf_29 : decode cX7_partOf 29 = .ok (.lload 5, 2) := by decide +kernel
theorem dX7_partOf_31 : decode cX7_partOf 31 = .ok (.ldiv, 1) := by decide +kernel
theorem dX7_partOf_32 : decode cX7_partOf 32 = .ok (.goto 7, 3) := by decide +kernel
theorem dX7_partOf_35 : decode cX7_partOf 35 = .ok (.lload_n 2, 1) := by decide +kernel
theorem dX7_partOf_36 : decode cX7_partOf 36 = .ok (.lload 5, 2) := by decide +kernel
theorem dX7_partOf_38 : decode cX7_partOf 38 = .ok (.ldiv, 1) := by decide +kernel
theorem dX7_partOf_39 : decode cX7_partOf 39 = .ok (.lreturn, 1) := by decide +kernel
theorem dX7_isPoint_0 : decode cX7_isPoint 0 = .ok (.iload_n 1, 1) := by decide +kernel
theorem dX7_isPoint_1 : decode cX7_isPoint 1 = .ok (.iconst 0, 1) := by decide +kernel
theorem dX7_isPoint_2 : decode cX7_isPoint 2 = .ok (.aload_n 0, 1) := by decide +kernel
theorem dX7_isPoint_3 : decode cX7_isPoint 3 = .ok (.getfield 60, 3) := by decide +kernel
theorem dX7_isPoint_6 : decode cX7_isPoint 6 = .ok (.iconst 1, 1) := by decide +kernel
theorem dX7_isPoint_7 : decode cX7_isPoint 7 = .ok (.isub, 1) := by decide +kernel
theorem dX7_isPoint_8 : decode cX7_isPoint 8 = .ok (.invokestatic 64, 3) := by decide +kernel
theorem dX7_isPoint_11 : decode cX7_isPoint 11 = .ok (.ireturn, 1) := by decide +kernel
theorem dX7_pairs_0 : decode cX7_pairs 0 = .ok (.aload_n 0, 1) := by decide +kernel
theorem dX7_pairs_1 : decode cX7_pairs 1 = .ok (.getfield 60, 3) := by decide +kernel
theorem dX7_pairs_4 : decode cX7_pairs 4 = .ok (.aload_n 0, 1) := by decide +kernel
theorem dX7_pairs_5 : decode cX7_pairs 5 = .ok (.getfield 60, 3) := by decide +kernel
theorem dX7_pairs_8 : decode cX7_pairs 8 = .ok (.iconst 1, 1) := by decide +kernel
theorem dX7_pairs_9 : decode cX7_pairs 9 = .ok (.isub, 1) := by decide +kernel
theorem dX7_pairs_10 : decode cX7_pairs 10 = .ok (.imul, 1) := by decide +kernel
theorem dX7_pairs_11 : decode cX7_pairs 11 = .ok (.iconst 2, 1) := by decide +kernel
theorem dX7_pairs_12 : decode cX7_pairs 12 = .ok (.idiv, 1) := by decide +kernel
theorem dX7_pairs_13 : decode cX7_pairs 13 = .ok (.ireturn, 1) := by decide +kernel
theorem dX7_isPair_0 : decode cX7_isPair 0 = .ok (.iload_n 1, 1) := by decide +kernel
theorem dX7_isPair_1 : decode cX7_isPair 1 = .ok (.iconst 0, 1) := by decide +kernel
theorem dX7_isPair_2 : decode cX7_isPair 2 = .ok (.aload_n 0, 1) := by decide +kernel
theorem dX7_isPair_3 : decode cX7_isPair 3 = .ok (.invokevirtual 68, 3) := by decide +kernel
theorem dX7_isPair_6 : decode cX7_isPair 6 = .ok (.iconst 1, 1) := by decide +kernel
theorem dX7_isPair_7 : decode cX7_isPair 7 = .ok (.isub, 1) := by decide +kernel
theorem dX7_isPair_8 : decode cX7_isPair 8 = .ok (.invokestatic 64, 3) := by decide +kernel
theorem dX7_isPair_11 : decode cX7_isPair 11 = .ok (.ireturn, 1) := by decide +kernel
theorem dX7_isBar_0 : decode cX7_isBar 0 = .ok (.aload_n 0, 1) := by decide +kernel
theorem dX7_isBar_1 : decode cX7_isBar 1 = .ok (.iload_n 1, 1) := by decide +kernel
theorem dX7_isBar_2 : decode cX7_isBar 2 = .ok (.invokevirtual 72, 3) := by decide +kernel
theorem dX7_isBar_5 : decode cX7_isBar 5 = .ok (.ifCond .eq 19, 3) := by decide +kernel
theorem dX7_isBar_8 : decode cX7_isBar 8 = .ok (.aload_n 0, 1) := by decide +kernel
theorem dX7_isBar_9 : decode cX7_isBar 9 = .ok (.getfield 76, 3) := by decide +kernel
theorem dX7_isBar_12 : decode cX7_isBar 12 = .ok (.iload_n 1, 1) := by decide +kernel
theorem dX7_isBar_13 : decode cX7_isBar 13 = .ok (.ishr, 1) := by decide +kernel
theorem dX7_isBar_14 : decode cX7_isBar 14 = .ok (.iconst 1, 1) := by decide +kernel
theorem dX7_isBar_15 : decode cX7_isBar 15 = .ok (.iand, 1) := by decide +kernel
theorem dX7_isBar_16 : decode cX7_isBar 16 = .ok (.iconst 1, 1) := by decide +kernel
theorem dX7_isBar_17 : decode cX7_isBar 17 = .ok (.if_icmp .ne 7, 3) := by decide +kernel
theorem dX7_isBar_20 : decode cX7_isBar 20 = .ok (.iconst 1, 1) := by decide +kernel
theorem dX7_isBar_21 : decode cX7_isBar 21 = .ok (.goto 4, 3) := by decide +kernel
theorem dX7_isBar_24 : decode cX7_isBar 24 = .ok (.iconst 0, 1) := by decide +kernel
theorem dX7_isBar_25 : decode cX7_isBar 25 = .ok (.ireturn, 1) := by decide +kernel
theorem dX7_greater_0 : decode cX7_greater 0 = .ok (.iconst 1, 1) := by decide +kernel
theorem dX7_greater_1 : decode cX7_greater 1 = .ok (.istore_n 1, 1) := by decide +kernel
theorem dX7_greater_2 : decode cX7_greater 2 = .ok (.iload_n 1, 1) := by decide +kernel
theorem dX7_greater_3 : decode cX7_greater 3 = .ok (.iconst 1, 1) := by decide +kernel
theorem dX7_greater_4 : decode cX7_greater 4 = .ok (.iadd, 1) := by decide +kernel
theorem dX7_greater_5 : decode cX7_greater 5 = .ok (.iload_n 1, 1) := by decide +kernel
theorem dX7_greater_6 : decode cX7_greater 6 = .ok (.imul, 1) := by decide +kernel
theorem dX7_greater_7 : decode cX7_greater 7 = .ok (.iconst 2, 1) := by decide +kernel
theorem dX7_greater_8 : decode cX7_greater 8 = .ok (.idiv, 1) := by decide +kernel
theorem dX7_greater_9 : decode cX7_greater 9 = .ok (.iload_n 0, 1) := by decide +kernel
theorem dX7_greater_10 : decode cX7_greater 10 = .ok (.if_icmp .gt 9, 3) := by decide +kernel
theorem dX7_greater_13 : decode cX7_greater 13 = .ok (.iinc 1 1, 3) := by decide +kernel
theorem dX7_greater_16 : decode cX7_greater 16 = .ok (.goto (-14), 3) := by decide +kernel
theorem dX7_greater_19 : decode cX7_greater 19 = .ok (.iload_n 1, 1) := by decide +kernel
theorem dX7_greater_20 : decode cX7_greater 20 = .ok (.ireturn, 1) := by decide +kernel
theorem dX7_lesser_0 : decode cX7_lesser 0 = .ok (.iload_n 0, 1) := by decide +kernel
theorem dX7_lesser_1 : decode cX7_lesser 1 = .ok (.invokestatic 79, 3) := by decide +kernel
theorem dX7_lesser_4 : decode cX7_lesser 4 = .ok (.istore_n 1, 1) := by decide +kernel
theorem dX7_lesser_5 : decode cX7_lesser 5 = .ok (.iload_n 0, 1) := by decide +kernel
theorem dX7_lesser_6 : decode cX7_lesser 6 = .ok (.iload_n 1, 1) := by decide +kernel
theorem dX7_lesser_7 : decode cX7_lesser 7 = .ok (.iload_n 1, 1) := by decide +kernel
theorem dX7_lesser_8 : decode cX7_lesser 8 = .ok (.iconst 1, 1) := by decide +kernel
theorem dX7_lesser_9 : decode cX7_lesser 9 = .ok (.isub, 1) := by decide +kernel
theorem dX7_lesser_10 : decode cX7_lesser 10 = .ok (.imul, 1) := by decide +kernel
theorem dX7_lesser_11 : decode cX7_lesser 11 = .ok (.iconst 2, 1) := by decide +kernel
theorem dX7_lesser_12 : decode cX7_lesser 12 = .ok (.idiv, 1) := by decide +kernel
theorem dX7_lesser_13 : decode cX7_lesser 13 = .ok (.isub, 1) := by decide +kernel
theorem dX7_lesser_14 : decode cX7_lesser 14 = .ok (.ireturn, 1) := by decide +kernel
theorem dX7_far_0 : decode cX7_far 0 = .ok (.iload_n 1, 1) := by decide +kernel
theorem dX7_far_1 : decode cX7_far 1 = .ok (.invokestatic 83, 3) := by decide +kernel
theorem dX7_far_4 : decode cX7_far 4 = .ok (.istore_n 3, 1) := by decide +kernel
theorem dX7_far_5 : decode cX7_far 5 = .ok (.iload_n 1, 1) := by decide +kernel
theorem dX7_far_6 : decode cX7_far 6 = .ok (.invokestatic 79, 3) := by decide +kernel
theorem dX7_far_9 : decode cX7_far 9 = .ok (.istore 4, 2) := by decide +kernel
theorem dX7_far_11 : decode cX7_far 11 = .ok (.iload_n 2, 1) := by decide +kernel
theorem dX7_far_12 : decode cX7_far 12 = .ok (.ifCond .ne 20, 3) := by decide +kernel
theorem dX7_far_15 : decode cX7_far 15 = .ok (.aload_n 0, 1) := by decide +kernel
theorem dX7_far_16 : decode cX7_far 16 = .ok (.getfield 7, 3) := by decide +kernel
theorem dX7_far_19 : decode cX7_far 19 = .ok (.iload 4, 2) := by decide +kernel
theorem dX7_far_21 : decode cX7_far 21 = .ok (.iaload, 1) := by decide +kernel
theorem dX7_far_22 : decode cX7_far 22 = .ok (.aload_n 0, 1) := by decide +kernel
theorem dX7_far_23 : decode cX7_far 23 = .ok (.getfield 7, 3) := by decide +kernel
theorem dX7_far_26 : decode cX7_far 26 = .ok (.iload_n 3, 1) := by decide +kernel
theorem dX7_far_27 : decode cX7_far 27 = .ok (.iaload, 1) := by decide +kernel
theorem dX7_far_28 : decode cX7_far 28 = .ok (.isub, 1) := by decide +kernel
theorem dX7_far_29 : decode cX7_far 29 = .ok (.goto 17, 3) := by decide +kernel
theorem dX7_far_32 : decode cX7_far 32 = .ok (.aload_n 0, 1) := by decide +kernel
theorem dX7_far_33 : decode cX7_far 33 = .ok (.getfield 13, 3) := by decide +kernel
theorem dX7_far_36 : decode cX7_far 36 = .ok (.iload 4, 2) := by decide +kernel
theorem dX7_far_38 : decode cX7_far 38 = .ok (.iaload, 1) := by decide +kernel
theorem dX7_far_39 : decode cX7_far 39 = .ok (.aload_n 0, 1) := by decide +kernel
theorem dX7_far_40 : decode cX7_far 40 = .ok (.getfield 13, 3) := by decide +kernel
theorem dX7_far_43 : decode cX7_far 43 = .ok (.iload_n 3, 1) := by decide +kernel
theorem dX7_far_44 : decode cX7_far 44 = .ok (.iaload, 1) := by decide +kernel
theorem dX7_far_45 : decode cX7_far 45 = .ok (.isub, 1) := by decide +kernel
theorem dX7_far_46 : decode cX7_far 46 = .ok (.ireturn, 1) := by decide +kernel
theorem dX7_quad_0 : decode cX7_quad 0 = .ok (.aload_n 0, 1) := by decide +kernel
theorem dX7_quad_1 : decode cX7_quad 1 = .ok (.iload_n 1, 1) := by decide +kernel
theorem dX7_quad_2 : decode cX7_quad 2 = .ok (.iconst 0, 1) := by decide +kernel
theorem dX7_quad_3 : decode cX7_quad 3 = .ok (.invokevirtual 86, 3) := by decide +kernel
theorem dX7_quad_6 : decode cX7_quad 6 = .ok (.aload_n 0, 1) := by decide +kernel
theorem dX7_quad_7 : decode cX7_quad 7 = .ok (.iload_n 1, 1) := by decide +kernel
theorem dX7_quad_8 : decode cX7_quad 8 = .ok (.iconst 0, 1) := by decide +kernel
theorem dX7_quad_9 : decode cX7_quad 9 = .ok (.invokevirtual 86, 3) := by decide +kernel
theorem dX7_quad_12 : decode cX7_quad 12 = .ok (.imul, 1) := by decide +kernel
theorem dX7_quad_13 : decode cX7_quad 13 = .ok (.aload_n 0, 1) := by decide +kernel
theorem dX7_quad_14 : decode cX7_quad 14 = .ok (.iload_n 1, 1) := by decide +kernel
theorem dX7_quad_15 : decode cX7_quad 15 = .ok (.iconst 1, 1) := by decide +kernel
theorem dX7_quad_16 : decode cX7_quad 16 = .ok (.invokevirtual 86, 3) := by decide +kernel
theorem dX7_quad_19 : decode cX7_quad 19 = .ok (.aload_n 0, 1) := by decide +kernel
theorem dX7_quad_20 : decode cX7_quad 20 = .ok (.iload_n 1, 1) := by decide +kernel
theorem dX7_quad_21 : decode cX7_quad 21 = .ok (.iconst 1, 1) := by decide +kernel
theorem dX7_quad_22 : decode cX7_quad 22 = .ok (.invokevirtual 86, 3) := by decide +kernel
theorem dX7_quad_25 : decode cX7_quad 25 = .ok (.imul, 1) := by decide +kernel
theorem dX7_quad_26 : decode cX7_quad 26 = .ok (.iadd, 1) := by decide +kernel
theorem dX7_quad_27 : decode cX7_quad 27 = .ok (.ireturn, 1) := by decide +kernel
theorem dX7_point_0 : decode cX7_point 0 = .ok (.iload_n 1, 1) := by decide +kernel
theorem dX7_point_1 : decode cX7_point 1 = .ok (.iconst 0, 1) := by decide +kernel
theorem dX7_point_2 : decode cX7_point 2 = .ok (.iconst 4, 1) := by decide +kernel
theorem dX7_point_3 : decode cX7_point 3 = .ok (.invokestatic 64, 3) := by decide +kernel
theorem dX7_point_6 : decode cX7_point 6 = .ok (.ifCond .eq 12, 3) := by decide +kernel
theorem dX7_point_9 : decode cX7_point 9 = .ok (.iload_n 2, 1) := by decide +kernel
theorem dX7_point_10 : decode cX7_point 10 = .ok (.iconst 0, 1) := by decide +kernel
theorem dX7_point_11 : decode cX7_point 11 = .ok (.iconst 4, 1) := by decide +kernel
theorem dX7_point_12 : decode cX7_point 12 = .ok (.invokestatic 64, 3) := by decide +kernel
theorem dX7_point_15 : decode cX7_point 15 = .ok (.ifCond .ne 6, 3) := by decide +kernel
theorem dX7_point_18 : decode cX7_point 18 = .ok (.bipush (-2), 2) := by decide +kernel
theorem dX7_point_20 : decode cX7_point 20 = .ok (.ireturn, 1) := by decide +kernel
theorem dX7_point_21 : decode cX7_point 21 = .ok (.iconst 0, 1) := by decide +kernel
theorem dX7_point_22 : decode cX7_point 22 = .ok (.istore_n 3, 1) := by decide +kernel
theorem dX7_point_23 : decode cX7_point 23 = .ok (.iload_n 3, 1) := by decide +kernel
theorem dX7_point_24 : decode cX7_point 24 = .ok (.aload_n 0, 1) := by decide +kernel
theorem dX7_point_25 : decode cX7_point 25 = .ok (.getfield 60, 3) := by decide +kernel
theorem dX7_point_28 : decode cX7_point 28 = .ok (.if_icmp .ge 32, 3) := by decide +kernel
theorem dX7_point_31 : decode cX7_point 31 = .ok (.aload_n 0, 1) := by decide +kernel
theorem dX7_point_32 : decode cX7_point 32 = .ok (.getfield 7, 3) := by decide +kernel
theorem dX7_point_35 : decode cX7_point 35 = .ok (.iload_n 3, 1) := by decide +kernel
theorem dX7_point_36 : decode cX7_point 36 = .ok (.iaload, 1) := by decide +kernel
theorem dX7_point_37 : decode cX7_point 37 = .ok (.iload_n 1, 1) := by decide +kernel
theorem dX7_point_38 : decode cX7_point 38 = .ok (.if_icmp .ne 16, 3) := by decide +kernel
theorem dX7_point_41 : decode cX7_point 41 = .ok (.aload_n 0, 1) := by decide +kernel
theorem dX7_point_42 : decode cX7_point 42 = .ok (.getfield 13, 3) := by decide +kernel
theorem dX7_point_45 : decode cX7_point 45 = .ok (.iload_n 3, 1) := by decide +kernel
theorem dX7_point_46 : decode cX7_point 46 = .ok (.iaload, 1) := by decide +kernel
theorem dX7_point_47 : decode cX7_point 47 = .ok (.iload_n 2, 1) := by decide +kernel
theorem dX7_point_48 : decode cX7_point 48 = .ok (.if_icmp .ne 6, 3) := by decide +kernel
theorem dX7_point_51 : decode cX7_point 51 = .ok (.bipush (-3), 2) := by decide +kernel
theorem dX7_point_53 : decode cX7_point 53 = .ok (.ireturn, 1) := by decide +kernel
theorem dX7_point_54 : decode cX7_point 54 = .ok (.iinc 3 1, 3) := by decide +kernel
theorem dX7_point_57 : decode cX7_point 57 = .ok (.goto (-34), 3) := by decide +kernel
theorem dX7_point_60 : decode cX7_point 60 = .ok (.aload_n 0, 1) := by decide +kernel
theorem dX7_point_61 : decode cX7_point 61 = .ok (.getfield 60, 3) := by decide +kernel
theorem dX7_point_64 : decode cX7_point 64 = .ok (.iconst 5, 1) := by decide +kernel
theorem dX7_point_65 : decode cX7_point 65 = .ok (.if_icmp .ne 6, 3) := by decide +kernel
theorem dX7_point_68 : decode cX7_point 68 = .ok (.bipush (-4), 2) := by decide +kernel
theorem dX7_point_70 : decode cX7_point 70 = .ok (.ireturn, 1) := by decide +kernel
theorem dX7_point_71 : decode cX7_point 71 = .ok (.aload_n 0, 1) := by decide +kernel
theorem dX7_point_72 : decode cX7_point 72 = .ok (.getfield 7, 3) := by decide +kernel
theorem dX7_point_75 : decode cX7_point 75 = .ok (.aload_n 0, 1) := by decide +kernel
theorem dX7_point_76 : decode cX7_point 76 = .ok (.getfield 60, 3) := by decide +kernel
theorem dX7_point_79 : decode cX7_point 79 = .ok (.iload_n 1, 1) := by decide +kernel
theorem dX7_point_80 : decode cX7_point 80 = .ok (.iastore, 1) := by decide +kernel
theorem dX7_point_81 : decode cX7_point 81 = .ok (.aload_n 0, 1) := by decide +kernel
theorem dX7_point_82 : decode cX7_point 82 = .ok (.getfield 13, 3) := by decide +kernel
theorem dX7_point_85 : decode cX7_point 85 = .ok (.aload_n 0, 1) := by decide +kernel
theorem dX7_point_86 : decode cX7_point 86 = .ok (.getfield 60, 3) := by decide +kernel
theorem dX7_point_89 : decode cX7_point 89 = .ok (.iload_n 2, 1) := by decide +kernel
theorem dX7_point_90 : decode cX7_point 90 = .ok (.iastore, 1) := by decide +kernel
theorem dX7_point_91 : decode cX7_point 91 = .ok (.aload_n 0, 1) := by decide +kernel
theorem dX7_point_92 : decode cX7_point 92 = .ok (.getfield 16, 3) := by decide +kernel
theorem dX7_point_95 : decode cX7_point 95 = .ok (.aload_n 0, 1) := by decide +kernel
theorem dX7_point_96 : decode cX7_point 96 = .ok (.getfield 60, 3) := by decide +kernel
theorem dX7_point_99 : decode cX7_point 99 = .ok (.iconst 0, 1) := by decide +kernel
theorem dX7_point_100 : decode cX7_point 100 = .ok (.iastore, 1) := by decide +kernel
theorem dX7_point_101 : decode cX7_point 101 = .ok (.iconst 2, 1) := by decide +kernel
theorem dX7_point_102 : decode cX7_point 102 = .ok (.aload_n 0, 1) := by decide +kernel
theorem dX7_point_103 : decode cX7_point 103 = .ok (.getfield 60, 3) := by decide +kernel
theorem dX7_point_106 : decode cX7_point 106 = .ok (.imul, 1) := by decide +kernel
theorem dX7_point_107 : decode cX7_point 107 = .ok (.istore_n 3, 1) := by decide +kernel
theorem dX7_point_108 : decode cX7_point 108 = .ok (.iload_n 3, 1) := by decide +kernel
theorem dX7_point_109 : decode cX7_point 109 = .ok (.iconst 2, 1) := by decide +kernel
theorem dX7_point_110 : decode cX7_point 110 = .ok (.aload_n 0, 1) := by decide +kernel
theorem dX7_point_111 : decode cX7_point 111 = .ok (.getfield 60, 3) := by decide +kernel
theorem dX7_point_114 : decode cX7_point 114 = .ok (.imul, 1) := by decide +kernel
theorem dX7_point_115 : decode cX7_point 115 = .ok (.iconst 2, 1) := by decide +kernel
theorem dX7_point_116 : decode cX7_point 116 = .ok (.iadd, 1) := by decide +kernel
theorem dX7_point_117 : decode cX7_point 117 = .ok (.if_icmp .ge 23, 3) := by decide +kernel
theorem dX7_point_120 : decode cX7_point 120 = .ok (.aload_n 0, 1) := by decide +kernel
theorem dX7_point_121 : decode cX7_point 121 = .ok (.getfield 19, 3) := by decide +kernel
theorem dX7_point_124 : decode cX7_point 124 = .ok (.iload_n 3, 1) := by decide +kernel
theorem dX7_point_125 : decode cX7_point 125 = .ok (.iconst 0, 1) := by decide +kernel
theorem dX7_point_126 : decode cX7_point 126 = .ok (.iastore, 1) := by decide +kernel
theorem dX7_point_127 : decode cX7_point 127 = .ok (.aload_n 0, 1) := by decide +kernel
theorem dX7_point_128 : decode cX7_point 128 = .ok (.getfield 22, 3) := by decide +kernel
theorem dX7_point_131 : decode cX7_point 131 = .ok (.iload_n 3, 1) := by decide +kernel
theorem dX7_point_132 : decode cX7_point 132 = .ok (.iconst 0, 1) := by decide +kernel
theorem dX7_point_133 : decode cX7_point 133 = .ok (.iastore, 1) := by decide +kernel
theorem dX7_point_134 : decode cX7_point 134 = .ok (.iinc 3 1, 3) := by decide +kernel
theorem dX7_point_137 : decode cX7_point 137 = .ok (.goto (-29), 3) := by decide +kernel
theorem dX7_point_140 : decode cX7_point 140 = .ok (.aload_n 0, 1) := by decide +kernel
theorem dX7_point_141 : decode cX7_point 141 = .ok (.dup, 1) := by decide +kernel
theorem dX7_point_142 : decode cX7_point 142 = .ok (.getfield 60, 3) := by decide +kernel
theorem dX7_point_145 : decode cX7_point 145 = .ok (.iconst 1, 1) := by decide +kernel
theorem dX7_point_146 : decode cX7_point 146 = .ok (.iadd, 1) := by decide +kernel
theorem dX7_point_147 : decode cX7_point 147 = .ok (.putfield 60, 3) := by decide +kernel
theorem dX7_point_150 : decode cX7_point 150 = .ok (.aload_n 0, 1) := by decide +kernel
theorem dX7_point_151 : decode cX7_point 151 = .ok (.iconst 0, 1) := by decide +kernel
theorem dX7_point_152 : decode cX7_point 152 = .ok (.putfield 90, 3) := by decide +kernel
theorem dX7_point_155 : decode cX7_point 155 = .ok (.aload_n 0, 1) := by decide +kernel
theorem dX7_point_156 : decode cX7_point 156 = .ok (.getfield 60, 3) := by decide +kernel
theorem dX7_point_159 : decode cX7_point 159 = .ok (.iconst 1, 1) := by decide +kernel
theorem dX7_point_160 : decode cX7_point 160 = .ok (.isub, 1) := by decide +kernel
theorem dX7_point_161 : decode cX7_point 161 = .ok (.ireturn, 1) := by decide +kernel
theorem dX7_back_0 : decode cX7_back 0 = .ok (.aload_n 0, 1) := by decide +kernel
theorem dX7_back_1 : decode cX7_back 1 = .ok (.getfield 60, 3) := by decide +kernel
theorem dX7_back_4 : decode cX7_back 4 = .ok (.ifCond .ne 6, 3) := by decide +kernel
theorem dX7_back_7 : decode cX7_back 7 = .ok (.bipush (-3), 2) := by decide +kernel
theorem dX7_back_9 : decode cX7_back 9 = .ok (.ireturn, 1) := by decide +kernel
theorem dX7_back_10 : decode cX7_back 10 = .ok (.aload_n 0, 1) := by decide +kernel
theorem dX7_back_11 : decode cX7_back 11 = .ok (.dup, 1) := by decide +kernel
theorem dX7_back_12 : decode cX7_back 12 = .ok (.getfield 60, 3) := by decide +kernel
theorem dX7_back_15 : decode cX7_back 15 = .ok (.iconst 1, 1) := by decide +kernel
theorem dX7_back_16 : decode cX7_back 16 = .ok (.isub, 1) := by decide +kernel
theorem dX7_back_17 : decode cX7_back 17 = .ok (.putfield 60, 3) := by decide +kernel
theorem dX7_back_20 : decode cX7_back 20 = .ok (.aload_n 0, 1) := by decide +kernel
theorem dX7_back_21 : decode cX7_back 21 = .ok (.dup, 1) := by decide +kernel
theorem dX7_back_22 : decode cX7_back 22 = .ok (.getfield 76, 3) := by decide +kernel
theorem dX7_back_25 : decode cX7_back 25 = .ok (.iconst 1, 1) := by decide +kernel
theorem dX7_back_26 : decode cX7_back 26 = .ok (.aload_n 0, 1) := by decide +kernel
theorem dX7_back_27 : decode cX7_back 27 = .ok (.invokevirtual 68, 3) := by decide +kernel
theorem dX7_back_30 : decode cX7_back 30 = .ok (.ishl, 1) := by decide +kernel
theorem dX7_back_31 : decode cX7_back 31 = .ok (.iconst 1, 1) := by decide +kernel
theorem dX7_back_32 : decode cX7_back 32 = .ok (.isub, 1) := by decide +kernel
theorem dX7_back_33 : decode cX7_back 33 = .ok (.iand, 1) := by decide +kernel
theorem dX7_back_34 : decode cX7_back 34 = .ok (.putfield 76, 3) := by decide +kernel
theorem dX7_back_37 : decode cX7_back 37 = .ok (.aload_n 0, 1) := by decide +kernel
theorem dX7_back_38 : decode cX7_back 38 = .ok (.iconst 0, 1) := by decide +kernel
theorem dX7_back_39 : decode cX7_back 39 = .ok (.putfield 90, 3) := by decide +kernel
theorem dX7_back_42 : decode cX7_back 42 = .ok (.aload_n 0, 1) := by decide +kernel
theorem dX7_back_43 : decode cX7_back 43 = .ok (.getfield 60, 3) := by decide +kernel
theorem dX7_back_46 : decode cX7_back 46 = .ok (.ireturn, 1) := by decide +kernel
theorem dX7_hold_0 : decode cX7_hold 0 = .ok (.aload_n 0, 1) := by decide +kernel
theorem dX7_hold_1 : decode cX7_hold 1 = .ok (.iload_n 1, 1) := by decide +kernel
theorem dX7_hold_2 : decode cX7_hold 2 = .ok (.invokevirtual 94, 3) := by decide +kernel
theorem dX7_hold_5 : decode cX7_hold 5 = .ok (.ifCond .eq 12, 3) := by decide +kernel
theorem dX7_hold_8 : decode cX7_hold 8 = .ok (.iload_n 2, 1) := by decide +kernel
theorem dX7_hold_9 : decode cX7_hold 9 = .ok (.iconst 0, 1) := by decide +kernel
theorem dX7_hold_10 : decode cX7_hold 10 = .ok (.iconst 3, 1) := by decide +kernel
theorem dX7_hold_11 : decode cX7_hold 11 = .ok (.invokestatic 64, 3) := by decide +kernel
theorem dX7_hold_14 : decode cX7_hold 14 = .ok (.ifCond .ne 6, 3) := by decide +kernel
theorem dX7_hold_17 : decode cX7_hold 17 = .ok (.bipush (-2), 2) := by decide +kernel
theorem dX7_hold_19 : decode cX7_hold 19 = .ok (.ireturn, 1) := by decide +kernel
theorem dX7_hold_20 : decode cX7_hold 20 = .ok (.aload_n 0, 1) := by decide +kernel
theorem dX7_hold_21 : decode cX7_hold 21 = .ok (.getfield 16, 3) := by decide +kernel
theorem dX7_hold_24 : decode cX7_hold 24 = .ok (.iload_n 1, 1) := by decide +kernel
theorem dX7_hold_25 : decode cX7_hold 25 = .ok (.iaload, 1) := by decide +kernel
theorem dX7_hold_26 : decode cX7_hold 26 = .ok (.istore_n 3, 1) := by decide +kernel
theorem dX7_hold_27 : decode cX7_hold 27 = .ok (.aload_n 0, 1) := by decide +kernel
theorem dX7_hold_28 : decode cX7_hold 28 = .ok (.getfield 16, 3) := by decide +kernel
theorem dX7_hold_31 : decode cX7_hold 31 = .ok (.iload_n 1, 1) := by decide +kernel
theorem dX7_hold_32 : decode cX7_hold 32 = .ok (.iload_n 2, 1) := by decide +kernel
theorem dX7_hold_33 : decode cX7_hold 33 = .ok (.iastore, 1) := by decide +kernel
theorem dX7_hold_34 : decode cX7_hold 34 = .ok (.aload_n 0, 1) := by decide +kernel
theorem dX7_hold_35 : decode cX7_hold 35 = .ok (.iconst 0, 1) := by decide +kernel
theorem dX7_hold_36 : decode cX7_hold 36 = .ok (.putfield 90, 3) := by decide +kernel
theorem dX7_hold_39 : decode cX7_hold 39 = .ok (.iload_n 3, 1) := by decide +kernel
theorem dX7_hold_40 : decode cX7_hold 40 = .ok (.ireturn, 1) := by decide +kernel
theorem dX7_load_0 : decode cX7_load 0 = .ok (.aload_n 0, 1) := by decide +kernel
theorem dX7_load_1 : decode cX7_load 1 = .ok (.iload_n 1, 1) := by decide +kernel
theorem dX7_load_2 : decode cX7_load 2 = .ok (.invokevirtual 94, 3) := by decide +kernel
theorem dX7_load_5 : decode cX7_load 5 = .ok (.ifCond .eq 23, 3) := by decide +kernel
theorem dX7_load_8 : decode cX7_load 8 = .ok (.iload_n 2, 1) := by decide +kernel
theorem dX7_load_9 : decode cX7_load 9 = .ok (.iconst 0, 1) := by decide +kernel
theorem dX7_load_10 : decode cX7_load 10 = .ok (.iconst 1, 1) := by decide +kernel
theorem dX7_load_11 : decode cX7_load 11 = .ok (.invokestatic 64, 3) := by decide +kernel
theorem dX7_load_14 : decode cX7_load 14 = .ok (.ifCond .eq 14, 3) := by decide +kernel
theorem dX7_load_17 : decode cX7_load 17 = .ok (.iload_n 3, 1) := by decide +kernel
theorem dX7_load_18 : decode cX7_load 18 = .ok (.bipush (-9), 2) := by decide +kernel
theorem dX7_load_20 : decode cX7_load 20 = .ok (.bipush 9, 2) := by decide +kernel
theorem dX7_load_22 : decode cX7_load 22 = .ok (.invokestatic 64, 3) := by decide +kernel
theorem dX7_load_25 : decode cX7_load 25 = .ok (.ifCond .ne 6, 3) := by decide +kernel
theorem dX7_load_28 : decode cX7_load 28 = .ok (.ldc 97, 2) := by decide +kernel
theorem dX7_load_30 : decode cX7_load 30 = .ok (.ireturn, 1) := by decide +kernel
theorem dX7_load_31 : decode cX7_load 31 = .ok (.aload_n 0, 1) := by decide +kernel
theorem dX7_load_32 : decode cX7_load 32 = .ok (.getfield 19, 3) := by decide +kernel
theorem dX7_load_35 : decode cX7_load 35 = .ok (.iconst 2, 1) := by decide +kernel
theorem dX7_load_36 : decode cX7_load 36 = .ok (.iload_n 1, 1) := by decide +kernel
theorem dX7_load_37 : decode cX7_load 37 = .ok (.imul, 1) := by decide +kernel
theorem dX7_load_38 : decode cX7_load 38 = .ok (.iload_n 2, 1) := by decide +kernel
theorem dX7_load_39 : decode cX7_load 39 = .ok (.iadd, 1) := by decide +kernel
theorem dX7_load_40 : decode cX7_load 40 = .ok (.iaload, 1) := by decide +kernel
theorem dX7_load_41 : decode cX7_load 41 = .ok (.istore 4, 2) := by decide +kernel
theorem dX7_load_43 : decode cX7_load 43 = .ok (.aload_n 0, 1) := by decide +kernel
theorem dX7_load_44 : decode cX7_load 44 = .ok (.getfield 19, 3) := by decide +kernel
theorem dX7_load_47 : decode cX7_load 47 = .ok (.iconst 2, 1) := by decide +kernel
theorem dX7_load_48 : decode cX7_load 48 = .ok (.iload_n 1, 1) := by decide +kernel
theorem dX7_load_49 : decode cX7_load 49 = .ok (.imul, 1) := by decide +kernel
theorem dX7_load_50 : decode cX7_load 50 = .ok (.iload_n 2, 1) := by decide +kernel
theorem dX7_load_51 : decode cX7_load 51 = .ok (.iadd, 1) := by decide +kernel
theorem dX7_load_52 : decode cX7_load 52 = .ok (.iload_n 3, 1) := by decide +kernel
theorem dX7_load_53 : decode cX7_load 53 = .ok (.iastore, 1) := by decide +kernel
theorem dX7_load_54 : decode cX7_load 54 = .ok (.aload_n 0, 1) := by decide +kernel
theorem dX7_load_55 : decode cX7_load 55 = .ok (.iconst 0, 1) := by decide +kernel
theorem dX7_load_56 : decode cX7_load 56 = .ok (.putfield 90, 3) := by decide +kernel
theorem dX7_load_59 : decode cX7_load 59 = .ok (.iload 4, 2) := by decide +kernel
theorem dX7_load_61 : decode cX7_load 61 = .ok (.ireturn, 1) := by decide +kernel
theorem dX7_bar_0 : decode cX7_bar 0 = .ok (.aload_n 0, 1) := by decide +kernel
theorem dX7_bar_1 : decode cX7_bar 1 = .ok (.iload_n 1, 1) := by decide +kernel
theorem dX7_bar_2 : decode cX7_bar 2 = .ok (.invokevirtual 72, 3) := by decide +kernel
theorem dX7_bar_5 : decode cX7_bar 5 = .ok (.ifCond .ne 6, 3) := by decide +kernel
theorem dX7_bar_8 : decode cX7_bar 8 = .ok (.bipush (-2), 2) := by decide +kernel
theorem dX7_bar_10 : decode cX7_bar 10 = .ok (.ireturn, 1) := by decide +kernel
theorem dX7_bar_11 : decode cX7_bar 11 = .ok (.aload_n 0, 1) := by decide +kernel
theorem dX7_bar_12 : decode cX7_bar 12 = .ok (.dup, 1) := by decide +kernel
theorem dX7_bar_13 : decode cX7_bar 13 = .ok (.getfield 76, 3) := by decide +kernel
theorem dX7_bar_16 : decode cX7_bar 16 = .ok (.iconst 1, 1) := by decide +kernel
theorem dX7_bar_17 : decode cX7_bar 17 = .ok (.iload_n 1, 1) := by decide +kernel
theorem dX7_bar_18 : decode cX7_bar 18 = .ok (.ishl, 1) := by decide +kernel
theorem dX7_bar_19 : decode cX7_bar 19 = .ok (.ixor, 1) := by decide +kernel
theorem dX7_bar_20 : decode cX7_bar 20 = .ok (.putfield 76, 3) := by decide +kernel
theorem dX7_bar_23 : decode cX7_bar 23 = .ok (.aload_n 0, 1) := by decide +kernel
theorem dX7_bar_24 : decode cX7_bar 24 = .ok (.getfield 76, 3) := by decide +kernel
theorem dX7_bar_27 : decode cX7_bar 27 = .ok (.ireturn, 1) := by decide +kernel
theorem dX7_all_0 : decode cX7_all 0 = .ok (.aload_n 0, 1) := by decide +kernel
theorem dX7_all_1 : decode cX7_all 1 = .ok (.iconst 1, 1) := by decide +kernel
theorem dX7_all_2 : decode cX7_all 2 = .ok (.aload_n 0, 1) := by decide +kernel
theorem dX7_all_3 : decode cX7_all 3 = .ok (.invokevirtual 68, 3) := by decide +kernel
theorem dX7_all_6 : decode cX7_all 6 = .ok (.ishl, 1) := by decide +kernel
theorem dX7_all_7 : decode cX7_all 7 = .ok (.iconst 1, 1) := by decide +kernel
theorem dX7_all_8 : decode cX7_all 8 = .ok (.isub, 1) := by decide +kernel
theorem dX7_all_9 : decode cX7_all 9 = .ok (.putfield 76, 3) := by decide +kernel
theorem dX7_all_12 : decode cX7_all 12 = .ok (.aload_n 0, 1) := by decide +kernel
theorem dX7_all_13 : decode cX7_all 13 = .ok (.invokevirtual 68, 3) := by decide +kernel
theorem dX7_all_16 : decode cX7_all 16 = .ok (.ireturn, 1) := by decide +kernel
theorem dX7_read_0 : decode cX7_read 0 = .ok (.iload_n 1, 1) := by decide +kernel
theorem dX7_read_1 : decode cX7_read 1 = .ok (.invokestatic 98, 3) := by decide +kernel
theorem dX7_read_4 : decode cX7_read 4 = .ok (.ifCond .ne 6, 3) := by decide +kernel
theorem dX7_read_7 : decode cX7_read 7 = .ok (.bipush (-2), 2) := by decide +kernel
theorem dX7_read_9 : decode cX7_read 9 = .ok (.ireturn, 1) := by decide +kernel
theorem dX7_read_10 : decode cX7_read 10 = .ok (.aload_n 0, 1) := by decide +kernel
theorem dX7_read_11 : decode cX7_read 11 = .ok (.getfield 42, 3) := by decide +kernel
theorem dX7_read_14 : decode cX7_read 14 = .ok (.iload_n 1, 1) := by decide +kernel
theorem dX7_read_15 : decode cX7_read 15 = .ok (.iaload, 1) := by decide +kernel
theorem dX7_read_16 : decode cX7_read 16 = .ok (.iconst (-1), 1) := by decide +kernel
theorem dX7_read_17 : decode cX7_read 17 = .ok (.if_icmp .ne 9, 3) := by decide +kernel
theorem dX7_read_20 : decode cX7_read 20 = .ok (.aload_n 0, 1) := by decide +kernel
theorem dX7_read_21 : decode cX7_read 21 = .ok (.iconst 1, 1) := by decide +kernel
theorem dX7_read_22 : decode cX7_read 22 = .ok (.invokevirtual 101, 3) := by decide +kernel
theorem dX7_read_25 : decode cX7_read 25 = .ok (.ireturn, 1) := by decide +kernel
theorem dX7_read_26 : decode cX7_read 26 = .ok (.iconst 0, 1) := by decide +kernel
theorem dX7_read_27 : decode cX7_read 27 = .ok (.istore_n 2, 1) := by decide +kernel
theorem dX7_read_28 : decode cX7_read 28 = .ok (.iload_n 2, 1) := by decide +kernel
theorem dX7_read_29 : decode cX7_read 29 = .ok (.aload_n 0, 1) := by decide +kernel
theorem dX7_read_30 : decode cX7_read 30 = .ok (.getfield 45, 3) := by decide +kernel
theorem dX7_read_33 : decode cX7_read 33 = .ok (.iload_n 1, 1) := by decide +kernel
theorem dX7_read_34 : decode cX7_read 34 = .ok (.iaload, 1) := by decide +kernel
theorem dX7_read_35 : decode cX7_read 35 = .ok (.if_icmp .ge 73, 3) := by decide +kernel
theorem dX7_read_38 : decode cX7_read 38 = .ok (.iload_n 2, 1) := by decide +kernel
theorem dX7_read_39 : decode cX7_read 39 = .ok (.iconst 2, 1) := by decide +kernel
theorem dX7_read_40 : decode cX7_read 40 = .ok (.aload_n 0, 1) := by decide +kernel
theorem dX7_read_41 : decode cX7_read 41 = .ok (.getfield 60, 3) := by decide +kernel
theorem dX7_read_44 : decode cX7_read 44 = .ok (.imul, 1) := by decide +kernel
theorem dX7_read_45 : decode cX7_read 45 = .ok (.if_icmp .ge 63, 3) := by decide +kernel
theorem dX7_read_48 : decode cX7_read 48 = .ok (.aload_n 0, 1) := by decide +kernel
theorem dX7_read_49 : decode cX7_read 49 = .ok (.getfield 48, 3) := by decide +kernel
theorem dX7_read_52 : decode cX7_read 52 = .ok (.bipush 40, 2) := by decide +kernel
theorem dX7_read_54 : decode cX7_read 54 = .ok (.iload_n 1, 1) := by decide +kernel
theorem dX7_read_55 : decode cX7_read 55 = .ok (.imul, 1) := by decide +kernel
theorem dX7_read_56 : decode cX7_read 56 = .ok (.iload_n 2, 1) := by decide +kernel
theorem dX7_read_57 : decode cX7_read 57 = .ok (.iadd, 1) := by decide +kernel
theorem dX7_read_58 : decode cX7_read 58 = .ok (.laload, 1) := by decide +kernel
theorem dX7_read_59 : decode cX7_read 59 = .ok (.ldc2_w 104, 3) := by decide +kernel
theorem dX7_read_62 : decode cX7_read 62 = .ok (.lcmp, 1) := by decide +kernel
theorem dX7_read_63 : decode cX7_read 63 = .ok (.ifCond .lt 45, 3) := by decide +kernel
theorem dX7_read_66 : decode cX7_read 66 = .ok (.aload_n 0, 1) := by decide +kernel
theorem dX7_read_67 : decode cX7_read 67 = .ok (.getfield 48, 3) := by decide +kernel
theorem dX7_read_70 : decode cX7_read 70 = .ok (.bipush 40, 2) := by decide +kernel
theorem dX7_read_72 : decode cX7_read 72 = .ok (.iload_n 1, 1) := by decide +kernel
theorem dX7_read_73 : decode cX7_read 73 = .ok (.imul, 1) := by decide +kernel
theorem dX7_read_74 : decode cX7_read 74 = .ok (.iload_n 2, 1) := by decide +kernel
theorem dX7_read_75 : decode cX7_read 75 = .ok (.iadd, 1) := by decide +kernel
theorem dX7_read_76 : decode cX7_read 76 = .ok (.laload, 1) := by decide +kernel
theorem dX7_read_77 : decode cX7_read 77 = .ok (.ldc2_w 106, 3) := by decide +kernel
theorem dX7_read_80 : decode cX7_read 80 = .ok (.lcmp, 1) := by decide +kernel
theorem dX7_read_81 : decode cX7_read 81 = .ok (.ifCond .gt 27, 3) := by decide +kernel
theorem dX7_read_84 : decode cX7_read 84 = .ok (.aload_n 0, 1) := by decide +kernel
theorem dX7_read_85 : decode cX7_read 85 = .ok (.getfield 19, 3) := by decide +kernel
theorem dX7_read_88 : decode cX7_read 88 = .ok (.iload_n 2, 1) := by decide +kernel
theorem dX7_read_89 : decode cX7_read 89 = .ok (.aload_n 0, 1) := by decide +kernel
theorem dX7_read_90 : decode cX7_read 90 = .ok (.getfield 48, 3) := by decide +kernel
theorem dX7_read_93 : decode cX7_read 93 = .ok (.bipush 40, 2) := by decide +kernel
theorem dX7_read_95 : decode cX7_read 95 = .ok (.iload_n 1, 1) := by decide +kernel
theorem dX7_read_96 : decode cX7_read 96 = .ok (.imul, 1) := by decide +kernel
theorem dX7_read_97 : decode cX7_read 97 = .ok (.iload_n 2, 1) := by decide +kernel
theorem dX7_read_98 : decode cX7_read 98 = .ok (.iadd, 1) := by decide +kernel
theorem dX7_read_99 : decode cX7_read 99 = .ok (.laload, 1) := by decide +kernel
theorem dX7_read_100 : decode cX7_read 100 = .ok (.l2i, 1) := by decide +kernel
theorem dX7_read_101 : decode cX7_read 101 = .ok (.iastore, 1) := by decide +kernel
theorem dX7_read_102 : decode cX7_read 102 = .ok (.iinc 2 1, 3) := by decide +kernel
theorem dX7_read_105 : decode cX7_read 105 = .ok (.goto (-77), 3) := by decide +kernel
theorem dX7_read_108 : decode cX7_read 108 = .ok (.aload_n 0, 1) := by decide +kernel
theorem dX7_read_109 : decode cX7_read 109 = .ok (.iconst 0, 1) := by decide +kernel
theorem dX7_read_110 : decode cX7_read 110 = .ok (.putfield 90, 3) := by decide +kernel
theorem dX7_read_113 : decode cX7_read 113 = .ok (.iload_n 2, 1) := by decide +kernel
theorem dX7_read_114 : decode cX7_read 114 = .ok (.ireturn, 1) := by decide +kernel
theorem dX7_infoOf_0 : decode cX7_infoOf 0 = .ok (.iload_n 2, 1) := by decide +kernel
theorem dX7_infoOf_1 : decode cX7_infoOf 1 = .ok (.tableswitch 69 0 4 #[35, 42, 49, 56, 56], 35) := by decide +kernel
theorem dX7_infoOf_36 : decode cX7_infoOf 36 = .ok (.aload_n 0, 1) := by decide +kernel
theorem dX7_infoOf_37 : decode cX7_infoOf 37 = .ok (.getfield 7, 3) := by decide +kernel
theorem dX7_infoOf_40 : decode cX7_infoOf 40 = .ok (.iload_n 1, 1) := by decide +kernel
theorem dX7_infoOf_41 : decode cX7_infoOf 41 = .ok (.iaload, 1) := by decide +kernel
theorem dX7_infoOf_42 : decode cX7_infoOf 42 = .ok (.ireturn, 1) := by decide +kernel
theorem dX7_infoOf_43 : decode cX7_infoOf 43 = .ok (.aload_n 0, 1) := by decide +kernel
theorem dX7_infoOf_44 : decode cX7_infoOf 44 = .ok (.getfield 13, 3) := by decide +kernel
theorem dX7_infoOf_47 : decode cX7_infoOf 47 = .ok (.iload_n 1, 1) := by decide +kernel
theorem dX7_infoOf_48 : decode cX7_infoOf 48 = .ok (.iaload, 1) := by decide +kernel
theorem dX7_infoOf_49 : decode cX7_infoOf 49 = .ok (.ireturn, 1) := by decide +kernel
theorem dX7_infoOf_50 : decode cX7_infoOf 50 = .ok (.aload_n 0, 1) := by decide +kernel
theorem dX7_infoOf_51 : decode cX7_infoOf 51 = .ok (.getfield 16, 3) := by decide +kernel
theorem dX7_infoOf_54 : decode cX7_infoOf 54 = .ok (.iload_n 1, 1) := by decide +kernel
theorem dX7_infoOf_55 : decode cX7_infoOf 55 = .ok (.iaload, 1) := by decide +kernel
theorem dX7_infoOf_56 : decode cX7_infoOf 56 = .ok (.ireturn, 1) := by decide +kernel
theorem dX7_infoOf_57 : decode cX7_infoOf 57 = .ok (.aload_n 0, 1) := by decide +kernel
theorem dX7_infoOf_58 : decode cX7_infoOf 58 = .ok (.getfield 19, 3) := by decide +kernel
theorem dX7_infoOf_61 : decode cX7_infoOf 61 = .ok (.iconst 2, 1) := by decide +kernel
theorem dX7_infoOf_62 : decode cX7_infoOf 62 = .ok (.iload_n 1, 1) := by decide +kernel
theorem dX7_infoOf_63 : decode cX7_infoOf 63 = .ok (.imul, 1) := by decide +kernel
theorem dX7_infoOf_64 : decode cX7_infoOf 64 = .ok (.iload_n 2, 1) := by decide +kernel
theorem dX7_infoOf_65 : decode cX7_infoOf 65 = .ok (.iadd, 1) := by decide +kernel
theorem dX7_infoOf_66 : decode cX7_infoOf 66 = .ok (.iconst 3, 1) := by decide +kernel
theorem dX7_infoOf_67 : decode cX7_infoOf 67 = .ok (.isub, 1) := by decide +kernel
theorem dX7_infoOf_68 : decode cX7_infoOf 68 = .ok (.iaload, 1) := by decide +kernel
theorem dX7_infoOf_69 : decode cX7_infoOf 69 = .ok (.ireturn, 1) := by decide +kernel
theorem dX7_infoOf_70 : decode cX7_infoOf 70 = .ok (.aload_n 0, 1) := by decide +kernel
theorem dX7_infoOf_71 : decode cX7_infoOf 71 = .ok (.getfield 22, 3) := by decide +kernel
theorem dX7_infoOf_74 : decode cX7_infoOf 74 = .ok (.iconst 2, 1) := by decide +kernel
theorem dX7_infoOf_75 : decode cX7_infoOf 75 = .ok (.iload_n 1, 1) := by decide +kernel
theorem dX7_infoOf_76 : decode cX7_infoOf 76 = .ok (.imul, 1) := by decide +kernel
theorem dX7_infoOf_77 : decode cX7_infoOf 77 = .ok (.iload_n 2, 1) := by decide +kernel
theorem dX7_infoOf_78 : decode cX7_infoOf 78 = .ok (.iadd, 1) := by decide +kernel
theorem dX7_infoOf_79 : decode cX7_infoOf 79 = .ok (.iconst 5, 1) := by decide +kernel
theorem dX7_infoOf_80 : decode cX7_infoOf 80 = .ok (.isub, 1) := by decide +kernel
theorem dX7_infoOf_81 : decode cX7_infoOf 81 = .ok (.iaload, 1) := by decide +kernel
theorem dX7_infoOf_82 : decode cX7_infoOf 82 = .ok (.ireturn, 1) := by decide +kernel
theorem dX7_info_0 : decode cX7_info 0 = .ok (.aload_n 0, 1) := by decide +kernel
theorem dX7_info_1 : decode cX7_info 1 = .ok (.iload_n 1, 1) := by decide +kernel
theorem dX7_info_2 : decode cX7_info 2 = .ok (.invokevirtual 94, 3) := by decide +kernel
theorem dX7_info_5 : decode cX7_info 5 = .ok (.ifCond .eq 22, 3) := by decide +kernel
theorem dX7_info_8 : decode cX7_info 8 = .ok (.iload_n 2, 1) := by decide +kernel
theorem dX7_info_9 : decode cX7_info 9 = .ok (.iconst 0, 1) := by decide +kernel
theorem dX7_info_10 : decode cX7_info 10 = .ok (.bipush 6, 2) := by decide +kernel
theorem dX7_info_12 : decode cX7_info 12 = .ok (.invokestatic 64, 3) := by decide +kernel
theorem dX7_info_15 : decode cX7_info 15 = .ok (.ifCond .eq 12, 3) := by decide +kernel
theorem dX7_info_18 : decode cX7_info 18 = .ok (.aload_n 0, 1) := by decide +kernel
theorem dX7_info_19 : decode cX7_info 19 = .ok (.iload_n 1, 1) := by decide +kernel
theorem dX7_info_20 : decode cX7_info 20 = .ok (.iload_n 2, 1) := by decide +kernel
theorem dX7_info_21 : decode cX7_info 21 = .ok (.invokevirtual 108, 3) := by decide +kernel
theorem dX7_info_24 : decode cX7_info 24 = .ok (.goto 5, 3) := by decide +kernel
theorem dX7_info_27 : decode cX7_info 27 = .ok (.ldc 97, 2) := by decide +kernel
theorem dX7_info_29 : decode cX7_info 29 = .ok (.ireturn, 1) := by decide +kernel
theorem dX7_pairOf_0 : decode cX7_pairOf 0 = .ok (.iload_n 2, 1) := by decide +kernel
theorem dX7_pairOf_1 : decode cX7_pairOf 1 = .ok (.ifCond .ne 10, 3) := by decide +kernel
theorem dX7_pairOf_4 : decode cX7_pairOf 4 = .ok (.iload_n 1, 1) := by decide +kernel
theorem dX7_pairOf_5 : decode cX7_pairOf 5 = .ok (.invokestatic 83, 3) := by decide +kernel
theorem dX7_pairOf_8 : decode cX7_pairOf 8 = .ok (.goto 36, 3) := by decide +kernel
theorem dX7_pairOf_11 : decode cX7_pairOf 11 = .ok (.iload_n 2, 1) := by decide +kernel
theorem dX7_pairOf_12 : decode cX7_pairOf 12 = .ok (.iconst 1, 1) := by decide +kernel
theorem dX7_pairOf_13 : decode cX7_pairOf 13 = .ok (.if_icmp .ne 10, 3) := by decide +kernel
theorem dX7_pairOf_16 : decode cX7_pairOf 16 = .ok (.iload_n 1, 1) := by decide +kernel
theorem dX7_pairOf_17 : decode cX7_pairOf 17 = .ok (.invokestatic 79, 3) := by decide +kernel
theorem dX7_pairOf_20 : decode cX7_pairOf 20 = .ok (.goto 24, 3) := by decide +kernel
theorem dX7_pairOf_23 : decode cX7_pairOf 23 = .ok (.iload_n 2, 1) := by decide +kernel
theorem dX7_pairOf_24 : decode cX7_pairOf 24 = .ok (.iconst 2, 1) := by decide +kernel
theorem dX7_pairOf_25 : decode cX7_pairOf 25 = .ok (.if_icmp .ne 11, 3) := by decide +kernel
theorem dX7_pairOf_28 : decode cX7_pairOf 28 = .ok (.aload_n 0, 1) := by decide +kernel
theorem dX7_pairOf_29 : decode cX7_pairOf 29 = .ok (.iload_n 1, 1) := by decide +kernel
theorem dX7_pairOf_30 : decode cX7_pairOf 30 = .ok (.invokevirtual 111, 3) := by decide +kernel
theorem dX7_pairOf_33 : decode cX7_pairOf 33 = .ok (.goto 11, 3) := by decide +kernel
theorem dX7_pairOf_36 : decode cX7_pairOf 36 = .ok (.aload_n 0, 1) := by decide +kernel
theorem dX7_pairOf_37 : decode cX7_pairOf 37 = .ok (.getfield 76, 3) := by decide +kernel
theorem dX7_pairOf_40 : decode cX7_pairOf 40 = .ok (.iload_n 1, 1) := by decide +kernel
theorem dX7_pairOf_41 : decode cX7_pairOf 41 = .ok (.ishr, 1) := by decide +kernel
theorem dX7_pairOf_42 : decode cX7_pairOf 42 = .ok (.iconst 1, 1) := by decide +kernel
theorem dX7_pairOf_43 : decode cX7_pairOf 43 = .ok (.iand, 1) := by decide +kernel
theorem dX7_pairOf_44 : decode cX7_pairOf 44 = .ok (.ireturn, 1) := by decide +kernel
theorem dX7_pair_0 : decode cX7_pair 0 = .ok (.aload_n 0, 1) := by decide +kernel
theorem dX7_pair_1 : decode cX7_pair 1 = .ok (.iload_n 1, 1) := by decide +kernel
theorem dX7_pair_2 : decode cX7_pair 2 = .ok (.invokevirtual 72, 3) := by decide +kernel
theorem dX7_pair_5 : decode cX7_pair 5 = .ok (.ifCond .eq 21, 3) := by decide +kernel
theorem dX7_pair_8 : decode cX7_pair 8 = .ok (.iload_n 2, 1) := by decide +kernel
theorem dX7_pair_9 : decode cX7_pair 9 = .ok (.iconst 0, 1) := by decide +kernel
theorem dX7_pair_10 : decode cX7_pair 10 = .ok (.iconst 3, 1) := by decide +kernel
theorem dX7_pair_11 : decode cX7_pair 11 = .ok (.invokestatic 64, 3) := by decide +kernel
theorem dX7_pair_14 : decode cX7_pair 14 = .ok (.ifCond .eq 12, 3) := by decide +kernel
theorem dX7_pair_17 : decode cX7_pair 17 = .ok (.aload_n 0, 1) := by decide +kernel
theorem dX7_pair_18 : decode cX7_pair 18 = .ok (.iload_n 1, 1) := by decide +kernel
theorem dX7_pair_19 : decode cX7_pair 19 = .ok (.iload_n 2, 1) := by decide +kernel
theorem dX7_pair_20 : decode cX7_pair 20 = .ok (.invokevirtual 114, 3) := by decide +kernel
theorem dX7_pair_23 : decode cX7_pair 23 = .ok (.goto 5, 3) := by decide +kernel
theorem dX7_pair_26 : decode cX7_pair 26 = .ok (.bipush (-2), 2) := by decide +kernel
theorem dX7_pair_28 : decode cX7_pair 28 = .ok (.ireturn, 1) := by decide +kernel
theorem dX7_isWay_0 : decode cX7_isWay 0 = .ok (.iload_n 1, 1) := by decide +kernel
theorem dX7_isWay_1 : decode cX7_isWay 1 = .ok (.iconst 2, 1) := by decide +kernel
theorem dX7_isWay_2 : decode cX7_isWay 2 = .ok (.idiv, 1) := by decide +kernel
theorem dX7_isWay_3 : decode cX7_isWay 3 = .ok (.aload_n 0, 1) := by decide +kernel
theorem dX7_isWay_4 : decode cX7_isWay 4 = .ok (.getfield 60, 3) := by decide +kernel
theorem dX7_isWay_7 : decode cX7_isWay 7 = .ok (.if_icmp .ge 24, 3) := by decide +kernel
theorem dX7_isWay_10 : decode cX7_isWay 10 = .ok (.aload_n 0, 1) := by decide +kernel
theorem dX7_isWay_11 : decode cX7_isWay 11 = .ok (.getfield 16, 3) := by decide +kernel
theorem dX7_isWay_14 : decode cX7_isWay 14 = .ok (.iload_n 1, 1) := by decide +kernel
theorem dX7_isWay_15 : decode cX7_isWay 15 = .ok (.iconst 2, 1) := by decide +kernel
theorem dX7_isWay_16 : decode cX7_isWay 16 = .ok (.idiv, 1) := by decide +kernel
theorem dX7_isWay_17 : decode cX7_isWay 17 = .ok (.iaload, 1) := by decide +kernel
theorem dX7_isWay_18 : decode cX7_isWay 18 = .ok (.iload_n 1, 1) := by decide +kernel
theorem dX7_isWay_19 : decode cX7_isWay 19 = .ok (.iconst 2, 1) := by decide +kernel
theorem dX7_isWay_20 : decode cX7_isWay 20 = .ok (.irem, 1) := by decide +kernel
theorem dX7_isWay_21 : decode cX7_isWay 21 = .ok (.ishr, 1) := by decide +kernel
theorem dX7_isWay_22 : decode cX7_isWay 22 = .ok (.iconst 1, 1) := by decide +kernel
theorem dX7_isWay_23 : decode cX7_isWay 23 = .ok (.iand, 1) := by decide +kernel
theorem dX7_isWay_24 : decode cX7_isWay 24 = .ok (.ifCond .ne 7, 3) := by decide +kernel
theorem dX7_isWay_27 : decode cX7_isWay 27 = .ok (.iconst 1, 1) := by decide +kernel
theorem dX7_isWay_28 : decode cX7_isWay 28 = .ok (.goto 4, 3) := by decide +kernel
theorem dX7_isWay_31 : decode cX7_isWay 31 = .ok (.iconst 0, 1) := by decide +kernel
theorem dX7_isWay_32 : decode cX7_isWay 32 = .ok (.ireturn, 1) := by decide +kernel
theorem dX7_brought_0 : decode cX7_brought 0 = .ok (.iload_n 2, 1) := by decide +kernel
theorem dX7_brought_1 : decode cX7_brought 1 = .ok (.iconst 2, 1) := by decide +kernel
theorem dX7_brought_2 : decode cX7_brought 2 = .ok (.idiv, 1) := by decide +kernel
theorem dX7_brought_3 : decode cX7_brought 3 = .ok (.istore_n 3, 1) := by decide +kernel
theorem dX7_brought_4 : decode cX7_brought 4 = .ok (.iload_n 3, 1) := by decide +kernel
theorem dX7_brought_5 : decode cX7_brought 5 = .ok (.iload_n 1, 1) := by decide +kernel
theorem dX7_brought_6 : decode cX7_brought 6 = .ok (.invokestatic 83, 3) := by decide +kernel
theorem dX7_brought_9 : decode cX7_brought 9 = .ok (.if_icmp .ne 14, 3) := by decide +kernel
theorem dX7_brought_12 : decode cX7_brought 12 = .ok (.aload_n 0, 1) := by decide +kernel
theorem dX7_brought_13 : decode cX7_brought 13 = .ok (.iload_n 1, 1) := by decide +kernel
theorem dX7_brought_14 : decode cX7_brought 14 = .ok (.iload_n 2, 1) := by decide +kernel
theorem dX7_brought_15 : decode cX7_brought 15 = .ok (.iconst 2, 1) := by decide +kernel
theorem dX7_brought_16 : decode cX7_brought 16 = .ok (.irem, 1) := by decide +kernel
theorem dX7_brought_17 : decode cX7_brought 17 = .ok (.invokevirtual 86, 3) := by decide +kernel
theorem dX7_brought_20 : decode cX7_brought 20 = .ok (.goto 24, 3) := by decide +kernel
theorem dX7_brought_23 : decode cX7_brought 23 = .ok (.iload_n 3, 1) := by decide +kernel
theorem dX7_brought_24 : decode cX7_brought 24 = .ok (.iload_n 1, 1) := by decide +kernel
theorem dX7_brought_25 : decode cX7_brought 25 = .ok (.invokestatic 79, 3) := by decide +kernel
theorem dX7_brought_28 : decode cX7_brought 28 = .ok (.if_icmp .ne 15, 3) := by decide +kernel
theorem dX7_brought_31 : decode cX7_brought 31 = .ok (.aload_n 0, 1) := by decide +kernel
theorem dX7_brought_32 : decode cX7_brought 32 = .ok (.iload_n 1, 1) := by decide +kernel
theorem dX7_brought_33 : decode cX7_brought 33 = .ok (.iload_n 2, 1) := by decide +kernel
theorem dX7_brought_34 : decode cX7_brought 34 = .ok (.iconst 2, 1) := by decide +kernel
theorem dX7_brought_35 : decode cX7_brought 35 = .ok (.irem, 1) := by decide +kernel
theorem dX7_brought_36 : decode cX7_brought 36 = .ok (.invokevirtual 86, 3) := by decide +kernel
theorem dX7_brought_39 : decode cX7_brought 39 = .ok (.ineg, 1) := by decide +kernel
theorem dX7_brought_40 : decode cX7_brought 40 = .ok (.goto 4, 3) := by decide +kernel
theorem dX7_brought_43 : decode cX7_brought 43 = .ok (.iconst 0, 1) := by decide +kernel
theorem dX7_brought_44 : decode cX7_brought 44 = .ok (.ireturn, 1) := by decide +kernel
theorem dX7_lowers_0 : decode cX7_lowers 0 = .ok (.lconst 0, 1) := by decide +kernel
theorem dX7_lowers_1 : decode cX7_lowers 1 = .ok (.lstore_n 2, 1) := by decide +kernel
theorem dX7_lowers_2 : decode cX7_lowers 2 = .ok (.iconst 0, 1) := by decide +kernel
theorem dX7_lowers_3 : decode cX7_lowers 3 = .ok (.istore 4, 2) := by decide +kernel
theorem dX7_lowers_5 : decode cX7_lowers 5 = .ok (.iload 4, 2) := by decide +kernel
theorem dX7_lowers_7 : decode cX7_lowers 7 = .ok (.bipush 11, 2) := by decide +kernel
theorem dX7_lowers_9 : decode cX7_lowers 9 = .ok (.if_icmp .ge 23, 3) := by decide +kernel
theorem dX7_lowers_12 : decode cX7_lowers 12 = .ok (.lload_n 2, 1) := by decide +kernel
theorem dX7_lowers_13 : decode cX7_lowers 13 = .ok (.aload_n 0, 1) := by decide +kernel
theorem dX7_lowers_14 : decode cX7_lowers 14 = .ok (.getfield 25, 3) := by decide +kernel
theorem dX7_lowers_17 : decode cX7_lowers 17 = .ok (.iload_n 1, 1) := by decide +kernel
theorem dX7_lowers_18 : decode cX7_lowers 18 = .ok (.iload 4, 2) := by decide +kernel
theorem dX7_lowers_20 : decode cX7_lowers 20 = .ok (.iadd, 1) := by decide +kernel
theorem dX7_lowers_21 : decode cX7_lowers 21 = .ok (.laload, 1) := by decide +kernel
theorem dX7_lowers_22 : decode cX7_lowers 22 = .ok (.invokestatic 56, 3) := by decide +kernel
theorem dX7_lowers_25 : decode cX7_lowers 25 = .ok (.lstore_n 2, 1) := by decide +kernel
theorem dX7_lowers_26 : decode cX7_lowers 26 = .ok (.iinc 4 1, 3) := by decide +kernel
theorem dX7_lowers_29 : decode cX7_lowers 29 = .ok (.goto (-24), 3) := by decide +kernel
theorem dX7_lowers_32 : decode cX7_lowers 32 = .ok (.iconst 0, 1) := by decide +kernel
theorem dX7_lowers_33 : decode cX7_lowers 33 = .ok (.istore 4, 2) := by decide +kernel
theorem dX7_lowers_35 : decode cX7_lowers 35 = .ok (.iload 4, 2) := by decide +kernel
theorem dX7_lowers_37 : decode cX7_lowers 37 = .ok (.bipush 11, 2) := by decide +kernel
theorem dX7_lowers_39 : decode cX7_lowers 39 = .ok (.if_icmp .ge 28, 3) := by decide +kernel
theorem dX7_lowers_42 : decode cX7_lowers 42 = .ok (.lload_n 2, 1) := by decide +kernel
theorem dX7_lowers_43 : decode cX7_lowers 43 = .ok (.lconst 1, 1) := by decide +kernel
theorem dX7_lowers_44 : decode cX7_lowers 44 = .ok (.lcmp, 1) := by decide +kernel
theorem dX7_lowers_45 : decode cX7_lowers 45 = .ok (.ifCond .le 22, 3) := by decide +kernel
theorem dX7_lowers_48 : decode cX7_lowers 48 = .ok (.aload_n 0, 1) := by decide +kernel
theorem dX7_lowers_49 : decode cX7_lowers 49 = .ok (.getfield 25, 3) := by decide +kernel
theorem dX7_lowers_52 : decode cX7_lowers 52 = .ok (.iload_n 1, 1) := by decide +kernel
theorem dX7_lowers_53 : decode cX7_lowers 53 = .ok (.iload 4, 2) := by decide +kernel
theorem dX7_lowers_55 : decode cX7_lowers 55 = .ok (.iadd, 1) := by decide +kernel
theorem dX7_lowers_56 : decode cX7_lowers 56 = .ok (.dup2, 1) := by decide +kernel
theorem dX7_lowers_57 : decode cX7_lowers 57 = .ok (.laload, 1) := by decide +kernel
theorem dX7_lowers_58 : decode cX7_lowers 58 = .ok (.lload_n 2, 1) := by decide +kernel
theorem dX7_lowers_59 : decode cX7_lowers 59 = .ok (.ldiv, 1) := by decide +kernel
theorem dX7_lowers_60 : decode cX7_lowers 60 = .ok (.lastore, 1) := by decide +kernel
theorem dX7_lowers_61 : decode cX7_lowers 61 = .ok (.iinc 4 1, 3) := by decide +kernel
theorem dX7_lowers_64 : decode cX7_lowers 64 = .ok (.goto (-29), 3) := by decide +kernel
theorem dX7_lowers_67 : decode cX7_lowers 67 = .ok (.return_, 1) := by decide +kernel
theorem dX7_clears_0 : decode cX7_clears 0 = .ok (.aload_n 0, 1) := by decide +kernel
theorem dX7_clears_1 : decode cX7_clears 1 = .ok (.getfield 25, 3) := by decide +kernel
theorem dX7_clears_4 : decode cX7_clears 4 = .ok (.iload_n 1, 1) := by decide +kernel
theorem dX7_clears_5 : decode cX7_clears 5 = .ok (.iload_n 3, 1) := by decide +kernel
theorem dX7_clears_6 : decode cX7_clears 6 = .ok (.iadd, 1) := by decide +kernel
theorem dX7_clears_7 : decode cX7_clears 7 = .ok (.laload, 1) := by decide +kernel
theorem dX7_clears_8 : decode cX7_clears 8 = .ok (.lstore 4, 2) := by decide +kernel
theorem dX7_clears_10 : decode cX7_clears 10 = .ok (.aload_n 0, 1) := by decide +kernel
theorem dX7_clears_11 : decode cX7_clears 11 = .ok (.getfield 25, 3) := by decide +kernel
theorem dX7_clears_14 : decode cX7_clears 14 = .ok (.iload_n 2, 1) := by decide +kernel
theorem dX7_clears_15 : decode cX7_clears 15 = .ok (.iload_n 3, 1) := by decide +kernel
theorem dX7_clears_16 : decode cX7_clears 16 = .ok (.iadd, 1) := by decide +kernel
theorem dX7_clears_17 : decode cX7_clears 17 = .ok (.laload, 1) := by decide +kernel
theorem dX7_clears_18 : decode cX7_clears 18 = .ok (.lstore 6, 2) := by decide +kernel
theorem dX7_clears_20 : decode cX7_clears 20 = .ok (.lload 4, 2) := by decide +kernel
theorem dX7_clears_22 : decode cX7_clears 22 = .ok (.lconst 0, 1) := by decide +kernel
theorem dX7_clears_23 : decode cX7_clears 23 = .ok (.lcmp, 1) := by decide +kernel
theorem dX7_clears_24 : decode cX7_clears 24 = .ok (.ifCond .eq 58, 3) := by decide +kernel
theorem dX7_clears_27 : decode cX7_clears 27 = .ok (.iconst 0, 1) := by decide +kernel
theorem dX7_clears_28 : decode cX7_clears 28 = .ok (.istore 8, 2) := by decide +kernel
theorem dX7_clears_30 : decode cX7_clears 30 = .ok (.iload 8, 2) := by decide +kernel
theorem dX7_clears_32 : decode cX7_clears 32 = .ok (.bipush 11, 2) := by decide +kernel
theorem dX7_clears_34 : decode cX7_clears 34 = .ok (.if_icmp .ge 43, 3) := by decide +kernel
theorem dX7_clears_37 : decode cX7_clears 37 = .ok (.aload_n 0, 1) := by decide +kernel
theorem dX7_clears_38 : decode cX7_clears 38 = .ok (.getfield 25, 3) := by decide +kernel
theorem dX7_clears_41 : decode cX7_clears 41 = .ok (.iload_n 1, 1) := by decide +kernel
theorem dX7_clears_42 : decode cX7_clears 42 = .ok (.iload 8, 2) := by decide +kernel
theorem dX7_clears_44 : decode cX7_clears 44 = .ok (.iadd, 1) := by decide +kernel
theorem dX7_clears_45 : decode cX7_clears 45 = .ok (.aload_n 0, 1) := by decide +kernel
theorem dX7_clears_46 : decode cX7_clears 46 = .ok (.getfield 25, 3) := by decide +kernel
theorem dX7_clears_49 : decode cX7_clears 49 = .ok (.iload_n 1, 1) := by decide +kernel
theorem dX7_clears_50 : decode cX7_clears 50 = .ok (.iload 8, 2) := by decide +kernel
theorem dX7_clears_52 : decode cX7_clears 52 = .ok (.iadd, 1) := by decide +kernel
theorem dX7_clears_53 : decode cX7_clears 53 = .ok (.laload, 1) := by decide +kernel
theorem dX7_clears_54 : decode cX7_clears 54 = .ok (.lload 6, 2) := by decide +kernel
theorem dX7_clears_56 : decode cX7_clears 56 = .ok (.lmul, 1) := by decide +kernel
theorem dX7_clears_57 : decode cX7_clears 57 = .ok (.aload_n 0, 1) := by decide +kernel
theorem dX7_clears_58 : decode cX7_clears 58 = .ok (.getfield 25, 3) := by decide +kernel
theorem dX7_clears_61 : decode cX7_clears 61 = .ok (.iload_n 2, 1) := by decide +kernel
theorem dX7_clears_62 : decode cX7_clears 62 = .ok (.iload 8, 2) := by decide +kernel
theorem dX7_clears_64 : decode cX7_clears 64 = .ok (.iadd, 1) := by decide +kernel
theorem dX7_clears_65 : decode cX7_clears 65 = .ok (.laload, 1) := by decide +kernel
theorem dX7_clears_66 : decode cX7_clears 66 = .ok (.lload 4, 2) := by decide +kernel
theorem dX7_clears_68 : decode cX7_clears 68 = .ok (.lmul, 1) := by decide +kernel
theorem dX7_clears_69 : decode cX7_clears 69 = .ok (.lsub, 1) := by decide +kernel
theorem dX7_clears_70 : decode cX7_clears 70 = .ok (.lastore, 1) := by decide +kernel
theorem dX7_clears_71 : decode cX7_clears 71 = .ok (.iinc 8 1, 3) := by decide +kernel
theorem dX7_clears_74 : decode cX7_clears 74 = .ok (.goto (-44), 3) := by decide +kernel
theorem dX7_clears_77 : decode cX7_clears 77 = .ok (.aload_n 0, 1) := by decide +kernel
theorem dX7_clears_78 : decode cX7_clears 78 = .ok (.iload_n 1, 1) := by decide +kernel
theorem dX7_clears_79 : decode cX7_clears 79 = .ok (.invokevirtual 117, 3) := by decide +kernel
theorem dX7_clears_82 : decode cX7_clears 82 = .ok (.return_, 1) := by decide +kernel
theorem dX7_adds_0 : decode cX7_adds 0 = .ok (.bipush 11, 2) := by decide +kernel
theorem dX7_adds_2 : decode cX7_adds 2 = .ok (.aload_n 0, 1) := by decide +kernel
theorem dX7_adds_3 : decode cX7_adds 3 = .ok (.getfield 121, 3) := by decide +kernel
theorem dX7_adds_6 : decode cX7_adds 6 = .ok (.imul, 1) := by decide +kernel
theorem dX7_adds_7 : decode cX7_adds 7 = .ok (.istore_n 3, 1) := by decide +kernel
theorem dX7_adds_8 : decode cX7_adds 8 = .ok (.iconst 0, 1) := by decide +kernel
theorem dX7_adds_9 : decode cX7_adds 9 = .ok (.istore 4, 2) := by decide +kernel
theorem dX7_adds_11 : decode cX7_adds 11 = .ok (.iload 4, 2) := by decide +kernel
theorem dX7_adds_13 : decode cX7_adds 13 = .ok (.bipush 10, 2) := by decide +kernel
theorem dX7_adds_15 : decode cX7_adds 15 = .ok (.if_icmp .ge 40, 3) := by decide +kernel
theorem dX7_adds_18 : decode cX7_adds 18 = .ok (.aload_n 0, 1) := by decide +kernel
theorem dX7_adds_19 : decode cX7_adds 19 = .ok (.getfield 25, 3) := by decide +kernel
theorem dX7_adds_22 : decode cX7_adds 22 = .ok (.iload_n 3, 1) := by decide +kernel
theorem dX7_adds_23 : decode cX7_adds 23 = .ok (.iload 4, 2) := by decide +kernel
theorem dX7_adds_25 : decode cX7_adds 25 = .ok (.iadd, 1) := by decide +kernel
theorem dX7_adds_26 : decode cX7_adds 26 = .ok (.iload_n 1, 1) := by decide +kernel
theorem dX7_adds_27 : decode cX7_adds 27 = .ok (.iload 4, 2) := by decide +kernel
theorem dX7_adds_29 : decode cX7_adds 29 = .ok (.ishr, 1) := by decide +kernel
theorem dX7_adds_30 : decode cX7_adds 30 = .ok (.iconst 1, 1) := by decide +kernel
theorem dX7_adds_31 : decode cX7_adds 31 = .ok (.iand, 1) := by decide +kernel
theorem dX7_adds_32 : decode cX7_adds 32 = .ok (.iconst 1, 1) := by decide +kernel
theorem dX7_adds_33 : decode cX7_adds 33 = .ok (.if_icmp .ne 14, 3) := by decide +kernel
theorem dX7_adds_36 : decode cX7_adds 36 = .ok (.aload_n 0, 1) := by decide +kernel
theorem dX7_adds_37 : decode cX7_adds 37 = .ok (.iload 4, 2) := by decide +kernel
theorem dX7_adds_39 : decode cX7_adds 39 = .ok (.iload_n 2, 1) := by decide +kernel
theorem dX7_adds_40 : decode cX7_adds 40 = .ok (.invokevirtual 124, 3) := by decide +kernel
theorem dX7_adds_43 : decode cX7_adds 43 = .ok (.i2l, 1) := by decide +kernel
theorem dX7_adds_44 : decode cX7_adds 44 = .ok (.goto 4, 3) := by decide +kernel
theorem dX7_adds_47 : decode cX7_adds 47 = .ok (.lconst 0, 1) := by decide +kernel
theorem dX7_adds_48 : decode cX7_adds 48 = .ok (.lastore, 1) := by decide +kernel
theorem dX7_adds_49 : decode cX7_adds 49 = .ok (.iinc 4 1, 3) := by decide +kernel
theorem dX7_adds_52 : decode cX7_adds 52 = .ok (.goto (-41), 3) := by decide +kernel
theorem dX7_adds_55 : decode cX7_adds 55 = .ok (.aload_n 0, 1) := by decide +kernel
theorem dX7_adds_56 : decode cX7_adds 56 = .ok (.getfield 25, 3) := by decide +kernel
theorem dX7_adds_59 : decode cX7_adds 59 = .ok (.iload_n 3, 1) := by decide +kernel
theorem dX7_adds_60 : decode cX7_adds 60 = .ok (.bipush 10, 2) := by decide +kernel
theorem dX7_adds_62 : decode cX7_adds 62 = .ok (.iadd, 1) := by decide +kernel
theorem dX7_adds_63 : decode cX7_adds 63 = .ok (.aload_n 0, 1) := by decide +kernel
theorem dX7_adds_64 : decode cX7_adds 64 = .ok (.getfield 19, 3) := by decide +kernel
theorem dX7_adds_67 : decode cX7_adds 67 = .ok (.iload_n 2, 1) := by decide +kernel
theorem dX7_adds_68 : decode cX7_adds 68 = .ok (.iaload, 1) := by decide +kernel
theorem dX7_adds_69 : decode cX7_adds 69 = .ok (.ineg, 1) := by decide +kernel
theorem dX7_adds_70 : decode cX7_adds 70 = .ok (.i2l, 1) := by decide +kernel
theorem dX7_adds_71 : decode cX7_adds 71 = .ok (.lastore, 1) := by decide +kernel
theorem dX7_adds_72 : decode cX7_adds 72 = .ok (.iconst 0, 1) := by decide +kernel
theorem dX7_adds_73 : decode cX7_adds 73 = .ok (.istore 4, 2) := by decide +kernel
theorem dX7_adds_75 : decode cX7_adds 75 = .ok (.iload 4, 2) := by decide +kernel
theorem dX7_adds_77 : decode cX7_adds 77 = .ok (.aload_n 0, 1) := by decide +kernel
theorem dX7_adds_78 : decode cX7_adds 78 = .ok (.getfield 121, 3) := by decide +kernel
theorem dX7_adds_81 : decode cX7_adds 81 = .ok (.if_icmp .ge 26, 3) := by decide +kernel
theorem dX7_adds_84 : decode cX7_adds 84 = .ok (.aload_n 0, 1) := by decide +kernel
theorem dX7_adds_85 : decode cX7_adds 85 = .ok (.iload_n 3, 1) := by decide +kernel
theorem dX7_adds_86 : decode cX7_adds 86 = .ok (.bipush 11, 2) := by decide +kernel
theorem dX7_adds_88 : decode cX7_adds 88 = .ok (.iload 4, 2) := by decide +kernel
theorem dX7_adds_90 : decode cX7_adds 90 = .ok (.imul, 1) := by decide +kernel
theorem dX7_adds_91 : decode cX7_adds 91 = .ok (.aload_n 0, 1) := by decide +kernel
theorem dX7_adds_92 : decode cX7_adds 92 = .ok (.getfield 29, 3) := by decide +kernel
theorem dX7_adds_95 : decode cX7_adds 95 = .ok (.iload 4, 2) := by decide +kernel
theorem dX7_adds_97 : decode cX7_adds 97 = .ok (.iaload, 1) := by decide +kernel
theorem dX7_adds_98 : decode cX7_adds 98 = .ok (.invokevirtual 127, 3) := by decide +kernel
theorem dX7_adds_101 : decode cX7_adds 101 = .ok (.iinc 4 1, 3) := by decide +kernel
theorem dX7_adds_104 : decode cX7_adds 104 = .ok (.goto (-29), 3) := by decide +kernel
theorem dX7_adds_107 : decode cX7_adds 107 = .ok (.iconst (-1), 1) := by decide +kernel
theorem dX7_adds_108 : decode cX7_adds 108 = .ok (.istore 4, 2) := by decide +kernel
theorem dX7_adds_110 : decode cX7_adds 110 = .ok (.bipush 9, 2) := by decide +kernel
theorem dX7_adds_112 : decode cX7_adds 112 = .ok (.istore 5, 2) := by decide +kernel
theorem dX7_adds_114 : decode cX7_adds 114 = .ok (.iload 5, 2) := by decide +kernel
theorem dX7_adds_116 : decode cX7_adds 116 = .ok (.ifCond .lt 32, 3) := by decide +kernel
theorem dX7_adds_119 : decode cX7_adds 119 = .ok (.aload_n 0, 1) := by decide +kernel
theorem dX7_adds_120 : decode cX7_adds 120 = .ok (.getfield 25, 3) := by decide +kernel
theorem dX7_adds_123 : decode cX7_adds 123 = .ok (.iload_n 3, 1) := by decide +kernel
theorem dX7_adds_124 : decode cX7_adds 124 = .ok (.iload 5, 2) := by decide +kernel
theorem dX7_adds_126 : decode cX7_adds 126 = .ok (.iadd, 1) := by decide +kernel
theorem dX7_adds_127 : decode cX7_adds 127 = .ok (.laload, 1) := by decide +kernel
theorem dX7_adds_128 : decode cX7_adds 128 = .ok (.lconst 0, 1) := by decide +kernel
theorem dX7_adds_129 : decode cX7_adds 129 = .ok (.lcmp, 1) := by decide +kernel
theorem dX7_adds_130 : decode cX7_adds 130 = .ok (.ifCond .eq 8, 3) := by decide +kernel
theorem dX7_adds_133 : decode cX7_adds 133 = .ok (.iload 5, 2) := by decide +kernel
theorem dX7_adds_135 : decode cX7_adds 135 = .ok (.goto 5, 3) := by decide +kernel
theorem dX7_adds_138 : decode cX7_adds 138 = .ok (.iload 4, 2) := by decide +kernel
theorem dX7_adds_140 : decode cX7_adds 140 = .ok (.istore 4, 2) := by decide +kernel
theorem dX7_adds_142 : decode cX7_adds 142 = .ok (.iinc 5 (-1), 3) := by decide +kernel
theorem dX7_adds_145 : decode cX7_adds 145 = .ok (.goto (-31), 3) := by decide +kernel
theorem dX7_adds_148 : decode cX7_adds 148 = .ok (.iload 4, 2) := by decide +kernel
theorem dX7_adds_150 : decode cX7_adds 150 = .ok (.iconst (-1), 1) := by decide +kernel
theorem dX7_adds_151 : decode cX7_adds 151 = .ok (.if_icmp .ne 23, 3) := by decide +kernel
theorem dX7_adds_154 : decode cX7_adds 154 = .ok (.aload_n 0, 1) := by decide +kernel
theorem dX7_adds_155 : decode cX7_adds 155 = .ok (.getfield 25, 3) := by decide +kernel
theorem dX7_adds_158 : decode cX7_adds 158 = .ok (.iload_n 3, 1) := by decide +kernel
theorem dX7_adds_159 : decode cX7_adds 159 = .ok (.bipush 10, 2) := by decide +kernel
theorem dX7_adds_161 : decode cX7_adds 161 = .ok (.iadd, 1) := by decide +kernel
theorem dX7_adds_162 : decode cX7_adds 162 = .ok (.laload, 1) := by decide +kernel
theorem dX7_adds_163 : decode cX7_adds 163 = .ok (.lconst 0, 1) := by decide +kernel
theorem dX7_adds_164 : decode cX7_adds 164 = .ok (.lcmp, 1) := by decide +kernel
theorem dX7_adds_165 : decode cX7_adds 165 = .ok (.ifCond .ne 7, 3) := by decide +kernel
theorem dX7_adds_168 : decode cX7_adds 168 = .ok (.iconst 1, 1) := by decide +kernel
theorem dX7_adds_169 : decode cX7_adds 169 = .ok (.goto 4, 3) := by decide +kernel
theorem dX7_adds_172 : decode cX7_adds 172 = .ok (.iconst 0, 1) := by decide +kernel
theorem dX7_adds_173 : decode cX7_adds 173 = .ok (.ireturn, 1) := by decide +kernel
theorem dX7_adds_174 : decode cX7_adds 174 = .ok (.aload_n 0, 1) := by decide +kernel
theorem dX7_adds_175 : decode cX7_adds 175 = .ok (.iload_n 3, 1) := by decide +kernel
theorem dX7_adds_176 : decode cX7_adds 176 = .ok (.invokevirtual 117, 3) := by decide +kernel
theorem dX7_adds_179 : decode cX7_adds 179 = .ok (.iconst 0, 1) := by decide +kernel
theorem dX7_adds_180 : decode cX7_adds 180 = .ok (.istore 5, 2) := by decide +kernel
theorem dX7_adds_182 : decode cX7_adds 182 = .ok (.iload 5, 2) := by decide +kernel
theorem dX7_adds_184 : decode cX7_adds 184 = .ok (.aload_n 0, 1) := by decide +kernel
theorem dX7_adds_185 : decode cX7_adds 185 = .ok (.getfield 121, 3) := by decide +kernel
theorem dX7_adds_188 : decode cX7_adds 188 = .ok (.if_icmp .ge 21, 3) := by decide +kernel
theorem dX7_adds_191 : decode cX7_adds 191 = .ok (.aload_n 0, 1) := by decide +kernel
theorem dX7_adds_192 : decode cX7_adds 192 = .ok (.bipush 11, 2) := by decide +kernel
theorem dX7_adds_194 : decode cX7_adds 194 = .ok (.iload 5, 2) := by decide +kernel
theorem dX7_adds_196 : decode cX7_adds 196 = .ok (.imul, 1) := by decide +kernel
theorem dX7_adds_197 : decode cX7_adds 197 = .ok (.iload_n 3, 1) := by decide +kernel
theorem dX7_adds_198 : decode cX7_adds 198 = .ok (.iload 4, 2) := by decide +kernel
theorem dX7_adds_200 : decode cX7_adds 200 = .ok (.invokevirtual 127, 3) := by decide +kernel
theorem dX7_adds_203 : decode cX7_adds 203 = .ok (.iinc 5 1, 3) := by decide +kernel
theorem dX7_adds_206 : decode cX7_adds 206 = .ok (.goto (-24), 3) := by decide +kernel
theorem dX7_adds_209 : decode cX7_adds 209 = .ok (.aload_n 0, 1) := by decide +kernel
theorem dX7_adds_210 : decode cX7_adds 210 = .ok (.getfield 29, 3) := by decide +kernel
theorem dX7_adds_213 : decode cX7_adds 213 = .ok (.aload_n 0, 1) := by decide +kernel
theorem dX7_adds_214 : decode cX7_adds 214 = .ok (.getfield 121, 3) := by decide +kernel
theorem dX7_adds_217 : decode cX7_adds 217 = .ok (.iload 4, 2) := by decide +kernel
theorem dX7_adds_219 : decode cX7_adds 219 = .ok (.iastore, 1) := by decide +kernel
theorem dX7_adds_220 : decode cX7_adds 220 = .ok (.aload_n 0, 1) := by decide +kernel
theorem dX7_adds_221 : decode cX7_adds 221 = .ok (.dup, 1) := by decide +kernel
theorem dX7_adds_222 : decode cX7_adds 222 = .ok (.getfield 121, 3) := by decide +kernel
theorem dX7_adds_225 : decode cX7_adds 225 = .ok (.iconst 1, 1) := by decide +kernel
theorem dX7_adds_226 : decode cX7_adds 226 = .ok (.iadd, 1) := by decide +kernel
theorem dX7_adds_227 : decode cX7_adds 227 = .ok (.putfield 121, 3) := by decide +kernel
theorem dX7_adds_230 : decode cX7_adds 230 = .ok (.iconst 1, 1) := by decide +kernel
theorem dX7_adds_231 : decode cX7_adds 231 = .ok (.ireturn, 1) := by decide +kernel
theorem dX7_faultOf_0 : decode cX7_faultOf 0 = .ok (.aload_n 0, 1) := by decide +kernel
theorem dX7_faultOf_1 : decode cX7_faultOf 1 = .ok (.iconst 0, 1) := by decide +kernel
theorem dX7_faultOf_2 : decode cX7_faultOf 2 = .ok (.putfield 121, 3) := by decide +kernel
theorem dX7_faultOf_5 : decode cX7_faultOf 5 = .ok (.iconst 0, 1) := by decide +kernel
theorem dX7_faultOf_6 : decode cX7_faultOf 6 = .ok (.istore_n 2, 1) := by decide +kernel
theorem dX7_faultOf_7 : decode cX7_faultOf 7 = .ok (.iload_n 2, 1) := by decide +kernel
theorem dX7_faultOf_8 : decode cX7_faultOf 8 = .ok (.bipush 10, 2) := by decide +kernel
theorem dX7_faultOf_10 : decode cX7_faultOf 10 = .ok (.if_icmp .ge 28, 3) := by decide +kernel
theorem dX7_faultOf_13 : decode cX7_faultOf 13 = .ok (.aload_n 0, 1) := by decide +kernel
theorem dX7_faultOf_14 : decode cX7_faultOf 14 = .ok (.iload_n 2, 1) := by decide +kernel
theorem dX7_faultOf_15 : decode cX7_faultOf 15 = .ok (.invokevirtual 131, 3) := by decide +kernel
theorem dX7_faultOf_18 : decode cX7_faultOf 18 = .ok (.ifCond .eq 14, 3) := by decide +kernel
theorem dX7_faultOf_21 : decode cX7_faultOf 21 = .ok (.aload_n 0, 1) := by decide +kernel
theorem dX7_faultOf_22 : decode cX7_faultOf 22 = .ok (.iload_n 1, 1) := by decide +kernel
theorem dX7_faultOf_23 : decode cX7_faultOf 23 = .ok (.iload_n 2, 1) := by decide +kernel
theorem dX7_faultOf_24 : decode cX7_faultOf 24 = .ok (.invokevirtual 134, 3) := by decide +kernel
theorem dX7_faultOf_27 : decode cX7_faultOf 27 = .ok (.ifCond .ne 5, 3) := by decide +kernel
theorem dX7_faultOf_30 : decode cX7_faultOf 30 = .ok (.iload_n 2, 1) := by decide +kernel
theorem dX7_faultOf_31 : decode cX7_faultOf 31 = .ok (.ireturn, 1) := by decide +kernel
theorem dX7_faultOf_32 : decode cX7_faultOf 32 = .ok (.iinc 2 1, 3) := by decide +kernel
theorem dX7_faultOf_35 : decode cX7_faultOf 35 = .ok (.goto (-28), 3) := by decide +kernel
theorem dX7_faultOf_38 : decode cX7_faultOf 38 = .ok (.iconst (-1), 1) := by decide +kernel
theorem dX7_faultOf_39 : decode cX7_faultOf 39 = .ok (.ireturn, 1) := by decide +kernel
theorem dX7_size_0 : decode cX7_size 0 = .ok (.iconst 0, 1) := by decide +kernel
theorem dX7_size_1 : decode cX7_size 1 = .ok (.istore_n 1, 1) := by decide +kernel
theorem dX7_size_2 : decode cX7_size 2 = .ok (.iconst 0, 1) := by decide +kernel
theorem dX7_size_3 : decode cX7_size 3 = .ok (.istore_n 2, 1) := by decide +kernel
theorem dX7_size_4 : decode cX7_size 4 = .ok (.iload_n 2, 1) := by decide +kernel
theorem dX7_size_5 : decode cX7_size 5 = .ok (.bipush 10, 2) := by decide +kernel
theorem dX7_size_7 : decode cX7_size 7 = .ok (.if_icmp .ge 17, 3) := by decide +kernel
theorem dX7_size_10 : decode cX7_size 10 = .ok (.iload_n 1, 1) := by decide +kernel
theorem dX7_size_11 : decode cX7_size 11 = .ok (.iload_n 0, 1) := by decide +kernel
theorem dX7_size_12 : decode cX7_size 12 = .ok (.iload_n 2, 1) := by decide +kernel
theorem dX7_size_13 : decode cX7_size 13 = .ok (.ishr, 1) := by decide +kernel
theorem dX7_size_14 : decode cX7_size 14 = .ok (.iconst 1, 1) := by decide +kernel
theorem dX7_size_15 : decode cX7_size 15 = .ok (.iand, 1) := by decide +kernel
theorem dX7_size_16 : decode cX7_size 16 = .ok (.iadd, 1) := by decide +kernel
theorem dX7_size_17 : decode cX7_size 17 = .ok (.istore_n 1, 1) := by decide +kernel
theorem dX7_size_18 : decode cX7_size 18 = .ok (.iinc 2 1, 3) := by decide +kernel
theorem dX7_size_21 : decode cX7_size 21 = .ok (.goto (-17), 3) := by decide +kernel
theorem dX7_size_24 : decode cX7_size 24 = .ok (.iload_n 1, 1) := by decide +kernel
theorem dX7_size_25 : decode cX7_size 25 = .ok (.ireturn, 1) := by decide +kernel
theorem dX7_volumes_0 : decode cX7_volumes 0 = .ok (.lconst 0, 1) := by decide +kernel
theorem dX7_volumes_1 : decode cX7_volumes 1 = .ok (.lstore_n 2, 1) := by decide +kernel
theorem dX7_volumes_2 : decode cX7_volumes 2 = .ok (.lconst 1, 1) := by decide +kernel
theorem dX7_volumes_3 : decode cX7_volumes 3 = .ok (.lstore 4, 2) := by decide +kernel
theorem dX7_volumes_5 : decode cX7_volumes 5 = .ok (.iconst 0, 1) := by decide +kernel
theorem dX7_volumes_6 : decode cX7_volumes 6 = .ok (.istore 6, 2) := by decide +kernel
theorem dX7_volumes_8 : decode cX7_volumes 8 = .ok (.iload 6, 2) := by decide +kernel
theorem dX7_volumes_10 : decode cX7_volumes 10 = .ok (.aload_n 0, 1) := by decide +kernel
theorem dX7_volumes_11 : decode cX7_volumes 11 = .ok (.getfield 121, 3) := by decide +kernel
theorem dX7_volumes_14 : decode cX7_volumes 14 = .ok (.if_icmp .ge 129, 3) := by decide +kernel
theorem dX7_volumes_17 : decode cX7_volumes 17 = .ok (.aload_n 0, 1) := by decide +kernel
theorem dX7_volumes_18 : decode cX7_volumes 18 = .ok (.getfield 25, 3) := by decide +kernel
theorem dX7_volumes_21 : decode cX7_volumes 21 = .ok (.bipush 11, 2) := by decide +kernel
theorem dX7_volumes_23 : decode cX7_volumes 23 = .ok (.iload 6, 2) := by decide +kernel
theorem dX7_volumes_25 : decode cX7_volumes 25 = .ok (.imul, 1) := by decide +kernel
theorem dX7_volumes_26 : decode cX7_volumes 26 = .ok (.bipush 10, 2) := by decide +kernel
theorem dX7_volumes_28 : decode cX7_volumes 28 = .ok (.iadd, 1) := by decide +kernel
theorem dX7_volumes_29 : decode cX7_volumes 29 = .ok (.laload, 1) := by decide +kernel
theorem dX7_volumes_30 : decode cX7_volumes 30 = .ok (.lstore 7, 2) := by decide +kernel
theorem dX7_volumes_32 : decode cX7_volumes 32 = .ok (.aload_n 0, 1) := by decide +kernel
theorem dX7_volumes_33 : decode cX7_volumes 33 = .ok (.getfield 25, 3) := by decide +kernel
theorem dX7_volumes_36 : decode cX7_volumes 36 = .ok (.bipush 11, 2) := by decide +kernel
theorem dX7_volumes_38 : decode cX7_volumes 38 = .ok (.iload 6, 2) := by decide +kernel
theorem dX7_volumes_40 : decode cX7_volumes 40 = .ok (.imul, 1) := by decide +kernel
theorem dX7_volumes_41 : decode cX7_volumes 41 = .ok (.aload_n 0, 1) := by decide +kernel
theorem dX7_volumes_42 : decode cX7_volumes 42 = .ok (.getfield 29, 3) := by decide +kernel
theorem dX7_volumes_45 : decode cX7_volumes 45 = .ok (.iload 6, 2) := by decide +kernel
theorem dX7_volumes_47 : decode cX7_volumes 47 = .ok (.iaload, 1) := by decide +kernel
theorem dX7_volumes_48 : decode cX7_volumes 48 = .ok (.iadd, 1) := by decide +kernel
theorem dX7_volumes_49 : decode cX7_volumes 49 = .ok (.laload, 1) := by decide +kernel
theorem dX7_volumes_50 : decode cX7_volumes 50 = .ok (.lstore 9, 2) := by decide +kernel
theorem dX7_volumes_52 : decode cX7_volumes 52 = .ok (.lload 7, 2) := by decide +kernel
theorem dX7_volumes_54 : decode cX7_volumes 54 = .ok (.lconst 0, 1) := by decide +kernel
theorem dX7_volumes_55 : decode cX7_volumes 55 = .ok (.lcmp, 1) := by decide +kernel
theorem dX7_volumes_56 : decode cX7_volumes 56 = .ok (.ifCond .ge 9, 3) := by decide +kernel
theorem dX7_volumes_59 : decode cX7_volumes 59 = .ok (.lload 7, 2) := by decide +kernel
theorem dX7_volumes_61 : decode cX7_volumes 61 = .ok (.lneg, 1) := by decide +kernel
theorem dX7_volumes_62 : decode cX7_volumes 62 = .ok (.goto 5, 3) := by decide +kernel
theorem dX7_volumes_65 : decode cX7_volumes 65 = .ok (.lload 7, 2) := by decide +kernel
theorem dX7_volumes_67 : decode cX7_volumes 67 = .ok (.lstore 7, 2) := by decide +kernel
theorem dX7_volumes_69 : decode cX7_volumes 69 = .ok (.lload 9, 2) := by decide +kernel
theorem dX7_volumes_71 : decode cX7_volumes 71 = .ok (.lconst 0, 1) := by decide +kernel
theorem dX7_volumes_72 : decode cX7_volumes 72 = .ok (.lcmp, 1) := by decide +kernel
theorem dX7_volumes_73 : decode cX7_volumes 73 = .ok (.ifCond .ge 9, 3) := by decide +kernel
theorem dX7_volumes_76 : decode cX7_volumes 76 = .ok (.lload 9, 2) := by decide +kernel
theorem dX7_volumes_78 : decode cX7_volumes 78 = .ok (.lneg, 1) := by decide +kernel
theorem dX7_volumes_79 : decode cX7_volumes 79 = .ok (.goto 5, 3) := by decide +kernel
theorem dX7_volumes_82 : decode cX7_volumes 82 = .ok (.lload 9, 2) := by decide +kernel
theorem dX7_volumes_84 : decode cX7_volumes 84 = .ok (.lstore 9, 2) := by decide +kernel
theorem dX7_volumes_86 : decode cX7_volumes 86 = .ok (.lload_n 2, 1) := by decide +kernel
theorem dX7_volumes_87 : decode cX7_volumes 87 = .ok (.lload 9, 2) := by decide +kernel
theorem dX7_volumes_89 : decode cX7_volumes 89 = .ok (.lmul, 1) := by decide +kernel
theorem dX7_volumes_90 : decode cX7_volumes 90 = .ok (.lload 4, 2) := by decide +kernel
theorem dX7_volumes_92 : decode cX7_volumes 92 = .ok (.lload 7, 2) := by decide +kernel
theorem dX7_volumes_94 : decode cX7_volumes 94 = .ok (.lmul, 1) := by decide +kernel
theorem dX7_volumes_95 : decode cX7_volumes 95 = .ok (.aload_n 0, 1) := by decide +kernel
theorem dX7_volumes_96 : decode cX7_volumes 96 = .ok (.aload_n 0, 1) := by decide +kernel
theorem dX7_volumes_97 : decode cX7_volumes 97 = .ok (.getfield 29, 3) := by decide +kernel
theorem dX7_volumes_100 : decode cX7_volumes 100 = .ok (.iload 6, 2) := by decide +kernel
theorem dX7_volumes_102 : decode cX7_volumes 102 = .ok (.iaload, 1) := by decide +kernel
theorem dX7_volumes_103 : decode cX7_volumes 103 = .ok (.invokevirtual 111, 3) := by decide +kernel
theorem dX7_volumes_106 : decode cX7_volumes 106 = .ok (.i2l, 1) := by decide +kernel
theorem dX7_volumes_107 : decode cX7_volumes 107 = .ok (.lmul, 1) := by decide +kernel
theorem dX7_volumes_108 : decode cX7_volumes 108 = .ok (.ladd, 1) := by decide +kernel
theorem dX7_volumes_109 : decode cX7_volumes 109 = .ok (.lstore 11, 2) := by decide +kernel
theorem dX7_volumes_111 : decode cX7_volumes 111 = .ok (.lload 4, 2) := by decide +kernel
theorem dX7_volumes_113 : decode cX7_volumes 113 = .ok (.lload 9, 2) := by decide +kernel
theorem dX7_volumes_115 : decode cX7_volumes 115 = .ok (.lmul, 1) := by decide +kernel
theorem dX7_volumes_116 : decode cX7_volumes 116 = .ok (.lstore 13, 2) := by decide +kernel
theorem dX7_volumes_118 : decode cX7_volumes 118 = .ok (.lload 11, 2) := by decide +kernel
theorem dX7_volumes_120 : decode cX7_volumes 120 = .ok (.lload 13, 2) := by decide +kernel
theorem dX7_volumes_122 : decode cX7_volumes 122 = .ok (.iconst 0, 1) := by decide +kernel
theorem dX7_volumes_123 : decode cX7_volumes 123 = .ok (.invokestatic 138, 3) := by decide +kernel
theorem dX7_volumes_126 : decode cX7_volumes 126 = .ok (.lstore_n 2, 1) := by decide +kernel
theorem dX7_volumes_127 : decode cX7_volumes 127 = .ok (.lload 11, 2) := by decide +kernel
theorem dX7_volumes_129 : decode cX7_volumes 129 = .ok (.lload 13, 2) := by decide +kernel
theorem dX7_volumes_131 : decode cX7_volumes 131 = .ok (.iconst 1, 1) := by decide +kernel
theorem dX7_volumes_132 : decode cX7_volumes 132 = .ok (.invokestatic 138, 3) := by decide +kernel
theorem dX7_volumes_135 : decode cX7_volumes 135 = .ok (.lstore 4, 2) := by decide +kernel
theorem dX7_volumes_137 : decode cX7_volumes 137 = .ok (.iinc 6 1, 3) := by decide +kernel
theorem dX7_volumes_140 : decode cX7_volumes 140 = .ok (.goto (-132), 3) := by decide +kernel
theorem dX7_volumes_143 : decode cX7_volumes 143 = .ok (.aload_n 0, 1) := by decide +kernel
theorem dX7_volumes_144 : decode cX7_volumes 144 = .ok (.getfield 36, 3) := by decide +kernel
theorem dX7_volumes_147 : decode cX7_volumes 147 = .ok (.iload_n 1, 1) := by decide +kernel
theorem dX7_volumes_148 : decode cX7_volumes 148 = .ok (.lload_n 2, 1) := by decide +kernel
theorem dX7_volumes_149 : decode cX7_volumes 149 = .ok (.lastore, 1) := by decide +kernel
theorem dX7_volumes_150 : decode cX7_volumes 150 = .ok (.aload_n 0, 1) := by decide +kernel
theorem dX7_volumes_151 : decode cX7_volumes 151 = .ok (.getfield 39, 3) := by decide +kernel
theorem dX7_volumes_154 : decode cX7_volumes 154 = .ok (.iload_n 1, 1) := by decide +kernel
theorem dX7_volumes_155 : decode cX7_volumes 155 = .ok (.lload 4, 2) := by decide +kernel
theorem dX7_volumes_157 : decode cX7_volumes 157 = .ok (.lastore, 1) := by decide +kernel
theorem dX7_volumes_158 : decode cX7_volumes 158 = .ok (.return_, 1) := by decide +kernel
theorem dX7_finds_0 : decode cX7_finds 0 = .ok (.iconst 0, 1) := by decide +kernel
theorem dX7_finds_1 : decode cX7_finds 1 = .ok (.istore_n 1, 1) := by decide +kernel
theorem dX7_finds_2 : decode cX7_finds 2 = .ok (.iload_n 1, 1) := by decide +kernel
theorem dX7_finds_3 : decode cX7_finds 3 = .ok (.iconst 1, 1) := by decide +kernel
theorem dX7_finds_4 : decode cX7_finds 4 = .ok (.aload_n 0, 1) := by decide +kernel
theorem dX7_finds_5 : decode cX7_finds 5 = .ok (.invokevirtual 68, 3) := by decide +kernel
theorem dX7_finds_8 : decode cX7_finds 8 = .ok (.ishl, 1) := by decide +kernel
theorem dX7_finds_9 : decode cX7_finds 9 = .ok (.if_icmp .ge 61, 3) := by decide +kernel
theorem dX7_finds_12 : decode cX7_finds 12 = .ok (.aload_n 0, 1) := by decide +kernel
theorem dX7_finds_13 : decode cX7_finds 13 = .ok (.getfield 90, 3) := by decide +kernel
theorem dX7_finds_16 : decode cX7_finds 16 = .ok (.ifCond .ne 54, 3) := by decide +kernel
theorem dX7_finds_19 : decode cX7_finds 19 = .ok (.aload_n 0, 1) := by decide +kernel
theorem dX7_finds_20 : decode cX7_finds 20 = .ok (.getfield 32, 3) := by decide +kernel
theorem dX7_finds_23 : decode cX7_finds 23 = .ok (.iload_n 1, 1) := by decide +kernel
theorem dX7_finds_24 : decode cX7_finds 24 = .ok (.aload_n 0, 1) := by decide +kernel
theorem dX7_finds_25 : decode cX7_finds 25 = .ok (.iload_n 1, 1) := by decide +kernel
theorem dX7_finds_26 : decode cX7_finds 26 = .ok (.invokevirtual 142, 3) := by decide +kernel
theorem dX7_finds_29 : decode cX7_finds 29 = .ok (.iconst (-1), 1) := by decide +kernel
theorem dX7_finds_30 : decode cX7_finds 30 = .ok (.if_icmp .ne 18, 3) := by decide +kernel
theorem dX7_finds_33 : decode cX7_finds 33 = .ok (.aload_n 0, 1) := by decide +kernel
theorem dX7_finds_34 : decode cX7_finds 34 = .ok (.getfield 121, 3) := by decide +kernel
theorem dX7_finds_37 : decode cX7_finds 37 = .ok (.iload_n 1, 1) := by decide +kernel
theorem dX7_finds_38 : decode cX7_finds 38 = .ok (.invokestatic 145, 3) := by decide +kernel
theorem dX7_finds_41 : decode cX7_finds 41 = .ok (.if_icmp .ne 7, 3) := by decide +kernel
theorem dX7_finds_44 : decode cX7_finds 44 = .ok (.iconst 1, 1) := by decide +kernel
theorem dX7_finds_45 : decode cX7_finds 45 = .ok (.goto 4, 3) := by decide +kernel
theorem dX7_finds_48 : decode cX7_finds 48 = .ok (.iconst 0, 1) := by decide +kernel
theorem dX7_finds_49 : decode cX7_finds 49 = .ok (.bastore, 1) := by decide +kernel
theorem dX7_finds_50 : decode cX7_finds 50 = .ok (.aload_n 0, 1) := by decide +kernel
theorem dX7_finds_51 : decode cX7_finds 51 = .ok (.getfield 32, 3) := by decide +kernel
theorem dX7_finds_54 : decode cX7_finds 54 = .ok (.iload_n 1, 1) := by decide +kernel
theorem dX7_finds_55 : decode cX7_finds 55 = .ok (.baload, 1) := by decide +kernel
theorem dX7_finds_56 : decode cX7_finds 56 = .ok (.ifCond .eq 8, 3) := by decide +kernel
theorem dX7_finds_59 : decode cX7_finds 59 = .ok (.aload_n 0, 1) := by decide +kernel
theorem dX7_finds_60 : decode cX7_finds 60 = .ok (.iload_n 1, 1) := by decide +kernel
theorem dX7_finds_61 : decode cX7_finds 61 = .ok (.invokevirtual 148, 3) := by decide +kernel
theorem dX7_finds_64 : decode cX7_finds 64 = .ok (.iinc 1 1, 3) := by decide +kernel
theorem dX7_finds_67 : decode cX7_finds 67 = .ok (.goto (-65), 3) := by decide +kernel
theorem dX7_finds_70 : decode cX7_finds 70 = .ok (.aload_n 0, 1) := by decide +kernel
theorem dX7_finds_71 : decode cX7_finds 71 = .ok (.iconst 1, 1) := by decide +kernel
theorem dX7_finds_72 : decode cX7_finds 72 = .ok (.putfield 90, 3) := by decide +kernel
theorem dX7_finds_75 : decode cX7_finds 75 = .ok (.return_, 1) := by decide +kernel
theorem dX7_isLess_0 : decode cX7_isLess 0 = .ok (.aload_n 0, 1) := by decide +kernel
theorem dX7_isLess_1 : decode cX7_isLess 1 = .ok (.getfield 36, 3) := by decide +kernel
theorem dX7_isLess_4 : decode cX7_isLess 4 = .ok (.iload_n 1, 1) := by decide +kernel
theorem dX7_isLess_5 : decode cX7_isLess 5 = .ok (.laload, 1) := by decide +kernel
theorem dX7_isLess_6 : decode cX7_isLess 6 = .ok (.aload_n 0, 1) := by decide +kernel
theorem dX7_isLess_7 : decode cX7_isLess 7 = .ok (.getfield 39, 3) := by decide +kernel
theorem dX7_isLess_10 : decode cX7_isLess 10 = .ok (.iload_n 2, 1) := by decide +kernel
theorem dX7_isLess_11 : decode cX7_isLess 11 = .ok (.laload, 1) := by decide +kernel
theorem dX7_isLess_12 : decode cX7_isLess 12 = .ok (.lmul, 1) := by decide +kernel
theorem dX7_isLess_13 : decode cX7_isLess 13 = .ok (.aload_n 0, 1) := by decide +kernel
theorem dX7_isLess_14 : decode cX7_isLess 14 = .ok (.getfield 36, 3) := by decide +kernel
theorem dX7_isLess_17 : decode cX7_isLess 17 = .ok (.iload_n 2, 1) := by decide +kernel
theorem dX7_isLess_18 : decode cX7_isLess 18 = .ok (.laload, 1) := by decide +kernel
theorem dX7_isLess_19 : decode cX7_isLess 19 = .ok (.aload_n 0, 1) := by decide +kernel
theorem dX7_isLess_20 : decode cX7_isLess 20 = .ok (.getfield 39, 3) := by decide +kernel
theorem dX7_isLess_23 : decode cX7_isLess 23 = .ok (.iload_n 1, 1) := by decide +kernel
theorem dX7_isLess_24 : decode cX7_isLess 24 = .ok (.laload, 1) := by decide +kernel
theorem dX7_isLess_25 : decode cX7_isLess 25 = .ok (.lmul, 1) := by decide +kernel
theorem dX7_isLess_26 : decode cX7_isLess 26 = .ok (.lcmp, 1) := by decide +kernel
theorem dX7_isLess_27 : decode cX7_isLess 27 = .ok (.ifCond .ge 7, 3) := by decide +kernel
theorem dX7_isLess_30 : decode cX7_isLess 30 = .ok (.iconst 1, 1) := by decide +kernel
theorem dX7_isLess_31 : decode cX7_isLess 31 = .ok (.goto 4, 3) := by decide +kernel
theorem dX7_isLess_34 : decode cX7_isLess 34 = .ok (.iconst 0, 1) := by decide +kernel
theorem dX7_isLess_35 : decode cX7_isLess 35 = .ok (.ireturn, 1) := by decide +kernel
theorem dX7_bestOf_0 : decode cX7_bestOf 0 = .ok (.aload_n 0, 1) := by decide +kernel
theorem dX7_bestOf_1 : decode cX7_bestOf 1 = .ok (.invokevirtual 151, 3) := by decide +kernel
theorem dX7_bestOf_4 : decode cX7_bestOf 4 = .ok (.iconst (-1), 1) := by decide +kernel
theorem dX7_bestOf_5 : decode cX7_bestOf 5 = .ok (.istore_n 2, 1) := by decide +kernel
theorem dX7_bestOf_6 : decode cX7_bestOf 6 = .ok (.iconst 0, 1) := by decide +kernel
theorem dX7_bestOf_7 : decode cX7_bestOf 7 = .ok (.istore_n 3, 1) := by decide +kernel
theorem dX7_bestOf_8 : decode cX7_bestOf 8 = .ok (.iload_n 3, 1) := by decide +kernel
theorem dX7_bestOf_9 : decode cX7_bestOf 9 = .ok (.iconst 1, 1) := by decide +kernel
theorem dX7_bestOf_10 : decode cX7_bestOf 10 = .ok (.aload_n 0, 1) := by decide +kernel
theorem dX7_bestOf_11 : decode cX7_bestOf 11 = .ok (.invokevirtual 68, 3) := by decide +kernel
theorem dX7_bestOf_14 : decode cX7_bestOf 14 = .ok (.ishl, 1) := by decide +kernel
theorem dX7_bestOf_15 : decode cX7_bestOf 15 = .ok (.if_icmp .ge 58, 3) := by decide +kernel
theorem dX7_bestOf_18 : decode cX7_bestOf 18 = .ok (.iload_n 3, 1) := by decide +kernel
theorem dX7_bestOf_19 : decode cX7_bestOf 19 = .ok (.iload_n 1, 1) := by decide +kernel
theorem dX7_bestOf_20 : decode cX7_bestOf 20 = .ok (.iconst (-1), 1) := by decide +kernel
theorem dX7_bestOf_21 : decode cX7_bestOf 21 = .ok (.ixor, 1) := by decide +kernel
theorem dX7_bestOf_22 : decode cX7_bestOf 22 = .ok (.iand, 1) := by decide +kernel
theorem dX7_bestOf_23 : decode cX7_bestOf 23 = .ok (.ifCond .ne 16, 3) := by decide +kernel
theorem dX7_bestOf_26 : decode cX7_bestOf 26 = .ok (.aload_n 0, 1) := by decide +kernel
theorem dX7_bestOf_27 : decode cX7_bestOf 27 = .ok (.getfield 32, 3) := by decide +kernel
theorem dX7_bestOf_30 : decode cX7_bestOf 30 = .ok (.iload_n 3, 1) := by decide +kernel
theorem dX7_bestOf_31 : decode cX7_bestOf 31 = .ok (.baload, 1) := by decide +kernel
theorem dX7_bestOf_32 : decode cX7_bestOf 32 = .ok (.ifCond .eq 7, 3) := by decide +kernel
theorem dX7_bestOf_35 : decode cX7_bestOf 35 = .ok (.iconst 1, 1) := by decide +kernel
theorem dX7_bestOf_36 : decode cX7_bestOf 36 = .ok (.goto 4, 3) := by decide +kernel
theorem dX7_bestOf_39 : decode cX7_bestOf 39 = .ok (.iconst 0, 1) := by decide +kernel
theorem dX7_bestOf_40 : decode cX7_bestOf 40 = .ok (.istore 4, 2) := by decide +kernel
theorem dX7_bestOf_42 : decode cX7_bestOf 42 = .ok (.iload 4, 2) := by decide +kernel
theorem dX7_bestOf_44 : decode cX7_bestOf 44 = .ok (.ifCond .eq 21, 3) := by decide +kernel
theorem dX7_bestOf_47 : decode cX7_bestOf 47 = .ok (.iload_n 2, 1) := by decide +kernel
theorem dX7_bestOf_48 : decode cX7_bestOf 48 = .ok (.iconst (-1), 1) := by decide +kernel
theorem dX7_bestOf_49 : decode cX7_bestOf 49 = .ok (.if_icmp .eq 12, 3) := by decide +kernel
theorem dX7_bestOf_52 : decode cX7_bestOf 52 = .ok (.aload_n 0, 1) := by decide +kernel
theorem dX7_bestOf_53 : decode cX7_bestOf 53 = .ok (.iload_n 3, 1) := by decide +kernel
theorem dX7_bestOf_54 : decode cX7_bestOf 54 = .ok (.iload_n 2, 1) := by decide +kernel
theorem dX7_bestOf_55 : decode cX7_bestOf 55 = .ok (.invokevirtual 154, 3) := by decide +kernel
theorem dX7_bestOf_58 : decode cX7_bestOf 58 = .ok (.ifCond .eq 7, 3) := by decide +kernel
theorem dX7_bestOf_61 : decode cX7_bestOf 61 = .ok (.iload_n 3, 1) := by decide +kernel
theorem dX7_bestOf_62 : decode cX7_bestOf 62 = .ok (.goto 4, 3) := by decide +kernel
theorem dX7_bestOf_65 : decode cX7_bestOf 65 = .ok (.iload_n 2, 1) := by decide +kernel
theorem dX7_bestOf_66 : decode cX7_bestOf 66 = .ok (.istore_n 2, 1) := by decide +kernel
theorem dX7_bestOf_67 : decode cX7_bestOf 67 = .ok (.iinc 3 1, 3) := by decide +kernel
theorem dX7_bestOf_70 : decode cX7_bestOf 70 = .ok (.goto (-62), 3) := by decide +kernel
theorem dX7_bestOf_73 : decode cX7_bestOf 73 = .ok (.iload_n 2, 1) := by decide +kernel
theorem dX7_bestOf_74 : decode cX7_bestOf 74 = .ok (.ireturn, 1) := by decide +kernel
theorem dX7_volumeOf_0 : decode cX7_volumeOf 0 = .ok (.aload_n 0, 1) := by decide +kernel
theorem dX7_volumeOf_1 : decode cX7_volumeOf 1 = .ok (.iload_n 1, 1) := by decide +kernel
theorem dX7_volumeOf_2 : decode cX7_volumeOf 2 = .ok (.invokevirtual 157, 3) := by decide +kernel
theorem dX7_volumeOf_5 : decode cX7_volumeOf 5 = .ok (.istore_n 3, 1) := by decide +kernel
theorem dX7_volumeOf_6 : decode cX7_volumeOf 6 = .ok (.iload_n 3, 1) := by decide +kernel
theorem dX7_volumeOf_7 : decode cX7_volumeOf 7 = .ok (.iconst (-1), 1) := by decide +kernel
theorem dX7_volumeOf_8 : decode cX7_volumeOf 8 = .ok (.if_icmp .ne 11, 3) := by decide +kernel
theorem dX7_volumeOf_11 : decode cX7_volumeOf 11 = .ok (.bipush (-3), 2) := by decide +kernel
theorem dX7_volumeOf_13 : decode cX7_volumeOf 13 = .ok (.invokestatic 160, 3) := by decide +kernel
theorem dX7_volumeOf_16 : decode cX7_volumeOf 16 = .ok (.goto 22, 3) := by decide +kernel
theorem dX7_volumeOf_19 : decode cX7_volumeOf 19 = .ok (.iload_n 2, 1) := by decide +kernel
theorem dX7_volumeOf_20 : decode cX7_volumeOf 20 = .ok (.ifCond .ne 12, 3) := by decide +kernel
theorem dX7_volumeOf_23 : decode cX7_volumeOf 23 = .ok (.aload_n 0, 1) := by decide +kernel
theorem dX7_volumeOf_24 : decode cX7_volumeOf 24 = .ok (.getfield 36, 3) := by decide +kernel
theorem dX7_volumeOf_27 : decode cX7_volumeOf 27 = .ok (.iload_n 3, 1) := by decide +kernel
theorem dX7_volumeOf_28 : decode cX7_volumeOf 28 = .ok (.laload, 1) := by decide +kernel
theorem dX7_volumeOf_29 : decode cX7_volumeOf 29 = .ok (.goto 9, 3) := by decide +kernel
theorem dX7_volumeOf_32 : decode cX7_volumeOf 32 = .ok (.aload_n 0, 1) := by decide +kernel
theorem dX7_volumeOf_33 : decode cX7_volumeOf 33 = .ok (.getfield 39, 3) := by decide +kernel
theorem dX7_volumeOf_36 : decode cX7_volumeOf 36 = .ok (.iload_n 3, 1) := by decide +kernel
theorem dX7_volumeOf_37 : decode cX7_volumeOf 37 = .ok (.laload, 1) := by decide +kernel
theorem dX7_volumeOf_38 : decode cX7_volumeOf 38 = .ok (.lreturn, 1) := by decide +kernel
theorem dX7_least_0 : decode cX7_least 0 = .ok (.iload_n 1, 1) := by decide +kernel
theorem dX7_least_1 : decode cX7_least 1 = .ok (.iconst 0, 1) := by decide +kernel
theorem dX7_least_2 : decode cX7_least 2 = .ok (.iconst 1, 1) := by decide +kernel
theorem dX7_least_3 : decode cX7_least 3 = .ok (.invokestatic 64, 3) := by decide +kernel
theorem dX7_least_6 : decode cX7_least 6 = .ok (.ifCond .eq 15, 3) := by decide +kernel
theorem dX7_least_9 : decode cX7_least 9 = .ok (.aload_n 0, 1) := by decide +kernel
theorem dX7_least_10 : decode cX7_least 10 = .ok (.aload_n 0, 1) := by decide +kernel
theorem dX7_least_11 : decode cX7_least 11 = .ok (.getfield 76, 3) := by decide +kernel
theorem dX7_least_14 : decode cX7_least 14 = .ok (.iload_n 1, 1) := by decide +kernel
theorem dX7_least_15 : decode cX7_least 15 = .ok (.invokevirtual 164, 3) := by decide +kernel
theorem dX7_least_18 : decode cX7_least 18 = .ok (.goto 8, 3) := by decide +kernel
theorem dX7_least_21 : decode cX7_least 21 = .ok (.bipush (-2), 2) := by decide +kernel
theorem dX7_least_23 : decode cX7_least 23 = .ok (.invokestatic 160, 3) := by decide +kernel
theorem dX7_least_26 : decode cX7_least 26 = .ok (.lreturn, 1) := by decide +kernel
theorem dX7_fault_0 : decode cX7_fault 0 = .ok (.aload_n 0, 1) := by decide +kernel
theorem dX7_fault_1 : decode cX7_fault 1 = .ok (.aload_n 0, 1) := by decide +kernel
theorem dX7_fault_2 : decode cX7_fault 2 = .ok (.getfield 76, 3) := by decide +kernel
theorem dX7_fault_5 : decode cX7_fault 5 = .ok (.invokevirtual 142, 3) := by decide +kernel
theorem dX7_fault_8 : decode cX7_fault 8 = .ok (.ireturn, 1) := by decide +kernel
theorem dX7_frameNow_0 : decode cX7_frameNow 0 = .ok (.aload_n 0, 1) := by decide +kernel
theorem dX7_frameNow_1 : decode cX7_frameNow 1 = .ok (.aload_n 0, 1) := by decide +kernel
theorem dX7_frameNow_2 : decode cX7_frameNow 2 = .ok (.getfield 76, 3) := by decide +kernel
theorem dX7_frameNow_5 : decode cX7_frameNow 5 = .ok (.invokevirtual 157, 3) := by decide +kernel
theorem dX7_frameNow_8 : decode cX7_frameNow 8 = .ok (.istore_n 1, 1) := by decide +kernel
theorem dX7_frameNow_9 : decode cX7_frameNow 9 = .ok (.iload_n 1, 1) := by decide +kernel
theorem dX7_frameNow_10 : decode cX7_frameNow 10 = .ok (.iconst (-1), 1) := by decide +kernel
theorem dX7_frameNow_11 : decode cX7_frameNow 11 = .ok (.if_icmp .ne 8, 3) := by decide +kernel
theorem dX7_frameNow_14 : decode cX7_frameNow 14 = .ok (.bipush (-3), 2) := by decide +kernel
theorem dX7_frameNow_16 : decode cX7_frameNow 16 = .ok (.goto 4, 3) := by decide +kernel
theorem dX7_frameNow_19 : decode cX7_frameNow 19 = .ok (.iload_n 1, 1) := by decide +kernel
theorem dX7_frameNow_20 : decode cX7_frameNow 20 = .ok (.ireturn, 1) := by decide +kernel
theorem dX7_frame_0 : decode cX7_frame 0 = .ok (.aload_n 0, 1) := by decide +kernel
theorem dX7_frame_1 : decode cX7_frame 1 = .ok (.invokevirtual 168, 3) := by decide +kernel
theorem dX7_frame_4 : decode cX7_frame 4 = .ok (.ireturn, 1) := by decide +kernel
theorem dX7_pullOf_0 : decode cX7_pullOf 0 = .ok (.aload_n 0, 1) := by decide +kernel
theorem dX7_pullOf_1 : decode cX7_pullOf 1 = .ok (.aload_n 0, 1) := by decide +kernel
theorem dX7_pullOf_2 : decode cX7_pullOf 2 = .ok (.getfield 76, 3) := by decide +kernel
theorem dX7_pullOf_5 : decode cX7_pullOf 5 = .ok (.invokevirtual 157, 3) := by decide +kernel
theorem dX7_pullOf_8 : decode cX7_pullOf 8 = .ok (.istore_n 3, 1) := by decide +kernel
theorem dX7_pullOf_9 : decode cX7_pullOf 9 = .ok (.iload_n 3, 1) := by decide +kernel
theorem dX7_pullOf_10 : decode cX7_pullOf 10 = .ok (.iconst (-1), 1) := by decide +kernel
theorem dX7_pullOf_11 : decode cX7_pullOf 11 = .ok (.if_icmp .ne 9, 3) := by decide +kernel
theorem dX7_pullOf_14 : decode cX7_pullOf 14 = .ok (.bipush (-3), 2) := by decide +kernel
theorem dX7_pullOf_16 : decode cX7_pullOf 16 = .ok (.invokestatic 160, 3) := by decide +kernel
theorem dX7_pullOf_19 : decode cX7_pullOf 19 = .ok (.lreturn, 1) := by decide +kernel
theorem dX7_pullOf_20 : decode cX7_pullOf 20 = .ok (.iload_n 3, 1) := by decide +kernel
theorem dX7_pullOf_21 : decode cX7_pullOf 21 = .ok (.iload_n 1, 1) := by decide +kernel
theorem dX7_pullOf_22 : decode cX7_pullOf 22 = .ok (.ishr, 1) := by decide +kernel
theorem dX7_pullOf_23 : decode cX7_pullOf 23 = .ok (.iconst 1, 1) := by decide +kernel
theorem dX7_pullOf_24 : decode cX7_pullOf 24 = .ok (.iand, 1) := by decide +kernel
theorem dX7_pullOf_25 : decode cX7_pullOf 25 = .ok (.ifCond .ne 6, 3) := by decide +kernel
theorem dX7_pullOf_28 : decode cX7_pullOf 28 = .ok (.iload_n 2, 1) := by decide +kernel
theorem dX7_pullOf_29 : decode cX7_pullOf 29 = .ok (.i2l, 1) := by decide +kernel
theorem dX7_pullOf_30 : decode cX7_pullOf 30 = .ok (.lreturn, 1) := by decide +kernel
theorem dX7_pullOf_31 : decode cX7_pullOf 31 = .ok (.aload_n 0, 1) := by decide +kernel
theorem dX7_pullOf_32 : decode cX7_pullOf 32 = .ok (.iload_n 3, 1) := by decide +kernel
theorem dX7_pullOf_33 : decode cX7_pullOf 33 = .ok (.invokevirtual 142, 3) := by decide +kernel
theorem dX7_pullOf_36 : decode cX7_pullOf 36 = .ok (.pop, 1) := by decide +kernel
theorem dX7_pullOf_37 : decode cX7_pullOf 37 = .ok (.lconst 0, 1) := by decide +kernel
theorem dX7_pullOf_38 : decode cX7_pullOf 38 = .ok (.lstore 4, 2) := by decide +kernel
theorem dX7_pullOf_40 : decode cX7_pullOf 40 = .ok (.iconst 0, 1) := by decide +kernel
theorem dX7_pullOf_41 : decode cX7_pullOf 41 = .ok (.istore 6, 2) := by decide +kernel
theorem dX7_pullOf_43 : decode cX7_pullOf 43 = .ok (.iload 6, 2) := by decide +kernel
theorem dX7_pullOf_45 : decode cX7_pullOf 45 = .ok (.aload_n 0, 1) := by decide +kernel
theorem dX7_pullOf_46 : decode cX7_pullOf 46 = .ok (.getfield 121, 3) := by decide +kernel
theorem dX7_pullOf_49 : decode cX7_pullOf 49 = .ok (.if_icmp .ge 56, 3) := by decide +kernel
theorem dX7_pullOf_52 : decode cX7_pullOf 52 = .ok (.aload_n 0, 1) := by decide +kernel
theorem dX7_pullOf_53 : decode cX7_pullOf 53 = .ok (.getfield 29, 3) := by decide +kernel
theorem dX7_pullOf_56 : decode cX7_pullOf 56 = .ok (.iload 6, 2) := by decide +kernel
theorem dX7_pullOf_58 : decode cX7_pullOf 58 = .ok (.iaload, 1) := by decide +kernel
theorem dX7_pullOf_59 : decode cX7_pullOf 59 = .ok (.iload_n 1, 1) := by decide +kernel
theorem dX7_pullOf_60 : decode cX7_pullOf 60 = .ok (.if_icmp .ne 35, 3) := by decide +kernel
theorem dX7_pullOf_63 : decode cX7_pullOf 63 = .ok (.aload_n 0, 1) := by decide +kernel
theorem dX7_pullOf_64 : decode cX7_pullOf 64 = .ok (.getfield 25, 3) := by decide +kernel
theorem dX7_pullOf_67 : decode cX7_pullOf 67 = .ok (.bipush 11, 2) := by decide +kernel
theorem dX7_pullOf_69 : decode cX7_pullOf 69 = .ok (.iload 6, 2) := by decide +kernel
theorem dX7_pullOf_71 : decode cX7_pullOf 71 = .ok (.imul, 1) := by decide +kernel
theorem dX7_pullOf_72 : decode cX7_pullOf 72 = .ok (.bipush 10, 2) := by decide +kernel
theorem dX7_pullOf_74 : decode cX7_pullOf 74 = .ok (.iadd, 1) := by decide +kernel
theorem dX7_pullOf_75 : decode cX7_pullOf 75 = .ok (.laload, 1) := by decide +kernel
theorem dX7_pullOf_76 : decode cX7_pullOf 76 = .ok (.aload_n 0, 1) := by decide +kernel
theorem dX7_pullOf_77 : decode cX7_pullOf 77 = .ok (.getfield 25, 3) := by decide +kernel
theorem dX7_pullOf_80 : decode cX7_pullOf 80 = .ok (.bipush 11, 2) := by decide +kernel
theorem dX7_pullOf_82 : decode cX7_pullOf 82 = .ok (.iload 6, 2) := by decide +kernel
theorem dX7_pullOf_84 : decode cX7_pullOf 84 = .ok (.imul, 1) := by decide +kernel
theorem dX7_pullOf_85 : decode cX7_pullOf 85 = .ok (.iload_n 1, 1) := by decide +kernel
theorem dX7_pullOf_86 : decode cX7_pullOf 86 = .ok (.iadd, 1) := by decide +kernel
theorem dX7_pullOf_87 : decode cX7_pullOf 87 = .ok (.laload, 1) := by decide +kernel
theorem dX7_pullOf_88 : decode cX7_pullOf 88 = .ok (.iload_n 2, 1) := by decide +kernel
theorem dX7_pullOf_89 : decode cX7_pullOf 89 = .ok (.invokestatic 138, 3) := by decide +kernel
theorem dX7_pullOf_92 : decode cX7_pullOf 92 = .ok (.goto 5, 3) := by decide +kernel
theorem dX7_pullOf_95 : decode cX7_pullOf 95 = .ok (.lload 4, 2) := by decide +kernel
theorem dX7_pullOf_97 : decode cX7_pullOf 97 = .ok (.lstore 4, 2) := by decide +kernel
theorem dX7_pullOf_99 : decode cX7_pullOf 99 = .ok (.iinc 6 1, 3) := by decide +kernel
theorem dX7_pullOf_102 : decode cX7_pullOf 102 = .ok (.goto (-59), 3) := by decide +kernel
theorem dX7_pullOf_105 : decode cX7_pullOf 105 = .ok (.lload 4, 2) := by decide +kernel
theorem dX7_pullOf_107 : decode cX7_pullOf 107 = .ok (.lreturn, 1) := by decide +kernel
theorem dX7_pull_0 : decode cX7_pull 0 = .ok (.aload_n 0, 1) := by decide +kernel
theorem dX7_pull_1 : decode cX7_pull 1 = .ok (.iload_n 1, 1) := by decide +kernel
theorem dX7_pull_2 : decode cX7_pull 2 = .ok (.invokevirtual 72, 3) := by decide +kernel
theorem dX7_pull_5 : decode cX7_pull 5 = .ok (.ifCond .eq 21, 3) := by decide +kernel
theorem dX7_pull_8 : decode cX7_pull 8 = .ok (.iload_n 2, 1) := by decide +kernel
theorem dX7_pull_9 : decode cX7_pull 9 = .ok (.iconst 0, 1) := by decide +kernel
theorem dX7_pull_10 : decode cX7_pull 10 = .ok (.iconst 1, 1) := by decide +kernel
theorem dX7_pull_11 : decode cX7_pull 11 = .ok (.invokestatic 64, 3) := by decide +kernel
theorem dX7_pull_14 : decode cX7_pull 14 = .ok (.ifCond .eq 12, 3) := by decide +kernel
theorem dX7_pull_17 : decode cX7_pull 17 = .ok (.aload_n 0, 1) := by decide +kernel
theorem dX7_pull_18 : decode cX7_pull 18 = .ok (.iload_n 1, 1) := by decide +kernel
theorem dX7_pull_19 : decode cX7_pull 19 = .ok (.iload_n 2, 1) := by decide +kernel
theorem dX7_pull_20 : decode cX7_pull 20 = .ok (.invokevirtual 171, 3) := by decide +kernel
theorem dX7_pull_23 : decode cX7_pull 23 = .ok (.goto 8, 3) := by decide +kernel
theorem dX7_pull_26 : decode cX7_pull 26 = .ok (.bipush (-2), 2) := by decide +kernel
theorem dX7_pull_28 : decode cX7_pull 28 = .ok (.invokestatic 160, 3) := by decide +kernel
theorem dX7_pull_31 : decode cX7_pull 31 = .ok (.lreturn, 1) := by decide +kernel
theorem dX7_without_0 : decode cX7_without 0 = .ok (.aload_n 0, 1) := by decide +kernel
theorem dX7_without_1 : decode cX7_without 1 = .ok (.iload_n 1, 1) := by decide +kernel
theorem dX7_without_2 : decode cX7_without 2 = .ok (.invokevirtual 174, 3) := by decide +kernel
theorem dX7_without_5 : decode cX7_without 5 = .ok (.ifCond .eq 30, 3) := by decide +kernel
theorem dX7_without_8 : decode cX7_without 8 = .ok (.iload_n 2, 1) := by decide +kernel
theorem dX7_without_9 : decode cX7_without 9 = .ok (.iconst 0, 1) := by decide +kernel
theorem dX7_without_10 : decode cX7_without 10 = .ok (.iconst 1, 1) := by decide +kernel
theorem dX7_without_11 : decode cX7_without 11 = .ok (.invokestatic 64, 3) := by decide +kernel
theorem dX7_without_14 : decode cX7_without 14 = .ok (.ifCond .eq 21, 3) := by decide +kernel
theorem dX7_without_17 : decode cX7_without 17 = .ok (.aload_n 0, 1) := by decide +kernel
theorem dX7_without_18 : decode cX7_without 18 = .ok (.aload_n 0, 1) := by decide +kernel
theorem dX7_without_19 : decode cX7_without 19 = .ok (.getfield 76, 3) := by decide +kernel
theorem dX7_without_22 : decode cX7_without 22 = .ok (.iconst 1, 1) := by decide +kernel
theorem dX7_without_23 : decode cX7_without 23 = .ok (.iload_n 1, 1) := by decide +kernel
theorem dX7_without_24 : decode cX7_without 24 = .ok (.ishl, 1) := by decide +kernel
theorem dX7_without_25 : decode cX7_without 25 = .ok (.iconst (-1), 1) := by decide +kernel
theorem dX7_without_26 : decode cX7_without 26 = .ok (.ixor, 1) := by decide +kernel
theorem dX7_without_27 : decode cX7_without 27 = .ok (.iand, 1) := by decide +kernel
theorem dX7_without_28 : decode cX7_without 28 = .ok (.iload_n 2, 1) := by decide +kernel
theorem dX7_without_29 : decode cX7_without 29 = .ok (.invokevirtual 164, 3) := by decide +kernel
theorem dX7_without_32 : decode cX7_without 32 = .ok (.goto 8, 3) := by decide +kernel
theorem dX7_without_35 : decode cX7_without 35 = .ok (.bipush (-2), 2) := by decide +kernel
theorem dX7_without_37 : decode cX7_without 37 = .ok (.invokestatic 160, 3) := by decide +kernel
theorem dX7_without_40 : decode cX7_without 40 = .ok (.lreturn, 1) := by decide +kernel
theorem dX7_why_0 : decode cX7_why 0 = .ok (.aload_n 0, 1) := by decide +kernel
theorem dX7_why_1 : decode cX7_why 1 = .ok (.iload_n 1, 1) := by decide +kernel
theorem dX7_why_2 : decode cX7_why 2 = .ok (.invokevirtual 174, 3) := by decide +kernel
theorem dX7_why_5 : decode cX7_why 5 = .ok (.ifCond .eq 20, 3) := by decide +kernel
theorem dX7_why_8 : decode cX7_why 8 = .ok (.aload_n 0, 1) := by decide +kernel
theorem dX7_why_9 : decode cX7_why 9 = .ok (.aload_n 0, 1) := by decide +kernel
theorem dX7_why_10 : decode cX7_why 10 = .ok (.getfield 76, 3) := by decide +kernel
theorem dX7_why_13 : decode cX7_why 13 = .ok (.iconst 1, 1) := by decide +kernel
theorem dX7_why_14 : decode cX7_why 14 = .ok (.iload_n 1, 1) := by decide +kernel
theorem dX7_why_15 : decode cX7_why 15 = .ok (.ishl, 1) := by decide +kernel
theorem dX7_why_16 : decode cX7_why 16 = .ok (.iconst (-1), 1) := by decide +kernel
theorem dX7_why_17 : decode cX7_why 17 = .ok (.ixor, 1) := by decide +kernel
theorem dX7_why_18 : decode cX7_why 18 = .ok (.iand, 1) := by decide +kernel
theorem dX7_why_19 : decode cX7_why 19 = .ok (.invokevirtual 142, 3) := by decide +kernel
theorem dX7_why_22 : decode cX7_why 22 = .ok (.goto 5, 3) := by decide +kernel
theorem dX7_why_25 : decode cX7_why 25 = .ok (.bipush (-2), 2) := by decide +kernel
theorem dX7_why_27 : decode cX7_why 27 = .ok (.ireturn, 1) := by decide +kernel
theorem dX7_isNeeded_0 : decode cX7_isNeeded 0 = .ok (.aload_n 0, 1) := by decide +kernel
theorem dX7_isNeeded_1 : decode cX7_isNeeded 1 = .ok (.aload_n 0, 1) := by decide +kernel
theorem dX7_isNeeded_2 : decode cX7_isNeeded 2 = .ok (.getfield 76, 3) := by decide +kernel
theorem dX7_isNeeded_5 : decode cX7_isNeeded 5 = .ok (.iconst 1, 1) := by decide +kernel
theorem dX7_isNeeded_6 : decode cX7_isNeeded 6 = .ok (.iload_n 1, 1) := by decide +kernel
theorem dX7_isNeeded_7 : decode cX7_isNeeded 7 = .ok (.ishl, 1) := by decide +kernel
theorem dX7_isNeeded_8 : decode cX7_isNeeded 8 = .ok (.iconst (-1), 1) := by decide +kernel
theorem dX7_isNeeded_9 : decode cX7_isNeeded 9 = .ok (.ixor, 1) := by decide +kernel
