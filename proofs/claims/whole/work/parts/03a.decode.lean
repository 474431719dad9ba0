theorem dX0_init_0 : decode cX0_init 0 = .ok (.aload_n 0, 1) := by decide +kernel
theorem dX0_init_1 : decode cX0_init 1 = .ok (.invokespecial 3, 3) := by decide +kernel
theorem dX0_init_4 : decode cX0_init 4 = .ok (.aload_n 0, 1) := by decide +kernel
theorem dX0_init_5 : decode cX0_init 5 = .ok (.sipush 252, 3) := by decide +kernel
theorem dX0_init_8 : decode cX0_init 8 = .ok (.newarray .int, 2) := by decide +kernel
theorem dX0_init_10 : decode cX0_init 10 = .ok (.putfield 11, 3) := by decide +kernel
theorem dX0_init_13 : decode cX0_init 13 = .ok (.aload_n 0, 1) := by decide +kernel
theorem dX0_init_14 : decode cX0_init 14 = .ok (.sipush 252, 3) := by decide +kernel
theorem dX0_init_17 : decode cX0_init 17 = .ok (.newarray .long, 2) := by decide +kernel
theorem dX0_init_19 : decode cX0_init 19 = .ok (.putfield 15, 3) := by decide +kernel
theorem dX0_init_22 : decode cX0_init 22 = .ok (.aload_n 0, 1) := by decide +kernel
theorem dX0_init_23 : decode cX0_init 23 = .ok (.sipush 252, 3) := by decide +kernel
theorem dX0_init_26 : decode cX0_init 26 = .ok (.newarray .long, 2) := by decide +kernel
theorem dX0_init_28 : decode cX0_init 28 = .ok (.putfield 19, 3) := by decide +kernel
theorem dX0_init_31 : decode cX0_init 31 = .ok (.aload_n 0, 1) := by decide +kernel
theorem dX0_init_32 : decode cX0_init 32 = .ok (.bipush 10, 2) := by decide +kernel
theorem dX0_init_34 : decode cX0_init 34 = .ok (.newarray .long, 2) := by decide +kernel
theorem dX0_init_36 : decode cX0_init 36 = .ok (.putfield 22, 3) := by decide +kernel
theorem dX0_init_39 : decode cX0_init 39 = .ok (.aload_n 0, 1) := by decide +kernel
theorem dX0_init_40 : decode cX0_init 40 = .ok (.lconst 1, 1) := by decide +kernel
theorem dX0_init_41 : decode cX0_init 41 = .ok (.putfield 25, 3) := by decide +kernel
theorem dX0_init_44 : decode cX0_init 44 = .ok (.aload_n 0, 1) := by decide +kernel
theorem dX0_init_45 : decode cX0_init 45 = .ok (.bipush 8, 2) := by decide +kernel
theorem dX0_init_47 : decode cX0_init 47 = .ok (.newarray .int, 2) := by decide +kernel
theorem dX0_init_49 : decode cX0_init 49 = .ok (.putfield 31, 3) := by decide +kernel
theorem dX0_init_52 : decode cX0_init 52 = .ok (.aload_n 0, 1) := by decide +kernel
theorem dX0_init_53 : decode cX0_init 53 = .ok (.iconst (-1), 1) := by decide +kernel
theorem dX0_init_54 : decode cX0_init 54 = .ok (.putfield 34, 3) := by decide +kernel
theorem dX0_init_57 : decode cX0_init 57 = .ok (.aload_n 0, 1) := by decide +kernel
theorem dX0_init_58 : decode cX0_init 58 = .ok (.iconst (-1), 1) := by decide +kernel
theorem dX0_init_59 : decode cX0_init 59 = .ok (.putfield 38, 3) := by decide +kernel
theorem dX0_init_62 : decode cX0_init 62 = .ok (.aload_n 0, 1) := by decide +kernel
theorem dX0_init_63 : decode cX0_init 63 = .ok (.iconst (-1), 1) := by decide +kernel
theorem dX0_init_64 : decode cX0_init 64 = .ok (.putfield 41, 3) := by decide +kernel
theorem dX0_init_67 : decode cX0_init 67 = .ok (.aload_n 0, 1) := by decide +kernel
theorem dX0_init_68 : decode cX0_init 68 = .ok (.aload_n 1, 1) := by decide +kernel
theorem dX0_init_69 : decode cX0_init 69 = .ok (.putfield 44, 3) := by decide +kernel
theorem dX0_init_72 : decode cX0_init 72 = .ok (.return_, 1) := by decide +kernel
theorem dX0_gather_0 : decode cX0_gather 0 = .ok (.aload_n 0, 1) := by decide +kernel
theorem dX0_gather_1 : decode cX0_gather 1 = .ok (.iconst 0, 1) := by decide +kernel
theorem dX0_gather_2 : decode cX0_gather 2 = .ok (.putfield 48, 3) := by decide +kernel
theorem dX0_gather_5 : decode cX0_gather 5 = .ok (.aload_n 0, 1) := by decide +kernel
theorem dX0_gather_6 : decode cX0_gather 6 = .ok (.iconst (-1), 1) := by decide +kernel
theorem dX0_gather_7 : decode cX0_gather 7 = .ok (.putfield 34, 3) := by decide +kernel
theorem dX0_gather_10 : decode cX0_gather 10 = .ok (.aload_n 0, 1) := by decide +kernel
theorem dX0_gather_11 : decode cX0_gather 11 = .ok (.iconst (-1), 1) := by decide +kernel
theorem dX0_gather_12 : decode cX0_gather 12 = .ok (.putfield 41, 3) := by decide +kernel
theorem dX0_gather_15 : decode cX0_gather 15 = .ok (.aload_n 0, 1) := by decide +kernel
theorem dX0_gather_16 : decode cX0_gather 16 = .ok (.getfield 44, 3) := by decide +kernel
theorem dX0_gather_19 : decode cX0_gather 19 = .ok (.aload_n 1, 1) := by decide +kernel
theorem dX0_gather_20 : decode cX0_gather 20 = .ok (.iload_n 2, 1) := by decide +kernel
theorem dX0_gather_21 : decode cX0_gather 21 = .ok (.invokevirtual 51, 3) := by decide +kernel
theorem dX0_gather_24 : decode cX0_gather 24 = .ok (.aload_n 0, 1) := by decide +kernel
theorem dX0_gather_25 : decode cX0_gather 25 = .ok (.getfield 44, 3) := by decide +kernel
theorem dX0_gather_28 : decode cX0_gather 28 = .ok (.iconst 0, 1) := by decide +kernel
theorem dX0_gather_29 : decode cX0_gather 29 = .ok (.invokevirtual 55, 3) := by decide +kernel
theorem dX0_gather_32 : decode cX0_gather 32 = .ok (.ifCond .eq 10, 3) := by decide +kernel
theorem dX0_gather_35 : decode cX0_gather 35 = .ok (.aload_n 0, 1) := by decide +kernel
theorem dX0_gather_36 : decode cX0_gather 36 = .ok (.aload_n 1, 1) := by decide +kernel
theorem dX0_gather_37 : decode cX0_gather 37 = .ok (.iconst 0, 1) := by decide +kernel
theorem dX0_gather_38 : decode cX0_gather 38 = .ok (.invokevirtual 59, 3) := by decide +kernel
theorem dX0_gather_41 : decode cX0_gather 41 = .ok (.return_, 1) := by decide +kernel
theorem dX0_gather_42 : decode cX0_gather 42 = .ok (.iconst 0, 1) := by decide +kernel
theorem dX0_gather_43 : decode cX0_gather 43 = .ok (.istore_n 3, 1) := by decide +kernel
theorem dX0_gather_44 : decode cX0_gather 44 = .ok (.aload_n 0, 1) := by decide +kernel
theorem dX0_gather_45 : decode cX0_gather 45 = .ok (.getfield 31, 3) := by decide +kernel
theorem dX0_gather_48 : decode cX0_gather 48 = .ok (.iconst 0, 1) := by decide +kernel
theorem dX0_gather_49 : decode cX0_gather 49 = .ok (.iconst 0, 1) := by decide +kernel
theorem dX0_gather_50 : decode cX0_gather 50 = .ok (.iastore, 1) := by decide +kernel
theorem dX0_gather_51 : decode cX0_gather 51 = .ok (.iconst 0, 1) := by decide +kernel
theorem dX0_gather_52 : decode cX0_gather 52 = .ok (.istore 4, 2) := by decide +kernel
theorem dX0_gather_54 : decode cX0_gather 54 = .ok (.iload 4, 2) := by decide +kernel
theorem dX0_gather_56 : decode cX0_gather 56 = .ok (.sipush 2048, 3) := by decide +kernel
theorem dX0_gather_59 : decode cX0_gather 59 = .ok (.if_icmp .ge 102, 3) := by decide +kernel
theorem dX0_gather_62 : decode cX0_gather 62 = .ok (.iload_n 3, 1) := by decide +kernel
theorem dX0_gather_63 : decode cX0_gather 63 = .ok (.ifCond .lt 98, 3) := by decide +kernel
theorem dX0_gather_66 : decode cX0_gather 66 = .ok (.aload_n 0, 1) := by decide +kernel
theorem dX0_gather_67 : decode cX0_gather 67 = .ok (.getfield 31, 3) := by decide +kernel
theorem dX0_gather_70 : decode cX0_gather 70 = .ok (.iload_n 3, 1) := by decide +kernel
theorem dX0_gather_71 : decode cX0_gather 71 = .ok (.iaload, 1) := by decide +kernel
theorem dX0_gather_72 : decode cX0_gather 72 = .ok (.istore 5, 2) := by decide +kernel
theorem dX0_gather_74 : decode cX0_gather 74 = .ok (.iload 5, 2) := by decide +kernel
theorem dX0_gather_76 : decode cX0_gather 76 = .ok (.aload_n 0, 1) := by decide +kernel
theorem dX0_gather_77 : decode cX0_gather 77 = .ok (.getfield 44, 3) := by decide +kernel
theorem dX0_gather_80 : decode cX0_gather 80 = .ok (.getfield 62, 3) := by decide +kernel
theorem dX0_gather_83 : decode cX0_gather 83 = .ok (.if_icmp .lt 9, 3) := by decide +kernel
theorem dX0_gather_86 : decode cX0_gather 86 = .ok (.iinc 3 (-1), 3) := by decide +kernel
theorem dX0_gather_89 : decode cX0_gather 89 = .ok (.goto 66, 3) := by decide +kernel
theorem dX0_gather_92 : decode cX0_gather 92 = .ok (.aload_n 0, 1) := by decide +kernel
theorem dX0_gather_93 : decode cX0_gather 93 = .ok (.getfield 31, 3) := by decide +kernel
theorem dX0_gather_96 : decode cX0_gather 96 = .ok (.iload_n 3, 1) := by decide +kernel
theorem dX0_gather_97 : decode cX0_gather 97 = .ok (.iload 5, 2) := by decide +kernel
theorem dX0_gather_99 : decode cX0_gather 99 = .ok (.iconst 1, 1) := by decide +kernel
theorem dX0_gather_100 : decode cX0_gather 100 = .ok (.iadd, 1) := by decide +kernel
theorem dX0_gather_101 : decode cX0_gather 101 = .ok (.iastore, 1) := by decide +kernel
theorem dX0_gather_102 : decode cX0_gather 102 = .ok (.aload_n 0, 1) := by decide +kernel
theorem dX0_gather_103 : decode cX0_gather 103 = .ok (.getfield 44, 3) := by decide +kernel
theorem dX0_gather_106 : decode cX0_gather 106 = .ok (.iload_n 3, 1) := by decide +kernel
theorem dX0_gather_107 : decode cX0_gather 107 = .ok (.iload 5, 2) := by decide +kernel
theorem dX0_gather_109 : decode cX0_gather 109 = .ok (.invokevirtual 65, 3) := by decide +kernel
theorem dX0_gather_112 : decode cX0_gather 112 = .ok (.ifCond .ne 6, 3) := by decide +kernel
theorem dX0_gather_115 : decode cX0_gather 115 = .ok (.goto 40, 3) := by decide +kernel
theorem dX0_gather_118 : decode cX0_gather 118 = .ok (.aload_n 0, 1) := by decide +kernel
theorem dX0_gather_119 : decode cX0_gather 119 = .ok (.getfield 44, 3) := by decide +kernel
theorem dX0_gather_122 : decode cX0_gather 122 = .ok (.iload_n 3, 1) := by decide +kernel
theorem dX0_gather_123 : decode cX0_gather 123 = .ok (.iconst 1, 1) := by decide +kernel
theorem dX0_gather_124 : decode cX0_gather 124 = .ok (.iadd, 1) := by decide +kernel
theorem dX0_gather_125 : decode cX0_gather 125 = .ok (.invokevirtual 55, 3) := by decide +kernel
theorem dX0_gather_128 : decode cX0_gather 128 = .ok (.ifCond .eq 14, 3) := by decide +kernel
theorem dX0_gather_131 : decode cX0_gather 131 = .ok (.aload_n 0, 1) := by decide +kernel
theorem dX0_gather_132 : decode cX0_gather 132 = .ok (.aload_n 1, 1) := by decide +kernel
theorem dX0_gather_133 : decode cX0_gather 133 = .ok (.iload_n 3, 1) := by decide +kernel
theorem dX0_gather_134 : decode cX0_gather 134 = .ok (.iconst 1, 1) := by decide +kernel
theorem dX0_gather_135 : decode cX0_gather 135 = .ok (.iadd, 1) := by decide +kernel
theorem dX0_gather_136 : decode cX0_gather 136 = .ok (.invokevirtual 59, 3) := by decide +kernel
theorem dX0_gather_139 : decode cX0_gather 139 = .ok (.goto 16, 3) := by decide +kernel
theorem dX0_gather_142 : decode cX0_gather 142 = .ok (.iinc 3 1, 3) := by decide +kernel
theorem dX0_gather_145 : decode cX0_gather 145 = .ok (.aload_n 0, 1) := by decide +kernel
theorem dX0_gather_146 : decode cX0_gather 146 = .ok (.getfield 31, 3) := by decide +kernel
theorem dX0_gather_149 : decode cX0_gather 149 = .ok (.iload_n 3, 1) := by decide +kernel
theorem dX0_gather_150 : decode cX0_gather 150 = .ok (.iload 5, 2) := by decide +kernel
theorem dX0_gather_152 : decode cX0_gather 152 = .ok (.iconst 1, 1) := by decide +kernel
theorem dX0_gather_153 : decode cX0_gather 153 = .ok (.iadd, 1) := by decide +kernel
theorem dX0_gather_154 : decode cX0_gather 154 = .ok (.iastore, 1) := by decide +kernel
theorem dX0_gather_155 : decode cX0_gather 155 = .ok (.iinc 4 1, 3) := by decide +kernel
theorem dX0_gather_158 : decode cX0_gather 158 = .ok (.goto (-104), 3) := by decide +kernel
theorem dX0_gather_161 : decode cX0_gather 161 = .ok (.return_, 1) := by decide +kernel
theorem dX0_keep_0 : decode cX0_keep 0 = .ok (.aload_n 0, 1) := by decide +kernel
theorem dX0_keep_1 : decode cX0_keep 1 = .ok (.getfield 44, 3) := by decide +kernel
theorem dX0_keep_4 : decode cX0_keep 4 = .ok (.iload_n 2, 1) := by decide +kernel
theorem dX0_keep_5 : decode cX0_keep 5 = .ok (.invokevirtual 69, 3) := by decide +kernel
theorem dX0_keep_8 : decode cX0_keep 8 = .ok (.iconst 0, 1) := by decide +kernel
theorem dX0_keep_9 : decode cX0_keep 9 = .ok (.istore_n 3, 1) := by decide +kernel
theorem dX0_keep_10 : decode cX0_keep 10 = .ok (.lconst 0, 1) := by decide +kernel
theorem dX0_keep_11 : decode cX0_keep 11 = .ok (.lstore 4, 2) := by decide +kernel
theorem dX0_keep_13 : decode cX0_keep 13 = .ok (.iconst 0, 1) := by decide +kernel
theorem dX0_keep_14 : decode cX0_keep 14 = .ok (.istore 6, 2) := by decide +kernel
theorem dX0_keep_16 : decode cX0_keep 16 = .ok (.iload 6, 2) := by decide +kernel
theorem dX0_keep_18 : decode cX0_keep 18 = .ok (.iload_n 2, 1) := by decide +kernel
theorem dX0_keep_19 : decode cX0_keep 19 = .ok (.if_icmp .ge 71, 3) := by decide +kernel
theorem dX0_keep_22 : decode cX0_keep 22 = .ok (.aload_n 0, 1) := by decide +kernel
theorem dX0_keep_23 : decode cX0_keep 23 = .ok (.getfield 44, 3) := by decide +kernel
theorem dX0_keep_26 : decode cX0_keep 26 = .ok (.getfield 73, 3) := by decide +kernel
theorem dX0_keep_29 : decode cX0_keep 29 = .ok (.iload 6, 2) := by decide +kernel
theorem dX0_keep_31 : decode cX0_keep 31 = .ok (.laload, 1) := by decide +kernel
theorem dX0_keep_32 : decode cX0_keep 32 = .ok (.lconst 0, 1) := by decide +kernel
theorem dX0_keep_33 : decode cX0_keep 33 = .ok (.lcmp, 1) := by decide +kernel
theorem dX0_keep_34 : decode cX0_keep 34 = .ok (.ifCond .ne 4, 3) := by decide +kernel
theorem dX0_keep_37 : decode cX0_keep 37 = .ok (.return_, 1) := by decide +kernel
theorem dX0_keep_38 : decode cX0_keep 38 = .ok (.aload_n 0, 1) := by decide +kernel
theorem dX0_keep_39 : decode cX0_keep 39 = .ok (.getfield 44, 3) := by decide +kernel
theorem dX0_keep_42 : decode cX0_keep 42 = .ok (.getfield 76, 3) := by decide +kernel
theorem dX0_keep_45 : decode cX0_keep 45 = .ok (.iload 6, 2) := by decide +kernel
theorem dX0_keep_47 : decode cX0_keep 47 = .ok (.iaload, 1) := by decide +kernel
theorem dX0_keep_48 : decode cX0_keep 48 = .ok (.istore 7, 2) := by decide +kernel
theorem dX0_keep_50 : decode cX0_keep 50 = .ok (.iload_n 3, 1) := by decide +kernel
theorem dX0_keep_51 : decode cX0_keep 51 = .ok (.iconst 1, 1) := by decide +kernel
theorem dX0_keep_52 : decode cX0_keep 52 = .ok (.iload 7, 2) := by decide +kernel
theorem dX0_keep_54 : decode cX0_keep 54 = .ok (.ishl, 1) := by decide +kernel
theorem dX0_keep_55 : decode cX0_keep 55 = .ok (.ior, 1) := by decide +kernel
theorem dX0_keep_56 : decode cX0_keep 56 = .ok (.istore_n 3, 1) := by decide +kernel
theorem dX0_keep_57 : decode cX0_keep 57 = .ok (.lload 4, 2) := by decide +kernel
theorem dX0_keep_59 : decode cX0_keep 59 = .ok (.aload_n 1, 1) := by decide +kernel
theorem dX0_keep_60 : decode cX0_keep 60 = .ok (.getfield 79, 3) := by decide +kernel
theorem dX0_keep_63 : decode cX0_keep 63 = .ok (.iload 7, 2) := by decide +kernel
theorem dX0_keep_65 : decode cX0_keep 65 = .ok (.iaload, 1) := by decide +kernel
theorem dX0_keep_66 : decode cX0_keep 66 = .ok (.i2l, 1) := by decide +kernel
theorem dX0_keep_67 : decode cX0_keep 67 = .ok (.aload_n 0, 1) := by decide +kernel
theorem dX0_keep_68 : decode cX0_keep 68 = .ok (.getfield 44, 3) := by decide +kernel
theorem dX0_keep_71 : decode cX0_keep 71 = .ok (.getfield 73, 3) := by decide +kernel
theorem dX0_keep_74 : decode cX0_keep 74 = .ok (.iload 6, 2) := by decide +kernel
theorem dX0_keep_76 : decode cX0_keep 76 = .ok (.laload, 1) := by decide +kernel
theorem dX0_keep_77 : decode cX0_keep 77 = .ok (.invokestatic 84, 3) := by decide +kernel
theorem dX0_keep_80 : decode cX0_keep 80 = .ok (.lmul, 1) := by decide +kernel
theorem dX0_keep_81 : decode cX0_keep 81 = .ok (.ladd, 1) := by decide +kernel
theorem dX0_keep_82 : decode cX0_keep 82 = .ok (.lstore 4, 2) := by decide +kernel
theorem dX0_keep_84 : decode cX0_keep 84 = .ok (.iinc 6 1, 3) := by decide +kernel
theorem dX0_keep_87 : decode cX0_keep 87 = .ok (.goto (-71), 3) := by decide +kernel
theorem dX0_keep_90 : decode cX0_keep 90 = .ok (.aload_n 0, 1) := by decide +kernel
theorem dX0_keep_91 : decode cX0_keep 91 = .ok (.getfield 48, 3) := by decide +kernel
theorem dX0_keep_94 : decode cX0_keep 94 = .ok (.sipush 252, 3) := by decide +kernel
theorem dX0_keep_97 : decode cX0_keep 97 = .ok (.if_icmp .ge 55, 3) := by decide +kernel
theorem dX0_keep_100 : decode cX0_keep 100 = .ok (.aload_n 0, 1) := by decide +kernel
theorem dX0_keep_101 : decode cX0_keep 101 = .ok (.getfield 11, 3) := by decide +kernel
theorem dX0_keep_104 : decode cX0_keep 104 = .ok (.aload_n 0, 1) := by decide +kernel
theorem dX0_keep_105 : decode cX0_keep 105 = .ok (.getfield 48, 3) := by decide +kernel
theorem dX0_keep_108 : decode cX0_keep 108 = .ok (.iload_n 3, 1) := by decide +kernel
theorem dX0_keep_109 : decode cX0_keep 109 = .ok (.iastore, 1) := by decide +kernel
theorem dX0_keep_110 : decode cX0_keep 110 = .ok (.aload_n 0, 1) := by decide +kernel
theorem dX0_keep_111 : decode cX0_keep 111 = .ok (.getfield 15, 3) := by decide +kernel
theorem dX0_keep_114 : decode cX0_keep 114 = .ok (.aload_n 0, 1) := by decide +kernel
theorem dX0_keep_115 : decode cX0_keep 115 = .ok (.getfield 48, 3) := by decide +kernel
theorem dX0_keep_118 : decode cX0_keep 118 = .ok (.lload 4, 2) := by decide +kernel
theorem dX0_keep_120 : decode cX0_keep 120 = .ok (.lastore, 1) := by decide +kernel
theorem dX0_keep_121 : decode cX0_keep 121 = .ok (.aload_n 0, 1) := by decide +kernel
theorem dX0_keep_122 : decode cX0_keep 122 = .ok (.getfield 19, 3) := by decide +kernel
theorem dX0_keep_125 : decode cX0_keep 125 = .ok (.aload_n 0, 1) := by decide +kernel
theorem dX0_keep_126 : decode cX0_keep 126 = .ok (.getfield 48, 3) := by decide +kernel
theorem dX0_keep_129 : decode cX0_keep 129 = .ok (.aload_n 0, 1) := by decide +kernel
theorem dX0_keep_130 : decode cX0_keep 130 = .ok (.getfield 44, 3) := by decide +kernel
theorem dX0_keep_133 : decode cX0_keep 133 = .ok (.getfield 90, 3) := by decide +kernel
theorem dX0_keep_136 : decode cX0_keep 136 = .ok (.iload_n 2, 1) := by decide +kernel
theorem dX0_keep_137 : decode cX0_keep 137 = .ok (.laload, 1) := by decide +kernel
theorem dX0_keep_138 : decode cX0_keep 138 = .ok (.invokestatic 84, 3) := by decide +kernel
theorem dX0_keep_141 : decode cX0_keep 141 = .ok (.lastore, 1) := by decide +kernel
theorem dX0_keep_142 : decode cX0_keep 142 = .ok (.aload_n 0, 1) := by decide +kernel
theorem dX0_keep_143 : decode cX0_keep 143 = .ok (.dup, 1) := by decide +kernel
theorem dX0_keep_144 : decode cX0_keep 144 = .ok (.getfield 48, 3) := by decide +kernel
theorem dX0_keep_147 : decode cX0_keep 147 = .ok (.iconst 1, 1) := by decide +kernel
theorem dX0_keep_148 : decode cX0_keep 148 = .ok (.iadd, 1) := by decide +kernel
theorem dX0_keep_149 : decode cX0_keep 149 = .ok (.putfield 48, 3) := by decide +kernel
theorem dX0_keep_152 : decode cX0_keep 152 = .ok (.return_, 1) := by decide +kernel
theorem dX0_leastWithin_0 : decode cX0_leastWithin 0 = .ok (.iload_n 1, 1) := by decide +kernel
theorem dX0_leastWithin_1 : decode cX0_leastWithin 1 = .ok (.aload_n 0, 1) := by decide +kernel
theorem dX0_leastWithin_2 : decode cX0_leastWithin 2 = .ok (.getfield 34, 3) := by decide +kernel
theorem dX0_leastWithin_5 : decode cX0_leastWithin 5 = .ok (.if_icmp .ne 8, 3) := by decide +kernel
theorem dX0_leastWithin_8 : decode cX0_leastWithin 8 = .ok (.aload_n 0, 1) := by decide +kernel
theorem dX0_leastWithin_9 : decode cX0_leastWithin 9 = .ok (.getfield 38, 3) := by decide +kernel
theorem dX0_leastWithin_12 : decode cX0_leastWithin 12 = .ok (.ireturn, 1) := by decide +kernel
theorem dX0_leastWithin_13 : decode cX0_leastWithin 13 = .ok (.iconst (-1), 1) := by decide +kernel
theorem dX0_leastWithin_14 : decode cX0_leastWithin 14 = .ok (.istore_n 2, 1) := by decide +kernel
theorem dX0_leastWithin_15 : decode cX0_leastWithin 15 = .ok (.iconst 0, 1) := by decide +kernel
theorem dX0_leastWithin_16 : decode cX0_leastWithin 16 = .ok (.istore_n 3, 1) := by decide +kernel
theorem dX0_leastWithin_17 : decode cX0_leastWithin 17 = .ok (.iload_n 3, 1) := by decide +kernel
theorem dX0_leastWithin_18 : decode cX0_leastWithin 18 = .ok (.aload_n 0, 1) := by decide +kernel
theorem dX0_leastWithin_19 : decode cX0_leastWithin 19 = .ok (.getfield 48, 3) := by decide +kernel
theorem dX0_leastWithin_22 : decode cX0_leastWithin 22 = .ok (.if_icmp .ge 64, 3) := by decide +kernel
theorem dX0_leastWithin_25 : decode cX0_leastWithin 25 = .ok (.aload_n 0, 1) := by decide +kernel
theorem dX0_leastWithin_26 : decode cX0_leastWithin 26 = .ok (.getfield 11, 3) := by decide +kernel
theorem dX0_leastWithin_29 : decode cX0_leastWithin 29 = .ok (.iload_n 3, 1) := by decide +kernel
theorem dX0_leastWithin_30 : decode cX0_leastWithin 30 = .ok (.iaload, 1) := by decide +kernel
theorem dX0_leastWithin_31 : decode cX0_leastWithin 31 = .ok (.iload_n 1, 1) := by decide +kernel
theorem dX0_leastWithin_32 : decode cX0_leastWithin 32 = .ok (.iconst (-1), 1) := by decide +kernel
theorem dX0_leastWithin_33 : decode cX0_leastWithin 33 = .ok (.ixor, 1) := by decide +kernel
theorem dX0_leastWithin_34 : decode cX0_leastWithin 34 = .ok (.iand, 1) := by decide +kernel
theorem dX0_leastWithin_35 : decode cX0_leastWithin 35 = .ok (.ifCond .eq 6, 3) := by decide +kernel
theorem dX0_leastWithin_38 : decode cX0_leastWithin 38 = .ok (.goto 42, 3) := by decide +kernel
theorem dX0_leastWithin_41 : decode cX0_leastWithin 41 = .ok (.iload_n 2, 1) := by decide +kernel
theorem dX0_leastWithin_42 : decode cX0_leastWithin 42 = .ok (.ifCond .lt 36, 3) := by decide +kernel
theorem dX0_leastWithin_45 : decode cX0_leastWithin 45 = .ok (.aload_n 0, 1) := by decide +kernel
theorem dX0_leastWithin_46 : decode cX0_leastWithin 46 = .ok (.iload_n 2, 1) := by decide +kernel
theorem dX0_leastWithin_47 : decode cX0_leastWithin 47 = .ok (.iload_n 3, 1) := by decide +kernel
theorem dX0_leastWithin_48 : decode cX0_leastWithin 48 = .ok (.invokevirtual 93, 3) := by decide +kernel
theorem dX0_leastWithin_51 : decode cX0_leastWithin 51 = .ok (.ifCond .ne 27, 3) := by decide +kernel
theorem dX0_leastWithin_54 : decode cX0_leastWithin 54 = .ok (.aload_n 0, 1) := by decide +kernel
theorem dX0_leastWithin_55 : decode cX0_leastWithin 55 = .ok (.iload_n 3, 1) := by decide +kernel
theorem dX0_leastWithin_56 : decode cX0_leastWithin 56 = .ok (.iload_n 2, 1) := by decide +kernel
theorem dX0_leastWithin_57 : decode cX0_leastWithin 57 = .ok (.invokevirtual 93, 3) := by decide +kernel
theorem dX0_leastWithin_60 : decode cX0_leastWithin 60 = .ok (.ifCond .ne 20, 3) := by decide +kernel
theorem dX0_leastWithin_63 : decode cX0_leastWithin 63 = .ok (.aload_n 0, 1) := by decide +kernel
theorem dX0_leastWithin_64 : decode cX0_leastWithin 64 = .ok (.getfield 11, 3) := by decide +kernel
theorem dX0_leastWithin_67 : decode cX0_leastWithin 67 = .ok (.iload_n 3, 1) := by decide +kernel
theorem dX0_leastWithin_68 : decode cX0_leastWithin 68 = .ok (.iaload, 1) := by decide +kernel
theorem dX0_leastWithin_69 : decode cX0_leastWithin 69 = .ok (.aload_n 0, 1) := by decide +kernel
theorem dX0_leastWithin_70 : decode cX0_leastWithin 70 = .ok (.getfield 11, 3) := by decide +kernel
theorem dX0_leastWithin_73 : decode cX0_leastWithin 73 = .ok (.iload_n 2, 1) := by decide +kernel
theorem dX0_leastWithin_74 : decode cX0_leastWithin 74 = .ok (.iaload, 1) := by decide +kernel
theorem dX0_leastWithin_75 : decode cX0_leastWithin 75 = .ok (.if_icmp .ge 5, 3) := by decide +kernel
theorem dX0_leastWithin_78 : decode cX0_leastWithin 78 = .ok (.iload_n 3, 1) := by decide +kernel
theorem dX0_leastWithin_79 : decode cX0_leastWithin 79 = .ok (.istore_n 2, 1) := by decide +kernel
theorem dX0_leastWithin_80 : decode cX0_leastWithin 80 = .ok (.iinc 3 1, 3) := by decide +kernel
theorem dX0_leastWithin_83 : decode cX0_leastWithin 83 = .ok (.goto (-66), 3) := by decide +kernel
theorem dX0_leastWithin_86 : decode cX0_leastWithin 86 = .ok (.aload_n 0, 1) := by decide +kernel
theorem dX0_leastWithin_87 : decode cX0_leastWithin 87 = .ok (.iload_n 1, 1) := by decide +kernel
theorem dX0_leastWithin_88 : decode cX0_leastWithin 88 = .ok (.putfield 34, 3) := by decide +kernel
theorem dX0_leastWithin_91 : decode cX0_leastWithin 91 = .ok (.aload_n 0, 1) := by decide +kernel
theorem dX0_leastWithin_92 : decode cX0_leastWithin 92 = .ok (.iload_n 2, 1) := by decide +kernel
theorem dX0_leastWithin_93 : decode cX0_leastWithin 93 = .ok (.putfield 38, 3) := by decide +kernel
theorem dX0_leastWithin_96 : decode cX0_leastWithin 96 = .ok (.iload_n 2, 1) := by decide +kernel
theorem dX0_leastWithin_97 : decode cX0_leastWithin 97 = .ok (.ireturn, 1) := by decide +kernel
theorem dX0_isDearer_0 : decode cX0_isDearer 0 = .ok (.iload_n 1, 1) := by decide +kernel
theorem dX0_isDearer_1 : decode cX0_isDearer 1 = .ok (.ifCond .lt 7, 3) := by decide +kernel
theorem dX0_isDearer_4 : decode cX0_isDearer 4 = .ok (.iload_n 2, 1) := by decide +kernel
theorem dX0_isDearer_5 : decode cX0_isDearer 5 = .ok (.ifCond .ge 17, 3) := by decide +kernel
theorem dX0_isDearer_8 : decode cX0_isDearer 8 = .ok (.iload_n 1, 1) := by decide +kernel
theorem dX0_isDearer_9 : decode cX0_isDearer 9 = .ok (.ifCond .ge 11, 3) := by decide +kernel
theorem dX0_isDearer_12 : decode cX0_isDearer 12 = .ok (.iload_n 2, 1) := by decide +kernel
theorem dX0_isDearer_13 : decode cX0_isDearer 13 = .ok (.ifCond .lt 7, 3) := by decide +kernel
theorem dX0_isDearer_16 : decode cX0_isDearer 16 = .ok (.iconst 1, 1) := by decide +kernel
theorem dX0_isDearer_17 : decode cX0_isDearer 17 = .ok (.goto 4, 3) := by decide +kernel
theorem dX0_isDearer_20 : decode cX0_isDearer 20 = .ok (.iconst 0, 1) := by decide +kernel
theorem dX0_isDearer_21 : decode cX0_isDearer 21 = .ok (.ireturn, 1) := by decide +kernel
theorem dX0_isDearer_22 : decode cX0_isDearer 22 = .ok (.aload_n 0, 1) := by decide +kernel
theorem dX0_isDearer_23 : decode cX0_isDearer 23 = .ok (.getfield 15, 3) := by decide +kernel
theorem dX0_isDearer_26 : decode cX0_isDearer 26 = .ok (.iload_n 1, 1) := by decide +kernel
theorem dX0_isDearer_27 : decode cX0_isDearer 27 = .ok (.laload, 1) := by decide +kernel
theorem dX0_isDearer_28 : decode cX0_isDearer 28 = .ok (.aload_n 0, 1) := by decide +kernel
theorem dX0_isDearer_29 : decode cX0_isDearer 29 = .ok (.getfield 19, 3) := by decide +kernel
theorem dX0_isDearer_32 : decode cX0_isDearer 32 = .ok (.iload_n 2, 1) := by decide +kernel
theorem dX0_isDearer_33 : decode cX0_isDearer 33 = .ok (.laload, 1) := by decide +kernel
theorem dX0_isDearer_34 : decode cX0_isDearer 34 = .ok (.lmul, 1) := by decide +kernel
theorem dX0_isDearer_35 : decode cX0_isDearer 35 = .ok (.aload_n 0, 1) := by decide +kernel
theorem dX0_isDearer_36 : decode cX0_isDearer 36 = .ok (.getfield 15, 3) := by decide +kernel
theorem dX0_isDearer_39 : decode cX0_isDearer 39 = .ok (.iload_n 2, 1) := by decide +kernel
theorem dX0_isDearer_40 : decode cX0_isDearer 40 = .ok (.laload, 1) := by decide +kernel
theorem dX0_isDearer_41 : decode cX0_isDearer 41 = .ok (.aload_n 0, 1) := by decide +kernel
theorem dX0_isDearer_42 : decode cX0_isDearer 42 = .ok (.getfield 19, 3) := by decide +kernel
theorem dX0_isDearer_45 : decode cX0_isDearer 45 = .ok (.iload_n 1, 1) := by decide +kernel
theorem dX0_isDearer_46 : decode cX0_isDearer 46 = .ok (.laload, 1) := by decide +kernel
theorem dX0_isDearer_47 : decode cX0_isDearer 47 = .ok (.lmul, 1) := by decide +kernel
theorem dX0_isDearer_48 : decode cX0_isDearer 48 = .ok (.lcmp, 1) := by decide +kernel
theorem dX0_isDearer_49 : decode cX0_isDearer 49 = .ok (.ifCond .le 7, 3) := by decide +kernel
theorem dX0_isDearer_52 : decode cX0_isDearer 52 = .ok (.iconst 1, 1) := by decide +kernel
theorem dX0_isDearer_53 : decode cX0_isDearer 53 = .ok (.goto 4, 3) := by decide +kernel
theorem dX0_isDearer_56 : decode cX0_isDearer 56 = .ok (.iconst 0, 1) := by decide +kernel
theorem dX0_isDearer_57 : decode cX0_isDearer 57 = .ok (.ireturn, 1) := by decide +kernel
theorem dX0_volume_0 : decode cX0_volume 0 = .ok (.iload_n 1, 1) := by decide +kernel
theorem dX0_volume_1 : decode cX0_volume 1 = .ok (.ifCond .ge 11, 3) := by decide +kernel
theorem dX0_volume_4 : decode cX0_volume 4 = .ok (.bipush (-3), 2) := by decide +kernel
theorem dX0_volume_6 : decode cX0_volume 6 = .ok (.invokestatic 96, 3) := by decide +kernel
theorem dX0_volume_9 : decode cX0_volume 9 = .ok (.goto 19, 3) := by decide +kernel
theorem dX0_volume_12 : decode cX0_volume 12 = .ok (.aload_n 0, 1) := by decide +kernel
theorem dX0_volume_13 : decode cX0_volume 13 = .ok (.getfield 15, 3) := by decide +kernel
theorem dX0_volume_16 : decode cX0_volume 16 = .ok (.iload_n 1, 1) := by decide +kernel
theorem dX0_volume_17 : decode cX0_volume 17 = .ok (.laload, 1) := by decide +kernel
theorem dX0_volume_18 : decode cX0_volume 18 = .ok (.aload_n 0, 1) := by decide +kernel
theorem dX0_volume_19 : decode cX0_volume 19 = .ok (.getfield 19, 3) := by decide +kernel
theorem dX0_volume_22 : decode cX0_volume 22 = .ok (.iload_n 1, 1) := by decide +kernel
theorem dX0_volume_23 : decode cX0_volume 23 = .ok (.laload, 1) := by decide +kernel
theorem dX0_volume_24 : decode cX0_volume 24 = .ok (.iload_n 2, 1) := by decide +kernel
theorem dX0_volume_25 : decode cX0_volume 25 = .ok (.invokestatic 100, 3) := by decide +kernel
theorem dX0_volume_28 : decode cX0_volume 28 = .ok (.lreturn, 1) := by decide +kernel
theorem dX0_difference_0 : decode cX0_difference 0 = .ok (.iload_n 1, 1) := by decide +kernel
theorem dX0_difference_1 : decode cX0_difference 1 = .ok (.ifCond .lt 7, 3) := by decide +kernel
theorem dX0_difference_4 : decode cX0_difference 4 = .ok (.iload_n 2, 1) := by decide +kernel
theorem dX0_difference_5 : decode cX0_difference 5 = .ok (.ifCond .ge 9, 3) := by decide +kernel
theorem dX0_difference_8 : decode cX0_difference 8 = .ok (.bipush (-3), 2) := by decide +kernel
theorem dX0_difference_10 : decode cX0_difference 10 = .ok (.invokestatic 96, 3) := by decide +kernel
theorem dX0_difference_13 : decode cX0_difference 13 = .ok (.lreturn, 1) := by decide +kernel
theorem dX0_difference_14 : decode cX0_difference 14 = .ok (.aload_n 0, 1) := by decide +kernel
theorem dX0_difference_15 : decode cX0_difference 15 = .ok (.getfield 15, 3) := by decide +kernel
theorem dX0_difference_18 : decode cX0_difference 18 = .ok (.iload_n 1, 1) := by decide +kernel
theorem dX0_difference_19 : decode cX0_difference 19 = .ok (.laload, 1) := by decide +kernel
theorem dX0_difference_20 : decode cX0_difference 20 = .ok (.aload_n 0, 1) := by decide +kernel
theorem dX0_difference_21 : decode cX0_difference 21 = .ok (.getfield 19, 3) := by decide +kernel
theorem dX0_difference_24 : decode cX0_difference 24 = .ok (.iload_n 2, 1) := by decide +kernel
theorem dX0_difference_25 : decode cX0_difference 25 = .ok (.laload, 1) := by decide +kernel
theorem dX0_difference_26 : decode cX0_difference 26 = .ok (.lmul, 1) := by decide +kernel
theorem dX0_difference_27 : decode cX0_difference 27 = .ok (.aload_n 0, 1) := by decide +kernel
theorem dX0_difference_28 : decode cX0_difference 28 = .ok (.getfield 15, 3) := by decide +kernel
theorem dX0_difference_31 : decode cX0_difference 31 = .ok (.iload_n 2, 1) := by decide +kernel
theorem dX0_difference_32 : decode cX0_difference 32 = .ok (.laload, 1) := by decide +kernel
theorem dX0_difference_33 : decode cX0_difference 33 = .ok (.aload_n 0, 1) := by decide +kernel
theorem dX0_difference_34 : decode cX0_difference 34 = .ok (.getfield 19, 3) := by decide +kernel
theorem dX0_difference_37 : decode cX0_difference 37 = .ok (.iload_n 1, 1) := by decide +kernel
theorem dX0_difference_38 : decode cX0_difference 38 = .ok (.laload, 1) := by decide +kernel
theorem dX0_difference_39 : decode cX0_difference 39 = .ok (.lmul, 1) := by decide +kernel
theorem dX0_difference_40 : decode cX0_difference 40 = .ok (.lsub, 1) := by decide +kernel
theorem dX0_difference_41 : decode cX0_difference 41 = .ok (.lstore 4, 2) := by decide +kernel
theorem dX0_difference_43 : decode cX0_difference 43 = .ok (.lload 4, 2) := by decide +kernel
theorem dX0_difference_45 : decode cX0_difference 45 = .ok (.aload_n 0, 1) := by decide +kernel
theorem dX0_difference_46 : decode cX0_difference 46 = .ok (.getfield 19, 3) := by decide +kernel
theorem dX0_difference_49 : decode cX0_difference 49 = .ok (.iload_n 1, 1) := by decide +kernel
theorem dX0_difference_50 : decode cX0_difference 50 = .ok (.laload, 1) := by decide +kernel
theorem dX0_difference_51 : decode cX0_difference 51 = .ok (.aload_n 0, 1) := by decide +kernel
theorem dX0_difference_52 : decode cX0_difference 52 = .ok (.getfield 19, 3) := by decide +kernel
theorem dX0_difference_55 : decode cX0_difference 55 = .ok (.iload_n 2, 1) := by decide +kernel
theorem dX0_difference_56 : decode cX0_difference 56 = .ok (.laload, 1) := by decide +kernel
theorem dX0_difference_57 : decode cX0_difference 57 = .ok (.lmul, 1) := by decide +kernel
theorem dX0_difference_58 : decode cX0_difference 58 = .ok (.iload_n 3, 1) := by decide +kernel
theorem dX0_difference_59 : decode cX0_difference 59 = .ok (.invokestatic 100, 3) := by decide +kernel
theorem dX0_difference_62 : decode cX0_difference 62 = .ok (.lreturn, 1) := by decide +kernel
theorem dX0_solve_0 : decode cX0_solve 0 = .ok (.iload_n 2, 1) := by decide +kernel
theorem dX0_solve_1 : decode cX0_solve 1 = .ok (.aload_n 0, 1) := by decide +kernel
theorem dX0_solve_2 : decode cX0_solve 2 = .ok (.getfield 41, 3) := by decide +kernel
theorem dX0_solve_5 : decode cX0_solve 5 = .ok (.if_icmp .ne 4, 3) := by decide +kernel
theorem dX0_solve_8 : decode cX0_solve 8 = .ok (.return_, 1) := by decide +kernel
theorem dX0_solve_9 : decode cX0_solve 9 = .ok (.aload_n 0, 1) := by decide +kernel
theorem dX0_solve_10 : decode cX0_solve 10 = .ok (.getfield 44, 3) := by decide +kernel
theorem dX0_solve_13 : decode cX0_solve 13 = .ok (.aload_n 1, 1) := by decide +kernel
theorem dX0_solve_14 : decode cX0_solve 14 = .ok (.iload_n 2, 1) := by decide +kernel
theorem dX0_solve_15 : decode cX0_solve 15 = .ok (.invokevirtual 51, 3) := by decide +kernel
theorem dX0_solve_18 : decode cX0_solve 18 = .ok (.iconst 0, 1) := by decide +kernel
theorem dX0_solve_19 : decode cX0_solve 19 = .ok (.istore_n 3, 1) := by decide +kernel
theorem dX0_solve_20 : decode cX0_solve 20 = .ok (.iconst 0, 1) := by decide +kernel
theorem dX0_solve_21 : decode cX0_solve 21 = .ok (.istore 4, 2) := by decide +kernel
theorem dX0_solve_23 : decode cX0_solve 23 = .ok (.iload 4, 2) := by decide +kernel
theorem dX0_solve_25 : decode cX0_solve 25 = .ok (.bipush 10, 2) := by decide +kernel
theorem dX0_solve_27 : decode cX0_solve 27 = .ok (.if_icmp .ge 45, 3) := by decide +kernel
theorem dX0_solve_30 : decode cX0_solve 30 = .ok (.aload_n 0, 1) := by decide +kernel
theorem dX0_solve_31 : decode cX0_solve 31 = .ok (.getfield 22, 3) := by decide +kernel
theorem dX0_solve_34 : decode cX0_solve 34 = .ok (.iload 4, 2) := by decide +kernel
theorem dX0_solve_36 : decode cX0_solve 36 = .ok (.lconst 0, 1) := by decide +kernel
theorem dX0_solve_37 : decode cX0_solve 37 = .ok (.lastore, 1) := by decide +kernel
theorem dX0_solve_38 : decode cX0_solve 38 = .ok (.iload 4, 2) := by decide +kernel
theorem dX0_solve_40 : decode cX0_solve 40 = .ok (.aload_n 0, 1) := by decide +kernel
theorem dX0_solve_41 : decode cX0_solve 41 = .ok (.getfield 44, 3) := by decide +kernel
theorem dX0_solve_44 : decode cX0_solve 44 = .ok (.getfield 62, 3) := by decide +kernel
theorem dX0_solve_47 : decode cX0_solve 47 = .ok (.if_icmp .ge 19, 3) := by decide +kernel
theorem dX0_solve_50 : decode cX0_solve 50 = .ok (.aload_n 0, 1) := by decide +kernel
theorem dX0_solve_51 : decode cX0_solve 51 = .ok (.getfield 44, 3) := by decide +kernel
theorem dX0_solve_54 : decode cX0_solve 54 = .ok (.iload_n 3, 1) := by decide +kernel
theorem dX0_solve_55 : decode cX0_solve 55 = .ok (.iload 4, 2) := by decide +kernel
theorem dX0_solve_57 : decode cX0_solve 57 = .ok (.invokevirtual 65, 3) := by decide +kernel
theorem dX0_solve_60 : decode cX0_solve 60 = .ok (.ifCond .eq 6, 3) := by decide +kernel
theorem dX0_solve_63 : decode cX0_solve 63 = .ok (.iinc 3 1, 3) := by decide +kernel
theorem dX0_solve_66 : decode cX0_solve 66 = .ok (.iinc 4 1, 3) := by decide +kernel
theorem dX0_solve_69 : decode cX0_solve 69 = .ok (.goto (-46), 3) := by decide +kernel
theorem dX0_solve_72 : decode cX0_solve 72 = .ok (.aload_n 0, 1) := by decide +kernel
theorem dX0_solve_73 : decode cX0_solve 73 = .ok (.getfield 44, 3) := by decide +kernel
theorem dX0_solve_76 : decode cX0_solve 76 = .ok (.iload_n 3, 1) := by decide +kernel
theorem dX0_solve_77 : decode cX0_solve 77 = .ok (.invokevirtual 69, 3) := by decide +kernel
theorem dX0_solve_80 : decode cX0_solve 80 = .ok (.iconst 0, 1) := by decide +kernel
theorem dX0_solve_81 : decode cX0_solve 81 = .ok (.istore 4, 2) := by decide +kernel
theorem dX0_solve_83 : decode cX0_solve 83 = .ok (.iload 4, 2) := by decide +kernel
theorem dX0_solve_85 : decode cX0_solve 85 = .ok (.iload_n 3, 1) := by decide +kernel
theorem dX0_solve_86 : decode cX0_solve 86 = .ok (.if_icmp .ge 34, 3) := by decide +kernel
theorem dX0_solve_89 : decode cX0_solve 89 = .ok (.aload_n 0, 1) := by decide +kernel
theorem dX0_solve_90 : decode cX0_solve 90 = .ok (.getfield 22, 3) := by decide +kernel
theorem dX0_solve_93 : decode cX0_solve 93 = .ok (.aload_n 0, 1) := by decide +kernel
theorem dX0_solve_94 : decode cX0_solve 94 = .ok (.getfield 44, 3) := by decide +kernel
theorem dX0_solve_97 : decode cX0_solve 97 = .ok (.getfield 76, 3) := by decide +kernel
theorem dX0_solve_100 : decode cX0_solve 100 = .ok (.iload 4, 2) := by decide +kernel
theorem dX0_solve_102 : decode cX0_solve 102 = .ok (.iaload, 1) := by decide +kernel
theorem dX0_solve_103 : decode cX0_solve 103 = .ok (.aload_n 0, 1) := by decide +kernel
theorem dX0_solve_104 : decode cX0_solve 104 = .ok (.getfield 44, 3) := by decide +kernel
theorem dX0_solve_107 : decode cX0_solve 107 = .ok (.getfield 73, 3) := by decide +kernel
theorem dX0_solve_110 : decode cX0_solve 110 = .ok (.iload 4, 2) := by decide +kernel
theorem dX0_solve_112 : decode cX0_solve 112 = .ok (.laload, 1) := by decide +kernel
theorem dX0_solve_113 : decode cX0_solve 113 = .ok (.lastore, 1) := by decide +kernel
theorem dX0_solve_114 : decode cX0_solve 114 = .ok (.iinc 4 1, 3) := by decide +kernel
theorem dX0_solve_117 : decode cX0_solve 117 = .ok (.goto (-34), 3) := by decide +kernel
theorem dX0_solve_120 : decode cX0_solve 120 = .ok (.aload_n 0, 1) := by decide +kernel
theorem dX0_solve_121 : decode cX0_solve 121 = .ok (.aload_n 0, 1) := by decide +kernel
theorem dX0_solve_122 : decode cX0_solve 122 = .ok (.getfield 44, 3) := by decide +kernel
theorem dX0_solve_125 : decode cX0_solve 125 = .ok (.getfield 90, 3) := by decide +kernel
theorem dX0_solve_128 : decode cX0_solve 128 = .ok (.iload_n 3, 1) := by decide +kernel
theorem dX0_solve_129 : decode cX0_solve 129 = .ok (.laload, 1) := by decide +kernel
theorem dX0_solve_130 : decode cX0_solve 130 = .ok (.putfield 25, 3) := by decide +kernel
theorem dX0_solve_133 : decode cX0_solve 133 = .ok (.aload_n 0, 1) := by decide +kernel
theorem dX0_solve_134 : decode cX0_solve 134 = .ok (.iload_n 2, 1) := by decide +kernel
theorem dX0_solve_135 : decode cX0_solve 135 = .ok (.putfield 41, 3) := by decide +kernel
theorem dX0_solve_138 : decode cX0_solve 138 = .ok (.return_, 1) := by decide +kernel
theorem dX1_init_0 : decode cX1_init 0 = .ok (.aload_n 0, 1) := by decide +kernel
theorem dX1_init_1 : decode cX1_init 1 = .ok (.invokespecial 3, 3) := by decide +kernel
theorem dX1_init_4 : decode cX1_init 4 = .ok (.return_, 1) := by decide +kernel
theorem dX1_pass_0 : decode cX1_pass 0 = .ok (.iconst 0, 1) := by decide +kernel
theorem dX1_pass_1 : decode cX1_pass 1 = .ok (.istore 4, 2) := by decide +kernel
theorem dX1_pass_3 : decode cX1_pass 3 = .ok (.iconst 0, 1) := by decide +kernel
theorem dX1_pass_4 : decode cX1_pass 4 = .ok (.istore 5, 2) := by decide +kernel
theorem dX1_pass_6 : decode cX1_pass 6 = .ok (.iload 5, 2) := by decide +kernel
theorem dX1_pass_8 : decode cX1_pass 8 = .ok (.bipush 10, 2) := by decide +kernel
theorem dX1_pass_10 : decode cX1_pass 10 = .ok (.if_icmp .ge 84, 3) := by decide +kernel
theorem dX1_pass_13 : decode cX1_pass 13 = .ok (.iload 5, 2) := by decide +kernel
theorem dX1_pass_15 : decode cX1_pass 15 = .ok (.iconst 1, 1) := by decide +kernel
theorem dX1_pass_16 : decode cX1_pass 16 = .ok (.iadd, 1) := by decide +kernel
theorem dX1_pass_17 : decode cX1_pass 17 = .ok (.istore 6, 2) := by decide +kernel
theorem dX1_pass_19 : decode cX1_pass 19 = .ok (.iload 6, 2) := by decide +kernel
theorem dX1_pass_21 : decode cX1_pass 21 = .ok (.bipush 10, 2) := by decide +kernel
theorem dX1_pass_23 : decode cX1_pass 23 = .ok (.if_icmp .ge 65, 3) := by decide +kernel
theorem dX1_pass_26 : decode cX1_pass 26 = .ok (.iload_n 2, 1) := by decide +kernel
theorem dX1_pass_27 : decode cX1_pass 27 = .ok (.iload 5, 2) := by decide +kernel
theorem dX1_pass_29 : decode cX1_pass 29 = .ok (.ishr, 1) := by decide +kernel
theorem dX1_pass_30 : decode cX1_pass 30 = .ok (.iconst 1, 1) := by decide +kernel
theorem dX1_pass_31 : decode cX1_pass 31 = .ok (.iand, 1) := by decide +kernel
theorem dX1_pass_32 : decode cX1_pass 32 = .ok (.ifCond .eq 16, 3) := by decide +kernel
theorem dX1_pass_35 : decode cX1_pass 35 = .ok (.iload_n 2, 1) := by decide +kernel
theorem dX1_pass_36 : decode cX1_pass 36 = .ok (.iload 6, 2) := by decide +kernel
theorem dX1_pass_38 : decode cX1_pass 38 = .ok (.ishr, 1) := by decide +kernel
theorem dX1_pass_39 : decode cX1_pass 39 = .ok (.iconst 1, 1) := by decide +kernel
theorem dX1_pass_40 : decode cX1_pass 40 = .ok (.iand, 1) := by decide +kernel
theorem dX1_pass_41 : decode cX1_pass 41 = .ok (.ifCond .eq 7, 3) := by decide +kernel
theorem dX1_pass_44 : decode cX1_pass 44 = .ok (.iconst 1, 1) := by decide +kernel
theorem dX1_pass_45 : decode cX1_pass 45 = .ok (.goto 4, 3) := by decide +kernel
theorem dX1_pass_48 : decode cX1_pass 48 = .ok (.iconst 0, 1) := by decide +kernel
theorem dX1_pass_49 : decode cX1_pass 49 = .ok (.istore 7, 2) := by decide +kernel
theorem dX1_pass_51 : decode cX1_pass 51 = .ok (.iload 7, 2) := by decide +kernel
theorem dX1_pass_53 : decode cX1_pass 53 = .ok (.ifCond .eq 29, 3) := by decide +kernel
theorem dX1_pass_56 : decode cX1_pass 56 = .ok (.aload_n 0, 1) := by decide +kernel
theorem dX1_pass_57 : decode cX1_pass 57 = .ok (.aload_n 1, 1) := by decide +kernel
theorem dX1_pass_58 : decode cX1_pass 58 = .ok (.iload 5, 2) := by decide +kernel
theorem dX1_pass_60 : decode cX1_pass 60 = .ok (.iload 6, 2) := by decide +kernel
theorem dX1_pass_62 : decode cX1_pass 62 = .ok (.invokevirtual 9, 3) := by decide +kernel
theorem dX1_pass_65 : decode cX1_pass 65 = .ok (.ifCond .eq 17, 3) := by decide +kernel
theorem dX1_pass_68 : decode cX1_pass 68 = .ok (.iinc 4 1, 3) := by decide +kernel
theorem dX1_pass_71 : decode cX1_pass 71 = .ok (.iload 4, 2) := by decide +kernel
theorem dX1_pass_73 : decode cX1_pass 73 = .ok (.iconst 1, 1) := by decide +kernel
theorem dX1_pass_74 : decode cX1_pass 74 = .ok (.isub, 1) := by decide +kernel
theorem dX1_pass_75 : decode cX1_pass 75 = .ok (.iload_n 3, 1) := by decide +kernel
theorem dX1_pass_76 : decode cX1_pass 76 = .ok (.if_icmp .ne 6, 3) := by decide +kernel
theorem dX1_pass_79 : decode cX1_pass 79 = .ok (.iload 4, 2) := by decide +kernel
theorem dX1_pass_81 : decode cX1_pass 81 = .ok (.ireturn, 1) := by decide +kernel
theorem dX1_pass_82 : decode cX1_pass 82 = .ok (.iinc 6 1, 3) := by decide +kernel
theorem dX1_pass_85 : decode cX1_pass 85 = .ok (.goto (-66), 3) := by decide +kernel
theorem dX1_pass_88 : decode cX1_pass 88 = .ok (.iinc 5 1, 3) := by decide +kernel
theorem dX1_pass_91 : decode cX1_pass 91 = .ok (.goto (-85), 3) := by decide +kernel
theorem dX1_pass_94 : decode cX1_pass 94 = .ok (.iload 4, 2) := by decide +kernel
theorem dX1_pass_96 : decode cX1_pass 96 = .ok (.ireturn, 1) := by decide +kernel
theorem dX1_meet_0 : decode cX1_meet 0 = .ok (.aload_n 1, 1) := by decide +kernel
theorem dX1_meet_1 : decode cX1_meet 1 = .ok (.getfield 15, 3) := by decide +kernel
theorem dX1_meet_4 : decode cX1_meet 4 = .ok (.iconst 2, 1) := by decide +kernel
theorem dX1_meet_5 : decode cX1_meet 5 = .ok (.iload_n 2, 1) := by decide +kernel
theorem dX1_meet_6 : decode cX1_meet 6 = .ok (.imul, 1) := by decide +kernel
theorem dX1_meet_7 : decode cX1_meet 7 = .ok (.iaload, 1) := by decide +kernel
theorem dX1_meet_8 : decode cX1_meet 8 = .ok (.istore 4, 2) := by decide +kernel
theorem dX1_meet_10 : decode cX1_meet 10 = .ok (.aload_n 1, 1) := by decide +kernel
theorem dX1_meet_11 : decode cX1_meet 11 = .ok (.getfield 15, 3) := by decide +kernel
theorem dX1_meet_14 : decode cX1_meet 14 = .ok (.iconst 2, 1) := by decide +kernel
theorem dX1_meet_15 : decode cX1_meet 15 = .ok (.iload_n 2, 1) := by decide +kernel
theorem dX1_meet_16 : decode cX1_meet 16 = .ok (.imul, 1) := by decide +kernel
theorem dX1_meet_17 : decode cX1_meet 17 = .ok (.iconst 1, 1) := by decide +kernel
theorem dX1_meet_18 : decode cX1_meet 18 = .ok (.iadd, 1) := by decide +kernel
theorem dX1_meet_19 : decode cX1_meet 19 = .ok (.iaload, 1) := by decide +kernel
theorem dX1_meet_20 : decode cX1_meet 20 = .ok (.istore 5, 2) := by decide +kernel
theorem dX1_meet_22 : decode cX1_meet 22 = .ok (.aload_n 1, 1) := by decide +kernel
theorem dX1_meet_23 : decode cX1_meet 23 = .ok (.getfield 15, 3) := by decide +kernel
theorem dX1_meet_26 : decode cX1_meet 26 = .ok (.iconst 2, 1) := by decide +kernel
theorem dX1_meet_27 : decode cX1_meet 27 = .ok (.iload_n 3, 1) := by decide +kernel
theorem dX1_meet_28 : decode cX1_meet 28 = .ok (.imul, 1) := by decide +kernel
theorem dX1_meet_29 : decode cX1_meet 29 = .ok (.iaload, 1) := by decide +kernel
theorem dX1_meet_30 : decode cX1_meet 30 = .ok (.istore 6, 2) := by decide +kernel
theorem dX1_meet_32 : decode cX1_meet 32 = .ok (.aload_n 1, 1) := by decide +kernel
theorem dX1_meet_33 : decode cX1_meet 33 = .ok (.getfield 15, 3) := by decide +kernel
theorem dX1_meet_36 : decode cX1_meet 36 = .ok (.iconst 2, 1) := by decide +kernel
theorem dX1_meet_37 : decode cX1_meet 37 = .ok (.iload_n 3, 1) := by decide +kernel
theorem dX1_meet_38 : decode cX1_meet 38 = .ok (.imul, 1) := by decide +kernel
theorem dX1_meet_39 : decode cX1_meet 39 = .ok (.iconst 1, 1) := by decide +kernel
theorem dX1_meet_40 : decode cX1_meet 40 = .ok (.iadd, 1) := by decide +kernel
theorem dX1_meet_41 : decode cX1_meet 41 = .ok (.iaload, 1) := by decide +kernel
theorem dX1_meet_42 : decode cX1_meet 42 = .ok (.istore 7, 2) := by decide +kernel
theorem dX1_meet_44 : decode cX1_meet 44 = .ok (.aload_n 1, 1) := by decide +kernel
theorem dX1_meet_45 : decode cX1_meet 45 = .ok (.getfield 21, 3) := by decide +kernel
theorem dX1_meet_48 : decode cX1_meet 48 = .ok (.iconst 2, 1) := by decide +kernel
theorem dX1_meet_49 : decode cX1_meet 49 = .ok (.getstatic 24, 3) := by decide +kernel
theorem dX1_meet_52 : decode cX1_meet 52 = .ok (.iload_n 2, 1) := by decide +kernel
theorem dX1_meet_53 : decode cX1_meet 53 = .ok (.iaload, 1) := by decide +kernel
theorem dX1_meet_54 : decode cX1_meet 54 = .ok (.imul, 1) := by decide +kernel
theorem dX1_meet_55 : decode cX1_meet 55 = .ok (.iaload, 1) := by decide +kernel
theorem dX1_meet_56 : decode cX1_meet 56 = .ok (.istore 8, 2) := by decide +kernel
theorem dX1_meet_58 : decode cX1_meet 58 = .ok (.aload_n 1, 1) := by decide +kernel
theorem dX1_meet_59 : decode cX1_meet 59 = .ok (.getfield 21, 3) := by decide +kernel
theorem dX1_meet_62 : decode cX1_meet 62 = .ok (.iconst 2, 1) := by decide +kernel
theorem dX1_meet_63 : decode cX1_meet 63 = .ok (.getstatic 24, 3) := by decide +kernel
theorem dX1_meet_66 : decode cX1_meet 66 = .ok (.iload_n 2, 1) := by decide +kernel
theorem dX1_meet_67 : decode cX1_meet 67 = .ok (.iaload, 1) := by decide +kernel
theorem dX1_meet_68 : decode cX1_meet 68 = .ok (.imul, 1) := by decide +kernel
theorem dX1_meet_69 : decode cX1_meet 69 = .ok (.iconst 1, 1) := by decide +kernel
theorem dX1_meet_70 : decode cX1_meet 70 = .ok (.iadd, 1) := by decide +kernel
theorem dX1_meet_71 : decode cX1_meet 71 = .ok (.iaload, 1) := by decide +kernel
theorem dX1_meet_72 : decode cX1_meet 72 = .ok (.istore 9, 2) := by decide +kernel
theorem dX1_meet_74 : decode cX1_meet 74 = .ok (.aload_n 1, 1) := by decide +kernel
theorem dX1_meet_75 : decode cX1_meet 75 = .ok (.getfield 21, 3) := by decide +kernel
theorem dX1_meet_78 : decode cX1_meet 78 = .ok (.iconst 2, 1) := by decide +kernel
theorem dX1_meet_79 : decode cX1_meet 79 = .ok (.getstatic 24, 3) := by decide +kernel
theorem dX1_meet_82 : decode cX1_meet 82 = .ok (.iload_n 3, 1) := by decide +kernel
theorem dX1_meet_83 : decode cX1_meet 83 = .ok (.iaload, 1) := by decide +kernel
theorem dX1_meet_84 : decode cX1_meet 84 = .ok (.imul, 1) := by decide +kernel
theorem dX1_meet_85 : decode cX1_meet 85 = .ok (.iaload, 1) := by decide +kernel
theorem dX1_meet_86 : decode cX1_meet 86 = .ok (.iload 8, 2) := by decide +kernel
theorem dX1_meet_88 : decode cX1_meet 88 = .ok (.isub, 1) := by decide +kernel
theorem dX1_meet_89 : decode cX1_meet 89 = .ok (.istore 10, 2) := by decide +kernel
theorem dX1_meet_91 : decode cX1_meet 91 = .ok (.aload_n 1, 1) := by decide +kernel
theorem dX1_meet_92 : decode cX1_meet 92 = .ok (.getfield 21, 3) := by decide +kernel
theorem dX1_meet_95 : decode cX1_meet 95 = .ok (.iconst 2, 1) := by decide +kernel
theorem dX1_meet_96 : decode cX1_meet 96 = .ok (.getstatic 24, 3) := by decide +kernel
theorem dX1_meet_99 : decode cX1_meet 99 = .ok (.iload_n 3, 1) := by decide +kernel
theorem dX1_meet_100 : decode cX1_meet 100 = .ok (.iaload, 1) := by decide +kernel
theorem dX1_meet_101 : decode cX1_meet 101 = .ok (.imul, 1) := by decide +kernel
theorem dX1_meet_102 : decode cX1_meet 102 = .ok (.iconst 1, 1) := by decide +kernel
theorem dX1_meet_103 : decode cX1_meet 103 = .ok (.iadd, 1) := by decide +kernel
theorem dX1_meet_104 : decode cX1_meet 104 = .ok (.iaload, 1) := by decide +kernel
theorem dX1_meet_105 : decode cX1_meet 105 = .ok (.iload 9, 2) := by decide +kernel
theorem dX1_meet_107 : decode cX1_meet 107 = .ok (.isub, 1) := by decide +kernel
theorem dX1_meet_108 : decode cX1_meet 108 = .ok (.istore 11, 2) := by decide +kernel
theorem dX1_meet_110 : decode cX1_meet 110 = .ok (.iload 4, 2) := by decide +kernel
theorem dX1_meet_112 : decode cX1_meet 112 = .ok (.iload 7, 2) := by decide +kernel
theorem dX1_meet_114 : decode cX1_meet 114 = .ok (.imul, 1) := by decide +kernel
theorem dX1_meet_115 : decode cX1_meet 115 = .ok (.iload 5, 2) := by decide +kernel
theorem dX1_meet_117 : decode cX1_meet 117 = .ok (.iload 6, 2) := by decide +kernel
theorem dX1_meet_119 : decode cX1_meet 119 = .ok (.imul, 1) := by decide +kernel
theorem dX1_meet_120 : decode cX1_meet 120 = .ok (.isub, 1) := by decide +kernel
theorem dX1_meet_121 : decode cX1_meet 121 = .ok (.istore 12, 2) := by decide +kernel
theorem dX1_meet_123 : decode cX1_meet 123 = .ok (.iload 10, 2) := by decide +kernel
theorem dX1_meet_125 : decode cX1_meet 125 = .ok (.iload 7, 2) := by decide +kernel
theorem dX1_meet_127 : decode cX1_meet 127 = .ok (.imul, 1) := by decide +kernel
theorem dX1_meet_128 : decode cX1_meet 128 = .ok (.iload 11, 2) := by decide +kernel
theorem dX1_meet_130 : decode cX1_meet 130 = .ok (.iload 6, 2) := by decide +kernel
theorem dX1_meet_132 : decode cX1_meet 132 = .ok (.imul, 1) := by decide +kernel
theorem dX1_meet_133 : decode cX1_meet 133 = .ok (.isub, 1) := by decide +kernel
theorem dX1_meet_134 : decode cX1_meet 134 = .ok (.istore 13, 2) := by decide +kernel
theorem dX1_meet_136 : decode cX1_meet 136 = .ok (.iload 10, 2) := by decide +kernel
theorem dX1_meet_138 : decode cX1_meet 138 = .ok (.iload 5, 2) := by decide +kernel
theorem dX1_meet_140 : decode cX1_meet 140 = .ok (.imul, 1) := by decide +kernel
theorem dX1_meet_141 : decode cX1_meet 141 = .ok (.iload 11, 2) := by decide +kernel
theorem dX1_meet_143 : decode cX1_meet 143 = .ok (.iload 4, 2) := by decide +kernel
theorem dX1_meet_145 : decode cX1_meet 145 = .ok (.imul, 1) := by decide +kernel
theorem dX1_meet_146 : decode cX1_meet 146 = .ok (.isub, 1) := by decide +kernel
theorem dX1_meet_147 : decode cX1_meet 147 = .ok (.istore 14, 2) := by decide +kernel
theorem dX1_meet_149 : decode cX1_meet 149 = .ok (.iload 13, 2) := by decide +kernel
theorem dX1_meet_151 : decode cX1_meet 151 = .ok (.iload 12, 2) := by decide +kernel
theorem dX1_meet_153 : decode cX1_meet 153 = .ok (.invokestatic 27, 3) := by decide +kernel
theorem dX1_meet_156 : decode cX1_meet 156 = .ok (.ifCond .eq 13, 3) := by decide +kernel
theorem dX1_meet_159 : decode cX1_meet 159 = .ok (.iload 14, 2) := by decide +kernel
theorem dX1_meet_161 : decode cX1_meet 161 = .ok (.iload 12, 2) := by decide +kernel
theorem dX1_meet_163 : decode cX1_meet 163 = .ok (.invokestatic 27, 3) := by decide +kernel
theorem dX1_meet_166 : decode cX1_meet 166 = .ok (.ifCond .ne 5, 3) := by decide +kernel
theorem dX1_meet_169 : decode cX1_meet 169 = .ok (.iconst 0, 1) := by decide +kernel
theorem dX1_meet_170 : decode cX1_meet 170 = .ok (.ireturn, 1) := by decide +kernel
theorem dX1_meet_171 : decode cX1_meet 171 = .ok (.aload_n 0, 1) := by decide +kernel
theorem dX1_meet_172 : decode cX1_meet 172 = .ok (.iload_n 2, 1) := by decide +kernel
theorem dX1_meet_173 : decode cX1_meet 173 = .ok (.putfield 31, 3) := by decide +kernel
theorem dX1_meet_176 : decode cX1_meet 176 = .ok (.aload_n 0, 1) := by decide +kernel
theorem dX1_meet_177 : decode cX1_meet 177 = .ok (.iload_n 3, 1) := by decide +kernel
theorem dX1_meet_178 : decode cX1_meet 178 = .ok (.putfield 35, 3) := by decide +kernel
theorem dX1_meet_181 : decode cX1_meet 181 = .ok (.aload_n 0, 1) := by decide +kernel
theorem dX1_meet_182 : decode cX1_meet 182 = .ok (.iload 12, 2) := by decide +kernel
theorem dX1_meet_184 : decode cX1_meet 184 = .ok (.i2l, 1) := by decide +kernel
theorem dX1_meet_185 : decode cX1_meet 185 = .ok (.putfield 38, 3) := by decide +kernel
theorem dX1_meet_188 : decode cX1_meet 188 = .ok (.aload_n 0, 1) := by decide +kernel
theorem dX1_meet_189 : decode cX1_meet 189 = .ok (.iload 8, 2) := by decide +kernel
theorem dX1_meet_191 : decode cX1_meet 191 = .ok (.i2l, 1) := by decide +kernel
theorem dX1_meet_192 : decode cX1_meet 192 = .ok (.iload 12, 2) := by decide +kernel
theorem dX1_meet_194 : decode cX1_meet 194 = .ok (.i2l, 1) := by decide +kernel
theorem dX1_meet_195 : decode cX1_meet 195 = .ok (.lmul, 1) := by decide +kernel
theorem dX1_meet_196 : decode cX1_meet 196 = .ok (.iload 13, 2) := by decide +kernel
theorem dX1_meet_198 : decode cX1_meet 198 = .ok (.i2l, 1) := by decide +kernel
theorem dX1_meet_199 : decode cX1_meet 199 = .ok (.iload 4, 2) := by decide +kernel
theorem dX1_meet_201 : decode cX1_meet 201 = .ok (.i2l, 1) := by decide +kernel
theorem dX1_meet_202 : decode cX1_meet 202 = .ok (.lmul, 1) := by decide +kernel
theorem dX1_meet_203 : decode cX1_meet 203 = .ok (.ladd, 1) := by decide +kernel
theorem dX1_meet_204 : decode cX1_meet 204 = .ok (.putfield 42, 3) := by decide +kernel
theorem dX1_meet_207 : decode cX1_meet 207 = .ok (.aload_n 0, 1) := by decide +kernel
theorem dX1_meet_208 : decode cX1_meet 208 = .ok (.iload 9, 2) := by decide +kernel
theorem dX1_meet_210 : decode cX1_meet 210 = .ok (.i2l, 1) := by decide +kernel
theorem dX1_meet_211 : decode cX1_meet 211 = .ok (.iload 12, 2) := by decide +kernel
theorem dX1_meet_213 : decode cX1_meet 213 = .ok (.i2l, 1) := by decide +kernel
theorem dX1_meet_214 : decode cX1_meet 214 = .ok (.lmul, 1) := by decide +kernel
theorem dX1_meet_215 : decode cX1_meet 215 = .ok (.iload 13, 2) := by decide +kernel
theorem dX1_meet_217 : decode cX1_meet 217 = .ok (.i2l, 1) := by decide +kernel
theorem dX1_meet_218 : decode cX1_meet 218 = .ok (.iload 5, 2) := by decide +kernel
theorem dX1_meet_220 : decode cX1_meet 220 = .ok (.i2l, 1) := by decide +kernel
theorem dX1_meet_221 : decode cX1_meet 221 = .ok (.lmul, 1) := by decide +kernel
theorem dX1_meet_222 : decode cX1_meet 222 = .ok (.ladd, 1) := by decide +kernel
theorem dX1_meet_223 : decode cX1_meet 223 = .ok (.putfield 45, 3) := by decide +kernel
theorem dX1_meet_226 : decode cX1_meet 226 = .ok (.iconst 1, 1) := by decide +kernel
theorem dX1_meet_227 : decode cX1_meet 227 = .ok (.ireturn, 1) := by decide +kernel
theorem dX1_isInside_0 : decode cX1_isInside 0 = .ok (.iload_n 1, 1) := by decide +kernel
theorem dX1_isInside_1 : decode cX1_isInside 1 = .ok (.ifCond .le 20, 3) := by decide +kernel
theorem dX1_isInside_4 : decode cX1_isInside 4 = .ok (.iload_n 0, 1) := by decide +kernel
theorem dX1_isInside_5 : decode cX1_isInside 5 = .ok (.ifCond .le 12, 3) := by decide +kernel
theorem dX1_isInside_8 : decode cX1_isInside 8 = .ok (.iload_n 0, 1) := by decide +kernel
theorem dX1_isInside_9 : decode cX1_isInside 9 = .ok (.iload_n 1, 1) := by decide +kernel
theorem dX1_isInside_10 : decode cX1_isInside 10 = .ok (.if_icmp .ge 7, 3) := by decide +kernel
theorem dX1_isInside_13 : decode cX1_isInside 13 = .ok (.iconst 1, 1) := by decide +kernel
theorem dX1_isInside_14 : decode cX1_isInside 14 = .ok (.goto 21, 3) := by decide +kernel
theorem dX1_isInside_17 : decode cX1_isInside 17 = .ok (.iconst 0, 1) := by decide +kernel
theorem dX1_isInside_18 : decode cX1_isInside 18 = .ok (.goto 17, 3) := by decide +kernel
theorem dX1_isInside_21 : decode cX1_isInside 21 = .ok (.iload_n 0, 1) := by decide +kernel
theorem dX1_isInside_22 : decode cX1_isInside 22 = .ok (.ifCond .ge 12, 3) := by decide +kernel
theorem dX1_isInside_25 : decode cX1_isInside 25 = .ok (.iload_n 0, 1) := by decide +kernel
theorem dX1_isInside_26 : decode cX1_isInside 26 = .ok (.iload_n 1, 1) := by decide +kernel
theorem dX1_isInside_27 : decode cX1_isInside 27 = .ok (.if_icmp .le 7, 3) := by decide +kernel
theorem dX1_isInside_30 : decode cX1_isInside 30 = .ok (.iconst 1, 1) := by decide +kernel
theorem dX1_isInside_31 : decode cX1_isInside 31 = .ok (.goto 4, 3) := by decide +kernel
theorem dX1_isInside_34 : decode cX1_isInside 34 = .ok (.iconst 0, 1) := by decide +kernel
theorem dX1_isInside_35 : decode cX1_isInside 35 = .ok (.ireturn, 1) := by decide +kernel
theorem dX2_init_0 : decode cX2_init 0 = .ok (.aload_n 0, 1) := by decide +kernel
theorem dX2_init_1 : decode cX2_init 1 = .ok (.invokespecial 5, 3) := by decide +kernel
theorem dX2_init_4 : decode cX2_init 4 = .ok (.aload_n 0, 1) := by decide +kernel
theorem dX2_init_5 : decode cX2_init 5 = .ok (.bipush 10, 2) := by decide +kernel
theorem dX2_init_7 : decode cX2_init 7 = .ok (.bipush 11, 2) := by decide +kernel
theorem dX2_init_9 : decode cX2_init 9 = .ok (.multianewarray 13 2, 4) := by decide +kernel
theorem dX2_init_13 : decode cX2_init 13 = .ok (.putfield 15, 3) := by decide +kernel
theorem dX2_init_16 : decode cX2_init 16 = .ok (.aload_n 0, 1) := by decide +kernel
theorem dX2_init_17 : decode cX2_init 17 = .ok (.bipush 10, 2) := by decide +kernel
theorem dX2_init_19 : decode cX2_init 19 = .ok (.newarray .int, 2) := by decide +kernel
theorem dX2_init_21 : decode cX2_init 21 = .ok (.putfield 18, 3) := by decide +kernel
theorem dX2_init_24 : decode cX2_init 24 = .ok (.return_, 1) := by decide +kernel
theorem dX2_first_0 : decode cX2_first 0 = .ok (.iconst 0, 1) := by decide +kernel
theorem dX2_first_1 : decode cX2_first 1 = .ok (.istore_n 3, 1) := by decide +kernel
theorem dX2_first_2 : decode cX2_first 2 = .ok (.aload_n 0, 1) := by decide +kernel
theorem dX2_first_3 : decode cX2_first 3 = .ok (.aload_n 1, 1) := by decide +kernel
theorem dX2_first_4 : decode cX2_first 4 = .ok (.invokevirtual 22, 3) := by decide +kernel
theorem dX2_first_7 : decode cX2_first 7 = .ok (.putfield 28, 3) := by decide +kernel
theorem dX2_first_10 : decode cX2_first 10 = .ok (.iconst 0, 1) := by decide +kernel
theorem dX2_first_11 : decode cX2_first 11 = .ok (.istore 4, 2) := by decide +kernel
theorem dX2_first_13 : decode cX2_first 13 = .ok (.iload 4, 2) := by decide +kernel
theorem dX2_first_15 : decode cX2_first 15 = .ok (.iconst 2, 1) := by decide +kernel
theorem dX2_first_16 : decode cX2_first 16 = .ok (.aload_n 1, 1) := by decide +kernel
theorem dX2_first_17 : decode cX2_first 17 = .ok (.getfield 32, 3) := by decide +kernel
theorem dX2_first_20 : decode cX2_first 20 = .ok (.imul, 1) := by decide +kernel
theorem dX2_first_21 : decode cX2_first 21 = .ok (.if_icmp .ge 94, 3) := by decide +kernel
theorem dX2_first_24 : decode cX2_first 24 = .ok (.aload_n 1, 1) := by decide +kernel
theorem dX2_first_25 : decode cX2_first 25 = .ok (.iload 4, 2) := by decide +kernel
theorem dX2_first_27 : decode cX2_first 27 = .ok (.invokevirtual 35, 3) := by decide +kernel
theorem dX2_first_30 : decode cX2_first 30 = .ok (.ifCond .ne 6, 3) := by decide +kernel
theorem dX2_first_33 : decode cX2_first 33 = .ok (.goto 76, 3) := by decide +kernel
theorem dX2_first_36 : decode cX2_first 36 = .ok (.aload_n 0, 1) := by decide +kernel
theorem dX2_first_37 : decode cX2_first 37 = .ok (.aload_n 0, 1) := by decide +kernel
theorem dX2_first_38 : decode cX2_first 38 = .ok (.getfield 15, 3) := by decide +kernel
theorem dX2_first_41 : decode cX2_first 41 = .ok (.iload_n 3, 1) := by decide +kernel
theorem dX2_first_42 : decode cX2_first 42 = .ok (.aaload, 1) := by decide +kernel
theorem dX2_first_43 : decode cX2_first 43 = .ok (.aload_n 1, 1) := by decide +kernel
theorem dX2_first_44 : decode cX2_first 44 = .ok (.iload_n 2, 1) := by decide +kernel
theorem dX2_first_45 : decode cX2_first 45 = .ok (.iload 4, 2) := by decide +kernel
theorem dX2_first_47 : decode cX2_first 47 = .ok (.invokevirtual 39, 3) := by decide +kernel
theorem dX2_first_50 : decode cX2_first 50 = .ok (.aload_n 0, 1) := by decide +kernel
theorem dX2_first_51 : decode cX2_first 51 = .ok (.iload_n 3, 1) := by decide +kernel
theorem dX2_first_52 : decode cX2_first 52 = .ok (.invokevirtual 43, 3) := by decide +kernel
theorem dX2_first_55 : decode cX2_first 55 = .ok (.aload_n 0, 1) := by decide +kernel
theorem dX2_first_56 : decode cX2_first 56 = .ok (.aload_n 0, 1) := by decide +kernel
theorem dX2_first_57 : decode cX2_first 57 = .ok (.getfield 15, 3) := by decide +kernel
theorem dX2_first_60 : decode cX2_first 60 = .ok (.iload_n 3, 1) := by decide +kernel
theorem dX2_first_61 : decode cX2_first 61 = .ok (.aaload, 1) := by decide +kernel
theorem dX2_first_62 : decode cX2_first 62 = .ok (.invokevirtual 47, 3) := by decide +kernel
theorem dX2_first_65 : decode cX2_first 65 = .ok (.istore 5, 2) := by decide +kernel
theorem dX2_first_67 : decode cX2_first 67 = .ok (.iload 5, 2) := by decide +kernel
theorem dX2_first_69 : decode cX2_first 69 = .ok (.aload_n 0, 1) := by decide +kernel
theorem dX2_first_70 : decode cX2_first 70 = .ok (.getfield 28, 3) := by decide +kernel
theorem dX2_first_73 : decode cX2_first 73 = .ok (.if_icmp .ge 17, 3) := by decide +kernel
theorem dX2_first_76 : decode cX2_first 76 = .ok (.aload_n 0, 1) := by decide +kernel
theorem dX2_first_77 : decode cX2_first 77 = .ok (.getfield 18, 3) := by decide +kernel
theorem dX2_first_80 : decode cX2_first 80 = .ok (.iload_n 3, 1) := by decide +kernel
theorem dX2_first_81 : decode cX2_first 81 = .ok (.iload 5, 2) := by decide +kernel
theorem dX2_first_83 : decode cX2_first 83 = .ok (.iastore, 1) := by decide +kernel
theorem dX2_first_84 : decode cX2_first 84 = .ok (.iinc 3 1, 3) := by decide +kernel
theorem dX2_first_87 : decode cX2_first 87 = .ok (.goto 22, 3) := by decide +kernel
theorem dX2_first_90 : decode cX2_first 90 = .ok (.aload_n 0, 1) := by decide +kernel
theorem dX2_first_91 : decode cX2_first 91 = .ok (.getfield 15, 3) := by decide +kernel
theorem dX2_first_94 : decode cX2_first 94 = .ok (.iload_n 3, 1) := by decide +kernel
theorem dX2_first_95 : decode cX2_first 95 = .ok (.aaload, 1) := by decide +kernel
theorem dX2_first_96 : decode cX2_first 96 = .ok (.aload_n 0, 1) := by decide +kernel
theorem dX2_first_97 : decode cX2_first 97 = .ok (.getfield 28, 3) := by decide +kernel
theorem dX2_first_100 : decode cX2_first 100 = .ok (.laload, 1) := by decide +kernel
theorem dX2_first_101 : decode cX2_first 101 = .ok (.lconst 0, 1) := by decide +kernel
theorem dX2_first_102 : decode cX2_first 102 = .ok (.lcmp, 1) := by decide +kernel
theorem dX2_first_103 : decode cX2_first 103 = .ok (.ifCond .eq 6, 3) := by decide +kernel
theorem dX2_first_106 : decode cX2_first 106 = .ok (.iload 4, 2) := by decide +kernel
theorem dX2_first_108 : decode cX2_first 108 = .ok (.ireturn, 1) := by decide +kernel
theorem dX2_first_109 : decode cX2_first 109 = .ok (.iinc 4 1, 3) := by decide +kernel
theorem dX2_first_112 : decode cX2_first 112 = .ok (.goto (-99), 3) := by decide +kernel
theorem dX2_first_115 : decode cX2_first 115 = .ok (.iconst (-1), 1) := by decide +kernel
theorem dX2_first_116 : decode cX2_first 116 = .ok (.ireturn, 1) := by decide +kernel
theorem dX2_lay_0 : decode cX2_lay 0 = .ok (.iconst 0, 1) := by decide +kernel
theorem dX2_lay_1 : decode cX2_lay 1 = .ok (.istore 5, 2) := by decide +kernel
theorem dX2_lay_3 : decode cX2_lay 3 = .ok (.iload 5, 2) := by decide +kernel
theorem dX2_lay_5 : decode cX2_lay 5 = .ok (.aload_n 0, 1) := by decide +kernel
theorem dX2_lay_6 : decode cX2_lay 6 = .ok (.getfield 28, 3) := by decide +kernel
theorem dX2_lay_9 : decode cX2_lay 9 = .ok (.if_icmp .ge 35, 3) := by decide +kernel
theorem dX2_lay_12 : decode cX2_lay 12 = .ok (.aload_n 1, 1) := by decide +kernel
theorem dX2_lay_13 : decode cX2_lay 13 = .ok (.iload 5, 2) := by decide +kernel
theorem dX2_lay_15 : decode cX2_lay 15 = .ok (.iload_n 3, 1) := by decide +kernel
theorem dX2_lay_16 : decode cX2_lay 16 = .ok (.iload 5, 2) := by decide +kernel
theorem dX2_lay_18 : decode cX2_lay 18 = .ok (.ishr, 1) := by decide +kernel
theorem dX2_lay_19 : decode cX2_lay 19 = .ok (.iconst 1, 1) := by decide +kernel
theorem dX2_lay_20 : decode cX2_lay 20 = .ok (.iand, 1) := by decide +kernel
theorem dX2_lay_21 : decode cX2_lay 21 = .ok (.ifCond .ne 7, 3) := by decide +kernel
theorem dX2_lay_24 : decode cX2_lay 24 = .ok (.lconst 0, 1) := by decide +kernel
theorem dX2_lay_25 : decode cX2_lay 25 = .ok (.goto 12, 3) := by decide +kernel
theorem dX2_lay_28 : decode cX2_lay 28 = .ok (.aload_n 2, 1) := by decide +kernel
theorem dX2_lay_29 : decode cX2_lay 29 = .ok (.iload 5, 2) := by decide +kernel
theorem dX2_lay_31 : decode cX2_lay 31 = .ok (.iload 4, 2) := by decide +kernel
theorem dX2_lay_33 : decode cX2_lay 33 = .ok (.invokevirtual 51, 3) := by decide +kernel
theorem dX2_lay_36 : decode cX2_lay 36 = .ok (.i2l, 1) := by decide +kernel
theorem dX2_lay_37 : decode cX2_lay 37 = .ok (.lastore, 1) := by decide +kernel
theorem dX2_lay_38 : decode cX2_lay 38 = .ok (.iinc 5 1, 3) := by decide +kernel
theorem dX2_lay_41 : decode cX2_lay 41 = .ok (.goto (-38), 3) := by decide +kernel
theorem dX2_lay_44 : decode cX2_lay 44 = .ok (.aload_n 1, 1) := by decide +kernel
theorem dX2_lay_45 : decode cX2_lay 45 = .ok (.aload_n 0, 1) := by decide +kernel
theorem dX2_lay_46 : decode cX2_lay 46 = .ok (.getfield 28, 3) := by decide +kernel
theorem dX2_lay_49 : decode cX2_lay 49 = .ok (.aload_n 2, 1) := by decide +kernel
theorem dX2_lay_50 : decode cX2_lay 50 = .ok (.getfield 55, 3) := by decide +kernel
theorem dX2_lay_53 : decode cX2_lay 53 = .ok (.iload 4, 2) := by decide +kernel
theorem dX2_lay_55 : decode cX2_lay 55 = .ok (.iaload, 1) := by decide +kernel
theorem dX2_lay_56 : decode cX2_lay 56 = .ok (.ineg, 1) := by decide +kernel
theorem dX2_lay_57 : decode cX2_lay 57 = .ok (.i2l, 1) := by decide +kernel
theorem dX2_lay_58 : decode cX2_lay 58 = .ok (.lastore, 1) := by decide +kernel
theorem dX2_lay_59 : decode cX2_lay 59 = .ok (.return_, 1) := by decide +kernel
theorem dX2_reduce_0 : decode cX2_reduce 0 = .ok (.aload_n 0, 1) := by decide +kernel
theorem dX2_reduce_1 : decode cX2_reduce 1 = .ok (.getfield 15, 3) := by decide +kernel
theorem dX2_reduce_4 : decode cX2_reduce 4 = .ok (.iload_n 1, 1) := by decide +kernel
theorem dX2_reduce_5 : decode cX2_reduce 5 = .ok (.aaload, 1) := by decide +kernel
theorem dX2_reduce_6 : decode cX2_reduce 6 = .ok (.astore_n 2, 1) := by decide +kernel
theorem dX2_reduce_7 : decode cX2_reduce 7 = .ok (.lconst 1, 1) := by decide +kernel
theorem dX2_reduce_8 : decode cX2_reduce 8 = .ok (.lstore_n 3, 1) := by decide +kernel
theorem dX2_reduce_9 : decode cX2_reduce 9 = .ok (.iconst 0, 1) := by decide +kernel
theorem dX2_reduce_10 : decode cX2_reduce 10 = .ok (.istore 5, 2) := by decide +kernel
theorem dX2_reduce_12 : decode cX2_reduce 12 = .ok (.iload 5, 2) := by decide +kernel
theorem dX2_reduce_14 : decode cX2_reduce 14 = .ok (.iload_n 1, 1) := by decide +kernel
theorem dX2_reduce_15 : decode cX2_reduce 15 = .ok (.if_icmp .ge 90, 3) := by decide +kernel
theorem dX2_reduce_18 : decode cX2_reduce 18 = .ok (.lload_n 3, 1) := by decide +kernel
theorem dX2_reduce_19 : decode cX2_reduce 19 = .ok (.lconst 0, 1) := by decide +kernel
theorem dX2_reduce_20 : decode cX2_reduce 20 = .ok (.lcmp, 1) := by decide +kernel
theorem dX2_reduce_21 : decode cX2_reduce 21 = .ok (.ifCond .eq 84, 3) := by decide +kernel
theorem dX2_reduce_24 : decode cX2_reduce 24 = .ok (.aload_n 0, 1) := by decide +kernel
theorem dX2_reduce_25 : decode cX2_reduce 25 = .ok (.getfield 15, 3) := by decide +kernel
theorem dX2_reduce_28 : decode cX2_reduce 28 = .ok (.iload 5, 2) := by decide +kernel
theorem dX2_reduce_30 : decode cX2_reduce 30 = .ok (.aaload, 1) := by decide +kernel
theorem dX2_reduce_31 : decode cX2_reduce 31 = .ok (.astore 6, 2) := by decide +kernel
theorem dX2_reduce_33 : decode cX2_reduce 33 = .ok (.aload 6, 2) := by decide +kernel
theorem dX2_reduce_35 : decode cX2_reduce 35 = .ok (.aload_n 0, 1) := by decide +kernel
theorem dX2_reduce_36 : decode cX2_reduce 36 = .ok (.getfield 18, 3) := by decide +kernel
theorem dX2_reduce_39 : decode cX2_reduce 39 = .ok (.iload 5, 2) := by decide +kernel
theorem dX2_reduce_41 : decode cX2_reduce 41 = .ok (.iaload, 1) := by decide +kernel
theorem dX2_reduce_42 : decode cX2_reduce 42 = .ok (.laload, 1) := by decide +kernel
theorem dX2_reduce_43 : decode cX2_reduce 43 = .ok (.lstore 7, 2) := by decide +kernel
theorem dX2_reduce_45 : decode cX2_reduce 45 = .ok (.aload_n 2, 1) := by decide +kernel
theorem dX2_reduce_46 : decode cX2_reduce 46 = .ok (.aload_n 0, 1) := by decide +kernel
theorem dX2_reduce_47 : decode cX2_reduce 47 = .ok (.getfield 18, 3) := by decide +kernel
theorem dX2_reduce_50 : decode cX2_reduce 50 = .ok (.iload 5, 2) := by decide +kernel
theorem dX2_reduce_52 : decode cX2_reduce 52 = .ok (.iaload, 1) := by decide +kernel
theorem dX2_reduce_53 : decode cX2_reduce 53 = .ok (.laload, 1) := by decide +kernel
theorem dX2_reduce_54 : decode cX2_reduce 54 = .ok (.lstore 9, 2) := by decide +kernel
theorem dX2_reduce_56 : decode cX2_reduce 56 = .ok (.iconst 0, 1) := by decide +kernel
theorem dX2_reduce_57 : decode cX2_reduce 57 = .ok (.istore 11, 2) := by decide +kernel
theorem dX2_reduce_59 : decode cX2_reduce 59 = .ok (.iload 11, 2) := by decide +kernel
theorem dX2_reduce_61 : decode cX2_reduce 61 = .ok (.aload_n 0, 1) := by decide +kernel
theorem dX2_reduce_62 : decode cX2_reduce 62 = .ok (.getfield 28, 3) := by decide +kernel
theorem dX2_reduce_65 : decode cX2_reduce 65 = .ok (.if_icmp .gt 31, 3) := by decide +kernel
theorem dX2_reduce_68 : decode cX2_reduce 68 = .ok (.aload_n 2, 1) := by decide +kernel
theorem dX2_reduce_69 : decode cX2_reduce 69 = .ok (.iload 11, 2) := by decide +kernel
theorem dX2_reduce_71 : decode cX2_reduce 71 = .ok (.lload 7, 2) := by decide +kernel
theorem dX2_reduce_73 : decode cX2_reduce 73 = .ok (.aload_n 2, 1) := by decide +kernel
theorem dX2_reduce_74 : decode cX2_reduce 74 = .ok (.iload 11, 2) := by decide +kernel
theorem dX2_reduce_76 : decode cX2_reduce 76 = .ok (.laload, 1) := by decide +kernel
theorem dX2_reduce_77 : decode cX2_reduce 77 = .ok (.lmul, 1) := by decide +kernel
theorem dX2_reduce_78 : decode cX2_reduce 78 = .ok (.lload 9, 2) := by decide +kernel
theorem dX2_reduce_80 : decode cX2_reduce 80 = .ok (.aload 6, 2) := by decide +kernel
theorem dX2_reduce_82 : decode cX2_reduce 82 = .ok (.iload 11, 2) := by decide +kernel
theorem dX2_reduce_84 : decode cX2_reduce 84 = .ok (.laload, 1) := by decide +kernel
theorem dX2_reduce_85 : decode cX2_reduce 85 = .ok (.lmul, 1) := by decide +kernel
theorem dX2_reduce_86 : decode cX2_reduce 86 = .ok (.lsub, 1) := by decide +kernel
theorem dX2_reduce_87 : decode cX2_reduce 87 = .ok (.lload_n 3, 1) := by decide +kernel
theorem dX2_reduce_88 : decode cX2_reduce 88 = .ok (.ldiv, 1) := by decide +kernel
theorem dX2_reduce_89 : decode cX2_reduce 89 = .ok (.lastore, 1) := by decide +kernel
theorem dX2_reduce_90 : decode cX2_reduce 90 = .ok (.iinc 11 1, 3) := by decide +kernel
theorem dX2_reduce_93 : decode cX2_reduce 93 = .ok (.goto (-34), 3) := by decide +kernel
theorem dX2_reduce_96 : decode cX2_reduce 96 = .ok (.lload 7, 2) := by decide +kernel
theorem dX2_reduce_98 : decode cX2_reduce 98 = .ok (.lstore_n 3, 1) := by decide +kernel
theorem dX2_reduce_99 : decode cX2_reduce 99 = .ok (.iinc 5 1, 3) := by decide +kernel
theorem dX2_reduce_102 : decode cX2_reduce 102 = .ok (.goto (-90), 3) := by decide +kernel
theorem dX2_reduce_105 : decode cX2_reduce 105 = .ok (.return_, 1) := by decide +kernel
theorem dX2_firstOther_0 : decode cX2_firstOther 0 = .ok (.iconst 0, 1) := by decide +kernel
theorem dX2_firstOther_1 : decode cX2_firstOther 1 = .ok (.istore_n 2, 1) := by decide +kernel
theorem dX2_firstOther_2 : decode cX2_firstOther 2 = .ok (.iload_n 2, 1) := by decide +kernel
theorem dX2_firstOther_3 : decode cX2_firstOther 3 = .ok (.aload_n 0, 1) := by decide +kernel
theorem dX2_firstOther_4 : decode cX2_firstOther 4 = .ok (.getfield 28, 3) := by decide +kernel
theorem dX2_firstOther_7 : decode cX2_firstOther 7 = .ok (.if_icmp .ge 17, 3) := by decide +kernel
theorem dX2_firstOther_10 : decode cX2_firstOther 10 = .ok (.aload_n 1, 1) := by decide +kernel
theorem dX2_firstOther_11 : decode cX2_firstOther 11 = .ok (.iload_n 2, 1) := by decide +kernel
theorem dX2_firstOther_12 : decode cX2_firstOther 12 = .ok (.laload, 1) := by decide +kernel
theorem dX2_firstOther_13 : decode cX2_firstOther 13 = .ok (.lconst 0, 1) := by decide +kernel
theorem dX2_firstOther_14 : decode cX2_firstOther 14 = .ok (.lcmp, 1) := by decide +kernel
theorem dX2_firstOther_15 : decode cX2_firstOther 15 = .ok (.ifCond .ne 9, 3) := by decide +kernel
theorem dX2_firstOther_18 : decode cX2_firstOther 18 = .ok (.iinc 2 1, 3) := by decide +kernel
theorem dX2_firstOther_21 : decode cX2_firstOther 21 = .ok (.goto (-19), 3) := by decide +kernel
theorem dX2_firstOther_24 : decode cX2_firstOther 24 = .ok (.iload_n 2, 1) := by decide +kernel
theorem dX2_firstOther_25 : decode cX2_firstOther 25 = .ok (.ireturn, 1) := by decide +kernel
theorem dX3_init_0 : decode cX3_init 0 = .ok (.aload_n 0, 1) := by decide +kernel
theorem dX3_init_1 : decode cX3_init 1 = .ok (.invokespecial 3, 3) := by decide +kernel
theorem dX3_init_4 : decode cX3_init 4 = .ok (.aload_n 0, 1) := by decide +kernel
theorem dX3_init_5 : decode cX3_init 5 = .ok (.bipush 10, 2) := by decide +kernel
theorem dX3_init_7 : decode cX3_init 7 = .ok (.newarray .int, 2) := by decide +kernel
theorem dX3_init_9 : decode cX3_init 9 = .ok (.putfield 9, 3) := by decide +kernel
theorem dX3_init_12 : decode cX3_init 12 = .ok (.aload_n 0, 1) := by decide +kernel
theorem dX3_init_13 : decode cX3_init 13 = .ok (.iconst 5, 1) := by decide +kernel
theorem dX3_init_14 : decode cX3_init 14 = .ok (.newarray .int, 2) := by decide +kernel
theorem dX3_init_16 : decode cX3_init 16 = .ok (.putfield 15, 3) := by decide +kernel
theorem dX3_init_19 : decode cX3_init 19 = .ok (.aload_n 0, 1) := by decide +kernel
theorem dX3_init_20 : decode cX3_init 20 = .ok (.bipush 10, 2) := by decide +kernel
theorem dX3_init_22 : decode cX3_init 22 = .ok (.newarray .int, 2) := by decide +kernel
theorem dX3_init_24 : decode cX3_init 24 = .ok (.putfield 18, 3) := by decide +kernel
theorem dX3_init_27 : decode cX3_init 27 = .ok (.aload_n 0, 1) := by decide +kernel
theorem dX3_init_28 : decode cX3_init 28 = .ok (.bipush 10, 2) := by decide +kernel
theorem dX3_init_30 : decode cX3_init 30 = .ok (.newarray .int, 2) := by decide +kernel
theorem dX3_init_32 : decode cX3_init 32 = .ok (.putfield 21, 3) := by decide +kernel
theorem dX3_init_35 : decode cX3_init 35 = .ok (.aload_n 0, 1) := by decide +kernel
theorem dX3_init_36 : decode cX3_init 36 = .ok (.bipush 20, 2) := by decide +kernel
theorem dX3_init_38 : decode cX3_init 38 = .ok (.newarray .int, 2) := by decide +kernel
theorem dX3_init_40 : decode cX3_init 40 = .ok (.putfield 24, 3) := by decide +kernel
theorem dX3_init_43 : decode cX3_init 43 = .ok (.aload_n 0, 1) := by decide +kernel
theorem dX3_init_44 : decode cX3_init 44 = .ok (.bipush 10, 2) := by decide +kernel
theorem dX3_init_46 : decode cX3_init 46 = .ok (.newarray .int, 2) := by decide +kernel
theorem dX3_init_48 : decode cX3_init 48 = .ok (.putfield 27, 3) := by decide +kernel
theorem dX3_init_51 : decode cX3_init 51 = .ok (.return_, 1) := by decide +kernel
theorem dX3_hasPoint_0 : decode cX3_hasPoint 0 = .ok (.iload_n 1, 1) := by decide +kernel
theorem dX3_hasPoint_1 : decode cX3_hasPoint 1 = .ok (.ifCond .lt 15, 3) := by decide +kernel
theorem dX3_hasPoint_4 : decode cX3_hasPoint 4 = .ok (.iload_n 1, 1) := by decide +kernel
theorem dX3_hasPoint_5 : decode cX3_hasPoint 5 = .ok (.aload_n 0, 1) := by decide +kernel
theorem dX3_hasPoint_6 : decode cX3_hasPoint 6 = .ok (.getfield 30, 3) := by decide +kernel
theorem dX3_hasPoint_9 : decode cX3_hasPoint 9 = .ok (.if_icmp .ge 7, 3) := by decide +kernel
theorem dX3_hasPoint_12 : decode cX3_hasPoint 12 = .ok (.iconst 1, 1) := by decide +kernel
theorem dX3_hasPoint_13 : decode cX3_hasPoint 13 = .ok (.goto 4, 3) := by decide +kernel
theorem dX3_hasPoint_16 : decode cX3_hasPoint 16 = .ok (.iconst 0, 1) := by decide +kernel
theorem dX3_hasPoint_17 : decode cX3_hasPoint 17 = .ok (.ireturn, 1) := by decide +kernel
theorem dX3_isTaken_0 : decode cX3_isTaken 0 = .ok (.iconst 0, 1) := by decide +kernel
theorem dX3_isTaken_1 : decode cX3_isTaken 1 = .ok (.istore_n 3, 1) := by decide +kernel
theorem dX3_isTaken_2 : decode cX3_isTaken 2 = .ok (.iload_n 3, 1) := by decide +kernel
theorem dX3_isTaken_3 : decode cX3_isTaken 3 = .ok (.aload_n 0, 1) := by decide +kernel
theorem dX3_isTaken_4 : decode cX3_isTaken 4 = .ok (.getfield 30, 3) := by decide +kernel
theorem dX3_isTaken_7 : decode cX3_isTaken 7 = .ok (.if_icmp .ge 37, 3) := by decide +kernel
theorem dX3_isTaken_10 : decode cX3_isTaken 10 = .ok (.aload_n 0, 1) := by decide +kernel
theorem dX3_isTaken_11 : decode cX3_isTaken 11 = .ok (.getfield 9, 3) := by decide +kernel
theorem dX3_isTaken_14 : decode cX3_isTaken 14 = .ok (.iconst 2, 1) := by decide +kernel
theorem dX3_isTaken_15 : decode cX3_isTaken 15 = .ok (.iload_n 3, 1) := by decide +kernel
theorem dX3_isTaken_16 : decode cX3_isTaken 16 = .ok (.imul, 1) := by decide +kernel
theorem dX3_isTaken_17 : decode cX3_isTaken 17 = .ok (.iaload, 1) := by decide +kernel
theorem dX3_isTaken_18 : decode cX3_isTaken 18 = .ok (.iload_n 1, 1) := by decide +kernel
theorem dX3_isTaken_19 : decode cX3_isTaken 19 = .ok (.if_icmp .ne 19, 3) := by decide +kernel
theorem dX3_isTaken_22 : decode cX3_isTaken 22 = .ok (.aload_n 0, 1) := by decide +kernel
theorem dX3_isTaken_23 : decode cX3_isTaken 23 = .ok (.getfield 9, 3) := by decide +kernel
theorem dX3_isTaken_26 : decode cX3_isTaken 26 = .ok (.iconst 2, 1) := by decide +kernel
theorem dX3_isTaken_27 : decode cX3_isTaken 27 = .ok (.iload_n 3, 1) := by decide +kernel
theorem dX3_isTaken_28 : decode cX3_isTaken 28 = .ok (.imul, 1) := by decide +kernel
theorem dX3_isTaken_29 : decode cX3_isTaken 29 = .ok (.iconst 1, 1) := by decide +kernel
theorem dX3_isTaken_30 : decode cX3_isTaken 30 = .ok (.iadd, 1) := by decide +kernel
theorem dX3_isTaken_31 : decode cX3_isTaken 31 = .ok (.iaload, 1) := by decide +kernel
theorem dX3_isTaken_32 : decode cX3_isTaken 32 = .ok (.iload_n 2, 1) := by decide +kernel
theorem dX3_isTaken_33 : decode cX3_isTaken 33 = .ok (.if_icmp .ne 5, 3) := by decide +kernel
theorem dX3_isTaken_36 : decode cX3_isTaken 36 = .ok (.iconst 1, 1) := by decide +kernel
theorem dX3_isTaken_37 : decode cX3_isTaken 37 = .ok (.ireturn, 1) := by decide +kernel
theorem dX3_isTaken_38 : decode cX3_isTaken 38 = .ok (.iinc 3 1, 3) := by decide +kernel
theorem dX3_isTaken_41 : decode cX3_isTaken 41 = .ok (.goto (-39), 3) := by decide +kernel
theorem dX3_isTaken_44 : decode cX3_isTaken 44 = .ok (.iconst 0, 1) := by decide +kernel
theorem dX3_isTaken_45 : decode cX3_isTaken 45 = .ok (.ireturn, 1) := by decide +kernel
theorem dX3_add_0 : decode cX3_add 0 = .ok (.aload_n 0, 1) := by decide +kernel
theorem dX3_add_1 : decode cX3_add 1 = .ok (.getfield 30, 3) := by decide +kernel
theorem dX3_add_4 : decode cX3_add 4 = .ok (.istore_n 3, 1) := by decide +kernel
theorem dX3_add_5 : decode cX3_add 5 = .ok (.aload_n 0, 1) := by decide +kernel
theorem dX3_add_6 : decode cX3_add 6 = .ok (.getfield 9, 3) := by decide +kernel
theorem dX3_add_9 : decode cX3_add 9 = .ok (.iconst 2, 1) := by decide +kernel
theorem dX3_add_10 : decode cX3_add 10 = .ok (.iload_n 3, 1) := by decide +kernel
theorem dX3_add_11 : decode cX3_add 11 = .ok (.imul, 1) := by decide +kernel
theorem dX3_add_12 : decode cX3_add 12 = .ok (.iload_n 1, 1) := by decide +kernel
theorem dX3_add_13 : decode cX3_add 13 = .ok (.iastore, 1) := by decide +kernel
theorem dX3_add_14 : decode cX3_add 14 = .ok (.aload_n 0, 1) := by decide +kernel
theorem dX3_add_15 : decode cX3_add 15 = .ok (.getfield 9, 3) := by decide +kernel
theorem dX3_add_18 : decode cX3_add 18 = .ok (.iconst 2, 1) := by decide +kernel
theorem dX3_add_19 : decode cX3_add 19 = .ok (.iload_n 3, 1) := by decide +kernel
theorem dX3_add_20 : decode cX3_add 20 = .ok (.imul, 1) := by decide +kernel
theorem dX3_add_21 : decode cX3_add 21 = .ok (.iconst 1, 1) := by decide +kernel
theorem dX3_add_22 : decode cX3_add 22 = .ok (.iadd, 1) := by decide +kernel
theorem dX3_add_23 : decode cX3_add 23 = .ok (.iload_n 2, 1) := by decide +kernel
theorem dX3_add_24 : decode cX3_add 24 = .ok (.iastore, 1) := by decide +kernel
theorem dX3_add_25 : decode cX3_add 25 = .ok (.aload_n 0, 1) := by decide +kernel
theorem dX3_add_26 : decode cX3_add 26 = .ok (.getfield 15, 3) := by decide +kernel
theorem dX3_add_29 : decode cX3_add 29 = .ok (.iload_n 3, 1) := by decide +kernel
theorem dX3_add_30 : decode cX3_add 30 = .ok (.iconst 0, 1) := by decide +kernel
theorem dX3_add_31 : decode cX3_add 31 = .ok (.iastore, 1) := by decide +kernel
theorem dX3_add_32 : decode cX3_add 32 = .ok (.iconst 2, 1) := by decide +kernel
theorem dX3_add_33 : decode cX3_add 33 = .ok (.iload_n 3, 1) := by decide +kernel
theorem dX3_add_34 : decode cX3_add 34 = .ok (.imul, 1) := by decide +kernel
theorem dX3_add_35 : decode cX3_add 35 = .ok (.istore 4, 2) := by decide +kernel
theorem dX3_add_37 : decode cX3_add 37 = .ok (.iload 4, 2) := by decide +kernel
theorem dX3_add_39 : decode cX3_add 39 = .ok (.iconst 2, 1) := by decide +kernel
theorem dX3_add_40 : decode cX3_add 40 = .ok (.iload_n 3, 1) := by decide +kernel
theorem dX3_add_41 : decode cX3_add 41 = .ok (.imul, 1) := by decide +kernel
theorem dX3_add_42 : decode cX3_add 42 = .ok (.iconst 2, 1) := by decide +kernel
theorem dX3_add_43 : decode cX3_add 43 = .ok (.iadd, 1) := by decide +kernel
theorem dX3_add_44 : decode cX3_add 44 = .ok (.if_icmp .ge 25, 3) := by decide +kernel
theorem dX3_add_47 : decode cX3_add 47 = .ok (.aload_n 0, 1) := by decide +kernel
theorem dX3_add_48 : decode cX3_add 48 = .ok (.getfield 18, 3) := by decide +kernel
theorem dX3_add_51 : decode cX3_add 51 = .ok (.iload 4, 2) := by decide +kernel
theorem dX3_add_53 : decode cX3_add 53 = .ok (.iconst 0, 1) := by decide +kernel
theorem dX3_add_54 : decode cX3_add 54 = .ok (.iastore, 1) := by decide +kernel
theorem dX3_add_55 : decode cX3_add 55 = .ok (.aload_n 0, 1) := by decide +kernel
theorem dX3_add_56 : decode cX3_add 56 = .ok (.getfield 21, 3) := by decide +kernel
theorem dX3_add_59 : decode cX3_add 59 = .ok (.iload 4, 2) := by decide +kernel
theorem dX3_add_61 : decode cX3_add 61 = .ok (.iconst 0, 1) := by decide +kernel
theorem dX3_add_62 : decode cX3_add 62 = .ok (.iastore, 1) := by decide +kernel
theorem dX3_add_63 : decode cX3_add 63 = .ok (.iinc 4 1, 3) := by decide +kernel
theorem dX3_add_66 : decode cX3_add 66 = .ok (.goto (-29), 3) := by decide +kernel
theorem dX3_add_69 : decode cX3_add 69 = .ok (.aload_n 0, 1) := by decide +kernel
theorem dX3_add_70 : decode cX3_add 70 = .ok (.invokevirtual 34, 3) := by decide +kernel
theorem dX3_add_73 : decode cX3_add 73 = .ok (.istore 4, 2) := by decide +kernel
theorem dX3_add_75 : decode cX3_add 75 = .ok (.aload_n 0, 1) := by decide +kernel
theorem dX3_add_76 : decode cX3_add 76 = .ok (.dup, 1) := by decide +kernel
theorem dX3_add_77 : decode cX3_add 77 = .ok (.getfield 30, 3) := by decide +kernel
theorem dX3_add_80 : decode cX3_add 80 = .ok (.iconst 1, 1) := by decide +kernel
theorem dX3_add_81 : decode cX3_add 81 = .ok (.iadd, 1) := by decide +kernel
theorem dX3_add_82 : decode cX3_add 82 = .ok (.putfield 30, 3) := by decide +kernel
theorem dX3_add_85 : decode cX3_add 85 = .ok (.iload 4, 2) := by decide +kernel
theorem dX3_add_87 : decode cX3_add 87 = .ok (.istore 5, 2) := by decide +kernel
theorem dX3_add_89 : decode cX3_add 89 = .ok (.iload 5, 2) := by decide +kernel
theorem dX3_add_91 : decode cX3_add 91 = .ok (.aload_n 0, 1) := by decide +kernel
theorem dX3_add_92 : decode cX3_add 92 = .ok (.invokevirtual 34, 3) := by decide +kernel
theorem dX3_add_95 : decode cX3_add 95 = .ok (.if_icmp .ge 15, 3) := by decide +kernel
theorem dX3_add_98 : decode cX3_add 98 = .ok (.aload_n 0, 1) := by decide +kernel
theorem dX3_add_99 : decode cX3_add 99 = .ok (.iload 5, 2) := by decide +kernel
theorem dX3_add_101 : decode cX3_add 101 = .ok (.invokevirtual 38, 3) := by decide +kernel
theorem dX3_add_104 : decode cX3_add 104 = .ok (.iinc 5 1, 3) := by decide +kernel
theorem dX3_add_107 : decode cX3_add 107 = .ok (.goto (-18), 3) := by decide +kernel
theorem dX3_add_110 : decode cX3_add 110 = .ok (.iload_n 3, 1) := by decide +kernel
theorem dX3_add_111 : decode cX3_add 111 = .ok (.ireturn, 1) := by decide +kernel
theorem dX3_measure_0 : decode cX3_measure 0 = .ok (.aload_n 0, 1) := by decide +kernel
theorem dX3_measure_1 : decode cX3_measure 1 = .ok (.getfield 9, 3) := by decide +kernel
theorem dX3_measure_4 : decode cX3_measure 4 = .ok (.iconst 2, 1) := by decide +kernel
theorem dX3_measure_5 : decode cX3_measure 5 = .ok (.getstatic 42, 3) := by decide +kernel
theorem dX3_measure_8 : decode cX3_measure 8 = .ok (.iload_n 1, 1) := by decide +kernel
theorem dX3_measure_9 : decode cX3_measure 9 = .ok (.iaload, 1) := by decide +kernel
theorem dX3_measure_10 : decode cX3_measure 10 = .ok (.imul, 1) := by decide +kernel
theorem dX3_measure_11 : decode cX3_measure 11 = .ok (.iaload, 1) := by decide +kernel
theorem dX3_measure_12 : decode cX3_measure 12 = .ok (.aload_n 0, 1) := by decide +kernel
theorem dX3_measure_13 : decode cX3_measure 13 = .ok (.getfield 9, 3) := by decide +kernel
theorem dX3_measure_16 : decode cX3_measure 16 = .ok (.iconst 2, 1) := by decide +kernel
theorem dX3_measure_17 : decode cX3_measure 17 = .ok (.getstatic 45, 3) := by decide +kernel
theorem dX3_measure_20 : decode cX3_measure 20 = .ok (.iload_n 1, 1) := by decide +kernel
theorem dX3_measure_21 : decode cX3_measure 21 = .ok (.iaload, 1) := by decide +kernel
theorem dX3_measure_22 : decode cX3_measure 22 = .ok (.imul, 1) := by decide +kernel
theorem dX3_measure_23 : decode cX3_measure 23 = .ok (.iaload, 1) := by decide +kernel
theorem dX3_measure_24 : decode cX3_measure 24 = .ok (.isub, 1) := by decide +kernel
theorem dX3_measure_25 : decode cX3_measure 25 = .ok (.istore_n 2, 1) := by decide +kernel
theorem dX3_measure_26 : decode cX3_measure 26 = .ok (.aload_n 0, 1) := by decide +kernel
theorem dX3_measure_27 : decode cX3_measure 27 = .ok (.getfield 9, 3) := by decide +kernel
theorem dX3_measure_30 : decode cX3_measure 30 = .ok (.iconst 2, 1) := by decide +kernel
theorem dX3_measure_31 : decode cX3_measure 31 = .ok (.getstatic 42, 3) := by decide +kernel
theorem dX3_measure_34 : decode cX3_measure 34 = .ok (.iload_n 1, 1) := by decide +kernel
theorem dX3_measure_35 : decode cX3_measure 35 = .ok (.iaload, 1) := by decide +kernel
theorem dX3_measure_36 : decode cX3_measure 36 = .ok (.imul, 1) := by decide +kernel
theorem dX3_measure_37 : decode cX3_measure 37 = .ok (.iconst 1, 1) := by decide +kernel
theorem dX3_measure_38 : decode cX3_measure 38 = .ok (.iadd, 1) := by decide +kernel
theorem dX3_measure_39 : decode cX3_measure 39 = .ok (.iaload, 1) := by decide +kernel
theorem dX3_measure_40 : decode cX3_measure 40 = .ok (.aload_n 0, 1) := by decide +kernel
theorem dX3_measure_41 : decode cX3_measure 41 = .ok (.getfield 9, 3) := by decide +kernel
theorem dX3_measure_44 : decode cX3_measure 44 = .ok (.iconst 2, 1) := by decide +kernel
theorem dX3_measure_45 : decode cX3_measure 45 = .ok (.getstatic 45, 3) := by decide +kernel
theorem dX3_measure_48 : decode cX3_measure 48 = .ok (.iload_n 1, 1) := by decide +kernel
theorem dX3_measure_49 : decode cX3_measure 49 = .ok (.iaload, 1) := by decide +kernel
theorem dX3_measure_50 : decode cX3_measure 50 = .ok (.imul, 1) := by decide +kernel
theorem dX3_measure_51 : decode cX3_measure 51 = .ok (.iconst 1, 1) := by decide +kernel
theorem dX3_measure_52 : decode cX3_measure 52 = .ok (.iadd, 1) := by decide +kernel
theorem dX3_measure_53 : decode cX3_measure 53 = .ok (.iaload, 1) := by decide +kernel
theorem dX3_measure_54 : decode cX3_measure 54 = .ok (.isub, 1) := by decide +kernel
theorem dX3_measure_55 : decode cX3_measure 55 = .ok (.istore_n 3, 1) := by decide +kernel
theorem dX3_measure_56 : decode cX3_measure 56 = .ok (.aload_n 0, 1) := by decide +kernel
theorem dX3_measure_57 : decode cX3_measure 57 = .ok (.getfield 24, 3) := by decide +kernel
theorem dX3_measure_60 : decode cX3_measure 60 = .ok (.iconst 2, 1) := by decide +kernel
theorem dX3_measure_61 : decode cX3_measure 61 = .ok (.iload_n 1, 1) := by decide +kernel
theorem dX3_measure_62 : decode cX3_measure 62 = .ok (.imul, 1) := by decide +kernel
theorem dX3_measure_63 : decode cX3_measure 63 = .ok (.iload_n 2, 1) := by decide +kernel
theorem dX3_measure_64 : decode cX3_measure 64 = .ok (.iastore, 1) := by decide +kernel
theorem dX3_measure_65 : decode cX3_measure 65 = .ok (.aload_n 0, 1) := by decide +kernel
theorem dX3_measure_66 : decode cX3_measure 66 = .ok (.getfield 24, 3) := by decide +kernel
theorem dX3_measure_69 : decode cX3_measure 69 = .ok (.iconst 2, 1) := by decide +kernel
theorem dX3_measure_70 : decode cX3_measure 70 = .ok (.iload_n 1, 1) := by decide +kernel
theorem dX3_measure_71 : decode cX3_measure 71 = .ok (.imul, 1) := by decide +kernel
theorem dX3_measure_72 : decode cX3_measure 72 = .ok (.iconst 1, 1) := by decide +kernel
theorem dX3_measure_73 : decode cX3_measure 73 = .ok (.iadd, 1) := by decide +kernel
theorem dX3_measure_74 : decode cX3_measure 74 = .ok (.iload_n 3, 1) := by decide +kernel
theorem dX3_measure_75 : decode cX3_measure 75 = .ok (.iastore, 1) := by decide +kernel
theorem dX3_measure_76 : decode cX3_measure 76 = .ok (.aload_n 0, 1) := by decide +kernel
theorem dX3_measure_77 : decode cX3_measure 77 = .ok (.getfield 27, 3) := by decide +kernel
theorem dX3_measure_80 : decode cX3_measure 80 = .ok (.iload_n 1, 1) := by decide +kernel
theorem dX3_measure_81 : decode cX3_measure 81 = .ok (.iload_n 2, 1) := by decide +kernel
theorem dX3_measure_82 : decode cX3_measure 82 = .ok (.iload_n 2, 1) := by decide +kernel
theorem dX3_measure_83 : decode cX3_measure 83 = .ok (.imul, 1) := by decide +kernel
theorem dX3_measure_84 : decode cX3_measure 84 = .ok (.iload_n 3, 1) := by decide +kernel
theorem dX3_measure_85 : decode cX3_measure 85 = .ok (.iload_n 3, 1) := by decide +kernel
theorem dX3_measure_86 : decode cX3_measure 86 = .ok (.imul, 1) := by decide +kernel
theorem dX3_measure_87 : decode cX3_measure 87 = .ok (.iadd, 1) := by decide +kernel
theorem dX3_measure_88 : decode cX3_measure 88 = .ok (.iastore, 1) := by decide +kernel
theorem dX3_measure_89 : decode cX3_measure 89 = .ok (.return_, 1) := by decide +kernel
theorem dX3_pairs_0 : decode cX3_pairs 0 = .ok (.aload_n 0, 1) := by decide +kernel
theorem dX3_pairs_1 : decode cX3_pairs 1 = .ok (.getfield 30, 3) := by decide +kernel
theorem dX3_pairs_4 : decode cX3_pairs 4 = .ok (.aload_n 0, 1) := by decide +kernel
theorem dX3_pairs_5 : decode cX3_pairs 5 = .ok (.getfield 30, 3) := by decide +kernel
theorem dX3_pairs_8 : decode cX3_pairs 8 = .ok (.iconst 1, 1) := by decide +kernel
theorem dX3_pairs_9 : decode cX3_pairs 9 = .ok (.isub, 1) := by decide +kernel
theorem dX3_pairs_10 : decode cX3_pairs 10 = .ok (.imul, 1) := by decide +kernel
theorem dX3_pairs_11 : decode cX3_pairs 11 = .ok (.iconst 2, 1) := by decide +kernel
theorem dX3_pairs_12 : decode cX3_pairs 12 = .ok (.idiv, 1) := by decide +kernel
theorem dX3_pairs_13 : decode cX3_pairs 13 = .ok (.ireturn, 1) := by decide +kernel
theorem dX3_everyPair_0 : decode cX3_everyPair 0 = .ok (.iconst 1, 1) := by decide +kernel
theorem dX3_everyPair_1 : decode cX3_everyPair 1 = .ok (.aload_n 0, 1) := by decide +kernel
theorem dX3_everyPair_2 : decode cX3_everyPair 2 = .ok (.invokevirtual 34, 3) := by decide +kernel
theorem dX3_everyPair_5 : decode cX3_everyPair 5 = .ok (.ishl, 1) := by decide +kernel
theorem dX3_everyPair_6 : decode cX3_everyPair 6 = .ok (.iconst 1, 1) := by decide +kernel
theorem dX3_everyPair_7 : decode cX3_everyPair 7 = .ok (.isub, 1) := by decide +kernel
theorem dX3_everyPair_8 : decode cX3_everyPair 8 = .ok (.ireturn, 1) := by decide +kernel
theorem dX3_hasPair_0 : decode cX3_hasPair 0 = .ok (.iload_n 1, 1) := by decide +kernel
theorem dX3_hasPair_1 : decode cX3_hasPair 1 = .ok (.ifCond .lt 15, 3) := by decide +kernel
theorem dX3_hasPair_4 : decode cX3_hasPair 4 = .ok (.iload_n 1, 1) := by decide +kernel
theorem dX3_hasPair_5 : decode cX3_hasPair 5 = .ok (.aload_n 0, 1) := by decide +kernel
theorem dX3_hasPair_6 : decode cX3_hasPair 6 = .ok (.invokevirtual 34, 3) := by decide +kernel
theorem dX3_hasPair_9 : decode cX3_hasPair 9 = .ok (.if_icmp .ge 7, 3) := by decide +kernel
theorem dX3_hasPair_12 : decode cX3_hasPair 12 = .ok (.iconst 1, 1) := by decide +kernel
theorem dX3_hasPair_13 : decode cX3_hasPair 13 = .ok (.goto 4, 3) := by decide +kernel
theorem dX3_hasPair_16 : decode cX3_hasPair 16 = .ok (.iconst 0, 1) := by decide +kernel
theorem dX3_hasPair_17 : decode cX3_hasPair 17 = .ok (.ireturn, 1) := by decide +kernel
theorem dX3_isFree_0 : decode cX3_isFree 0 = .ok (.aload_n 0, 1) := by decide +kernel
theorem dX3_isFree_1 : decode cX3_isFree 1 = .ok (.getfield 15, 3) := by decide +kernel
theorem dX3_isFree_4 : decode cX3_isFree 4 = .ok (.iload_n 1, 1) := by decide +kernel
theorem dX3_isFree_5 : decode cX3_isFree 5 = .ok (.iconst 2, 1) := by decide +kernel
theorem dX3_isFree_6 : decode cX3_isFree 6 = .ok (.idiv, 1) := by decide +kernel
theorem dX3_isFree_7 : decode cX3_isFree 7 = .ok (.iaload, 1) := by decide +kernel
theorem dX3_isFree_8 : decode cX3_isFree 8 = .ok (.iload_n 1, 1) := by decide +kernel
theorem dX3_isFree_9 : decode cX3_isFree 9 = .ok (.iconst 2, 1) := by decide +kernel
theorem dX3_isFree_10 : decode cX3_isFree 10 = .ok (.irem, 1) := by decide +kernel
theorem dX3_isFree_11 : decode cX3_isFree 11 = .ok (.ishr, 1) := by decide +kernel
theorem dX3_isFree_12 : decode cX3_isFree 12 = .ok (.iconst 1, 1) := by decide +kernel
theorem dX3_isFree_13 : decode cX3_isFree 13 = .ok (.iand, 1) := by decide +kernel
theorem dX3_isFree_14 : decode cX3_isFree 14 = .ok (.ifCond .ne 7, 3) := by decide +kernel
theorem dX3_isFree_17 : decode cX3_isFree 17 = .ok (.iconst 1, 1) := by decide +kernel
theorem dX3_isFree_18 : decode cX3_isFree 18 = .ok (.goto 4, 3) := by decide +kernel
theorem dX3_isFree_21 : decode cX3_isFree 21 = .ok (.iconst 0, 1) := by decide +kernel
theorem dX3_isFree_22 : decode cX3_isFree 22 = .ok (.ireturn, 1) := by decide +kernel
theorem dX3_ways_0 : decode cX3_ways 0 = .ok (.iconst 0, 1) := by decide +kernel
theorem dX3_ways_1 : decode cX3_ways 1 = .ok (.istore_n 1, 1) := by decide +kernel
theorem dX3_ways_2 : decode cX3_ways 2 = .ok (.iconst 0, 1) := by decide +kernel
theorem dX3_ways_3 : decode cX3_ways 3 = .ok (.istore_n 2, 1) := by decide +kernel
theorem dX3_ways_4 : decode cX3_ways 4 = .ok (.iload_n 2, 1) := by decide +kernel
theorem dX3_ways_5 : decode cX3_ways 5 = .ok (.iconst 2, 1) := by decide +kernel
theorem dX3_ways_6 : decode cX3_ways 6 = .ok (.aload_n 0, 1) := by decide +kernel
theorem dX3_ways_7 : decode cX3_ways 7 = .ok (.getfield 30, 3) := by decide +kernel
theorem dX3_ways_10 : decode cX3_ways 10 = .ok (.imul, 1) := by decide +kernel
theorem dX3_ways_11 : decode cX3_ways 11 = .ok (.if_icmp .ge 25, 3) := by decide +kernel
theorem dX3_ways_14 : decode cX3_ways 14 = .ok (.iload_n 1, 1) := by decide +kernel
theorem dX3_ways_15 : decode cX3_ways 15 = .ok (.aload_n 0, 1) := by decide +kernel
theorem dX3_ways_16 : decode cX3_ways 16 = .ok (.iload_n 2, 1) := by decide +kernel
theorem dX3_ways_17 : decode cX3_ways 17 = .ok (.invokevirtual 48, 3) := by decide +kernel
theorem dX3_ways_20 : decode cX3_ways 20 = .ok (.ifCond .eq 7, 3) := by decide +kernel
theorem dX3_ways_23 : decode cX3_ways 23 = .ok (.iconst 1, 1) := by decide +kernel
theorem dX3_ways_24 : decode cX3_ways 24 = .ok (.goto 4, 3) := by decide +kernel
theorem dX3_ways_27 : decode cX3_ways 27 = .ok (.iconst 0, 1) := by decide +kernel
theorem dX3_ways_28 : decode cX3_ways 28 = .ok (.iadd, 1) := by decide +kernel
theorem dX3_ways_29 : decode cX3_ways 29 = .ok (.istore_n 1, 1) := by decide +kernel
theorem dX3_ways_30 : decode cX3_ways 30 = .ok (.iinc 2 1, 3) := by decide +kernel
theorem dX3_ways_33 : decode cX3_ways 33 = .ok (.goto (-29), 3) := by decide +kernel
theorem dX3_ways_36 : decode cX3_ways 36 = .ok (.iload_n 1, 1) := by decide +kernel
theorem dX3_ways_37 : decode cX3_ways 37 = .ok (.ireturn, 1) := by decide +kernel
theorem dX3_brought_0 : decode cX3_brought 0 = .ok (.aload_n 0, 1) := by decide +kernel
theorem dX3_brought_1 : decode cX3_brought 1 = .ok (.getfield 24, 3) := by decide +kernel
theorem dX3_brought_4 : decode cX3_brought 4 = .ok (.iconst 2, 1) := by decide +kernel
theorem dX3_brought_5 : decode cX3_brought 5 = .ok (.iload_n 1, 1) := by decide +kernel
theorem dX3_brought_6 : decode cX3_brought 6 = .ok (.imul, 1) := by decide +kernel
theorem dX3_brought_7 : decode cX3_brought 7 = .ok (.iload_n 2, 1) := by decide +kernel
theorem dX3_brought_8 : decode cX3_brought 8 = .ok (.iconst 2, 1) := by decide +kernel
theorem dX3_brought_9 : decode cX3_brought 9 = .ok (.irem, 1) := by decide +kernel
theorem dX3_brought_10 : decode cX3_brought 10 = .ok (.iadd, 1) := by decide +kernel
theorem dX3_brought_11 : decode cX3_brought 11 = .ok (.iaload, 1) := by decide +kernel
theorem dX3_brought_12 : decode cX3_brought 12 = .ok (.istore_n 3, 1) := by decide +kernel
theorem dX3_brought_13 : decode cX3_brought 13 = .ok (.iload_n 2, 1) := by decide +kernel
theorem dX3_brought_14 : decode cX3_brought 14 = .ok (.iconst 2, 1) := by decide +kernel
theorem dX3_brought_15 : decode cX3_brought 15 = .ok (.idiv, 1) := by decide +kernel
theorem dX3_brought_16 : decode cX3_brought 16 = .ok (.getstatic 45, 3) := by decide +kernel
theorem dX3_brought_19 : decode cX3_brought 19 = .ok (.iload_n 1, 1) := by decide +kernel
theorem dX3_brought_20 : decode cX3_brought 20 = .ok (.iaload, 1) := by decide +kernel
theorem dX3_brought_21 : decode cX3_brought 21 = .ok (.if_icmp .ne 5, 3) := by decide +kernel
theorem dX3_brought_24 : decode cX3_brought 24 = .ok (.iload_n 3, 1) := by decide +kernel
theorem dX3_brought_25 : decode cX3_brought 25 = .ok (.ireturn, 1) := by decide +kernel
theorem dX3_brought_26 : decode cX3_brought 26 = .ok (.iload_n 2, 1) := by decide +kernel
theorem dX3_brought_27 : decode cX3_brought 27 = .ok (.iconst 2, 1) := by decide +kernel
theorem dX3_brought_28 : decode cX3_brought 28 = .ok (.idiv, 1) := by decide +kernel
theorem dX3_brought_29 : decode cX3_brought 29 = .ok (.getstatic 42, 3) := by decide +kernel
theorem dX3_brought_32 : decode cX3_brought 32 = .ok (.iload_n 1, 1) := by decide +kernel
theorem dX3_brought_33 : decode cX3_brought 33 = .ok (.iaload, 1) := by decide +kernel
theorem dX3_brought_34 : decode cX3_brought 34 = .ok (.if_icmp .ne 8, 3) := by decide +kernel
theorem dX3_brought_37 : decode cX3_brought 37 = .ok (.iload_n 3, 1) := by decide +kernel
theorem dX3_brought_38 : decode cX3_brought 38 = .ok (.ineg, 1) := by decide +kernel
theorem dX3_brought_39 : decode cX3_brought 39 = .ok (.goto 4, 3) := by decide +kernel
theorem dX3_brought_42 : decode cX3_brought 42 = .ok (.iconst 0, 1) := by decide +kernel
theorem dX3_brought_43 : decode cX3_brought 43 = .ok (.ireturn, 1) := by decide +kernel
theorem dX3_stretchParts_0 : decode cX3_stretchParts 0 = .ok (.iconst 0, 1) := by decide +kernel
theorem dX3_stretchParts_1 : decode cX3_stretchParts 1 = .ok (.istore_n 2, 1) := by decide +kernel
theorem dX3_stretchParts_2 : decode cX3_stretchParts 2 = .ok (.iconst 0, 1) := by decide +kernel
theorem dX3_stretchParts_3 : decode cX3_stretchParts 3 = .ok (.istore_n 3, 1) := by decide +kernel
theorem dX3_stretchParts_4 : decode cX3_stretchParts 4 = .ok (.iload_n 3, 1) := by decide +kernel
theorem dX3_stretchParts_5 : decode cX3_stretchParts 5 = .ok (.iconst 2, 1) := by decide +kernel
theorem dX3_stretchParts_6 : decode cX3_stretchParts 6 = .ok (.if_icmp .ge 54, 3) := by decide +kernel
theorem dX3_stretchParts_9 : decode cX3_stretchParts 9 = .ok (.aload_n 0, 1) := by decide +kernel
theorem dX3_stretchParts_10 : decode cX3_stretchParts 10 = .ok (.iconst 2, 1) := by decide +kernel
theorem dX3_stretchParts_11 : decode cX3_stretchParts 11 = .ok (.getstatic 42, 3) := by decide +kernel
theorem dX3_stretchParts_14 : decode cX3_stretchParts 14 = .ok (.iload_n 1, 1) := by decide +kernel
theorem dX3_stretchParts_15 : decode cX3_stretchParts 15 = .ok (.iaload, 1) := by decide +kernel
theorem dX3_stretchParts_16 : decode cX3_stretchParts 16 = .ok (.imul, 1) := by decide +kernel
theorem dX3_stretchParts_17 : decode cX3_stretchParts 17 = .ok (.iload_n 3, 1) := by decide +kernel
theorem dX3_stretchParts_18 : decode cX3_stretchParts 18 = .ok (.iadd, 1) := by decide +kernel
theorem dX3_stretchParts_19 : decode cX3_stretchParts 19 = .ok (.invokevirtual 52, 3) := by decide +kernel
theorem dX3_stretchParts_22 : decode cX3_stretchParts 22 = .ok (.aload_n 0, 1) := by decide +kernel
theorem dX3_stretchParts_23 : decode cX3_stretchParts 23 = .ok (.iconst 2, 1) := by decide +kernel
theorem dX3_stretchParts_24 : decode cX3_stretchParts 24 = .ok (.getstatic 45, 3) := by decide +kernel
theorem dX3_stretchParts_27 : decode cX3_stretchParts 27 = .ok (.iload_n 1, 1) := by decide +kernel
theorem dX3_stretchParts_28 : decode cX3_stretchParts 28 = .ok (.iaload, 1) := by decide +kernel
theorem dX3_stretchParts_29 : decode cX3_stretchParts 29 = .ok (.imul, 1) := by decide +kernel
theorem dX3_stretchParts_30 : decode cX3_stretchParts 30 = .ok (.iload_n 3, 1) := by decide +kernel
theorem dX3_stretchParts_31 : decode cX3_stretchParts 31 = .ok (.iadd, 1) := by decide +kernel
theorem dX3_stretchParts_32 : decode cX3_stretchParts 32 = .ok (.invokevirtual 52, 3) := by decide +kernel
theorem dX3_stretchParts_35 : decode cX3_stretchParts 35 = .ok (.isub, 1) := by decide +kernel
theorem dX3_stretchParts_36 : decode cX3_stretchParts 36 = .ok (.istore 4, 2) := by decide +kernel
theorem dX3_stretchParts_38 : decode cX3_stretchParts 38 = .ok (.iload_n 2, 1) := by decide +kernel
theorem dX3_stretchParts_39 : decode cX3_stretchParts 39 = .ok (.iload 4, 2) := by decide +kernel
theorem dX3_stretchParts_41 : decode cX3_stretchParts 41 = .ok (.aload_n 0, 1) := by decide +kernel
theorem dX3_stretchParts_42 : decode cX3_stretchParts 42 = .ok (.getfield 24, 3) := by decide +kernel
theorem dX3_stretchParts_45 : decode cX3_stretchParts 45 = .ok (.iconst 2, 1) := by decide +kernel
theorem dX3_stretchParts_46 : decode cX3_stretchParts 46 = .ok (.iload_n 1, 1) := by decide +kernel
theorem dX3_stretchParts_47 : decode cX3_stretchParts 47 = .ok (.imul, 1) := by decide +kernel
theorem dX3_stretchParts_48 : decode cX3_stretchParts 48 = .ok (.iload_n 3, 1) := by decide +kernel
theorem dX3_stretchParts_49 : decode cX3_stretchParts 49 = .ok (.iadd, 1) := by decide +kernel
theorem dX3_stretchParts_50 : decode cX3_stretchParts 50 = .ok (.iaload, 1) := by decide +kernel
theorem dX3_stretchParts_51 : decode cX3_stretchParts 51 = .ok (.imul, 1) := by decide +kernel
theorem dX3_stretchParts_52 : decode cX3_stretchParts 52 = .ok (.iadd, 1) := by decide +kernel
theorem dX3_stretchParts_53 : decode cX3_stretchParts 53 = .ok (.istore_n 2, 1) := by decide +kernel
theorem dX3_stretchParts_54 : decode cX3_stretchParts 54 = .ok (.iinc 3 1, 3) := by decide +kernel
theorem dX3_stretchParts_57 : decode cX3_stretchParts 57 = .ok (.goto (-53), 3) := by decide +kernel
theorem dX3_stretchParts_60 : decode cX3_stretchParts 60 = .ok (.iload_n 2, 1) := by decide +kernel
theorem dX3_stretchParts_61 : decode cX3_stretchParts 61 = .ok (.i2l, 1) := by decide +kernel
theorem dX3_stretchParts_62 : decode cX3_stretchParts 62 = .ok (.lreturn, 1) := by decide +kernel
theorem dX3_workParts_0 : decode cX3_workParts 0 = .ok (.iconst 0, 1) := by decide +kernel
theorem dX3_workParts_1 : decode cX3_workParts 1 = .ok (.istore_n 1, 1) := by decide +kernel
theorem dX3_workParts_2 : decode cX3_workParts 2 = .ok (.iconst 0, 1) := by decide +kernel
theorem dX3_workParts_3 : decode cX3_workParts 3 = .ok (.istore_n 2, 1) := by decide +kernel
theorem dX3_workParts_4 : decode cX3_workParts 4 = .ok (.iload_n 2, 1) := by decide +kernel
theorem dX3_workParts_5 : decode cX3_workParts 5 = .ok (.iconst 2, 1) := by decide +kernel
theorem dX3_workParts_6 : decode cX3_workParts 6 = .ok (.aload_n 0, 1) := by decide +kernel
theorem dX3_workParts_7 : decode cX3_workParts 7 = .ok (.getfield 30, 3) := by decide +kernel
theorem dX3_workParts_10 : decode cX3_workParts 10 = .ok (.imul, 1) := by decide +kernel
theorem dX3_workParts_11 : decode cX3_workParts 11 = .ok (.if_icmp .ge 24, 3) := by decide +kernel
theorem dX3_workParts_14 : decode cX3_workParts 14 = .ok (.iload_n 1, 1) := by decide +kernel
theorem dX3_workParts_15 : decode cX3_workParts 15 = .ok (.aload_n 0, 1) := by decide +kernel
theorem dX3_workParts_16 : decode cX3_workParts 16 = .ok (.getfield 18, 3) := by decide +kernel
theorem dX3_workParts_19 : decode cX3_workParts 19 = .ok (.iload_n 2, 1) := by decide +kernel
theorem dX3_workParts_20 : decode cX3_workParts 20 = .ok (.iaload, 1) := by decide +kernel
theorem dX3_workParts_21 : decode cX3_workParts 21 = .ok (.aload_n 0, 1) := by decide +kernel
theorem dX3_workParts_22 : decode cX3_workParts 22 = .ok (.iload_n 2, 1) := by decide +kernel
theorem dX3_workParts_23 : decode cX3_workParts 23 = .ok (.invokevirtual 52, 3) := by decide +kernel
theorem dX3_workParts_26 : decode cX3_workParts 26 = .ok (.imul, 1) := by decide +kernel
theorem dX3_workParts_27 : decode cX3_workParts 27 = .ok (.iadd, 1) := by decide +kernel
theorem dX3_workParts_28 : decode cX3_workParts 28 = .ok (.istore_n 1, 1) := by decide +kernel
theorem dX3_workParts_29 : decode cX3_workParts 29 = .ok (.iinc 2 1, 3) := by decide +kernel
theorem dX3_workParts_32 : decode cX3_workParts 32 = .ok (.goto (-28), 3) := by decide +kernel
theorem dX3_workParts_35 : decode cX3_workParts 35 = .ok (.iload_n 1, 1) := by decide +kernel
theorem dX3_workParts_36 : decode cX3_workParts 36 = .ok (.i2l, 1) := by decide +kernel
theorem dX3_workParts_37 : decode cX3_workParts 37 = .ok (.lreturn, 1) := by decide +kernel
theorem dX3_freeShift_0 : decode cX3_freeShift 0 = .ok (.aload_n 0, 1) := by decide +kernel
theorem dX3_freeShift_1 : decode cX3_freeShift 1 = .ok (.iload_n 1, 1) := by decide +kernel
theorem dX3_freeShift_2 : decode cX3_freeShift 2 = .ok (.invokevirtual 48, 3) := by decide +kernel
theorem dX3_freeShift_5 : decode cX3_freeShift 5 = .ok (.ifCond .eq 12, 3) := by decide +kernel
theorem dX3_freeShift_8 : decode cX3_freeShift 8 = .ok (.aload_n 0, 1) := by decide +kernel
theorem dX3_freeShift_9 : decode cX3_freeShift 9 = .ok (.getfield 21, 3) := by decide +kernel
theorem dX3_freeShift_12 : decode cX3_freeShift 12 = .ok (.iload_n 1, 1) := by decide +kernel
theorem dX3_freeShift_13 : decode cX3_freeShift 13 = .ok (.iaload, 1) := by decide +kernel
theorem dX3_freeShift_14 : decode cX3_freeShift 14 = .ok (.goto 4, 3) := by decide +kernel
theorem dX3_freeShift_17 : decode cX3_freeShift 17 = .ok (.iconst 0, 1) := by decide +kernel
theorem dX3_freeShift_18 : decode cX3_freeShift 18 = .ok (.ireturn, 1) := by decide +kernel
theorem dX4_init_0 : decode cX4_init 0 = .ok (.aload_n 0, 1) := by decide +kernel
theorem dX4_init_1 : decode cX4_init 1 = .ok (.invokespecial 3, 3) := by decide +kernel
theorem dX4_init_4 : decode cX4_init 4 = .ok (.aload_n 0, 1) := by decide +kernel
theorem dX4_init_5 : decode cX4_init 5 = .ok (.bipush 40, 2) := by decide +kernel
theorem dX4_init_7 : decode cX4_init 7 = .ok (.newarray .long, 2) := by decide +kernel
theorem dX4_init_9 : decode cX4_init 9 = .ok (.putfield 9, 3) := by decide +kernel
theorem dX4_init_12 : decode cX4_init 12 = .ok (.aload_n 0, 1) := by decide +kernel
theorem dX4_init_13 : decode cX4_init 13 = .ok (.iconst 1, 1) := by decide +kernel
theorem dX4_init_14 : decode cX4_init 14 = .ok (.putfield 15, 3) := by decide +kernel
theorem dX4_init_17 : decode cX4_init 17 = .ok (.return_, 1) := by decide +kernel
theorem dX4_renew_0 : decode cX4_renew 0 = .ok (.aload_n 0, 1) := by decide +kernel
theorem dX4_renew_1 : decode cX4_renew 1 = .ok (.iconst 0, 1) := by decide +kernel
theorem dX4_renew_2 : decode cX4_renew 2 = .ok (.putfield 15, 3) := by decide +kernel
theorem dX4_renew_5 : decode cX4_renew 5 = .ok (.aload_n 0, 1) := by decide +kernel
theorem dX4_renew_6 : decode cX4_renew 6 = .ok (.iload_n 1, 1) := by decide +kernel
theorem dX4_renew_7 : decode cX4_renew 7 = .ok (.putfield 19, 3) := by decide +kernel
theorem dX4_renew_10 : decode cX4_renew 10 = .ok (.aload_n 0, 1) := by decide +kernel
theorem dX4_renew_11 : decode cX4_renew 11 = .ok (.iload_n 2, 1) := by decide +kernel
theorem dX4_renew_12 : decode cX4_renew 12 = .ok (.putfield 23, 3) := by decide +kernel
theorem dX4_renew_15 : decode cX4_renew 15 = .ok (.iconst 0, 1) := by decide +kernel
theorem dX4_renew_16 : decode cX4_renew 16 = .ok (.istore_n 3, 1) := by decide +kernel
theorem dX4_renew_17 : decode cX4_renew 17 = .ok (.iload_n 3, 1) := by decide +kernel
theorem dX4_renew_18 : decode cX4_renew 18 = .ok (.bipush 40, 2) := by decide +kernel
theorem dX4_renew_20 : decode cX4_renew 20 = .ok (.if_icmp .ge 16, 3) := by decide +kernel
theorem dX4_renew_23 : decode cX4_renew 23 = .ok (.aload_n 0, 1) := by decide +kernel
theorem dX4_renew_24 : decode cX4_renew 24 = .ok (.getfield 9, 3) := by decide +kernel
theorem dX4_renew_27 : decode cX4_renew 27 = .ok (.iload_n 3, 1) := by decide +kernel
theorem dX4_renew_28 : decode cX4_renew 28 = .ok (.lconst 0, 1) := by decide +kernel
theorem dX4_renew_29 : decode cX4_renew 29 = .ok (.lastore, 1) := by decide +kernel
theorem dX4_renew_30 : decode cX4_renew 30 = .ok (.iinc 3 1, 3) := by decide +kernel
theorem dX4_renew_33 : decode cX4_renew 33 = .ok (.goto (-16), 3) := by decide +kernel
theorem dX4_renew_36 : decode cX4_renew 36 = .ok (.return_, 1) := by decide +kernel
theorem dX4_hasItems_0 : decode cX4_hasItems 0 = .ok (.iload_n 1, 1) := by decide +kernel
theorem dX4_hasItems_1 : decode cX4_hasItems 1 = .ok (.ifCond .lt 29, 3) := by decide +kernel
theorem dX4_hasItems_4 : decode cX4_hasItems 4 = .ok (.iload_n 2, 1) := by decide +kernel
theorem dX4_hasItems_5 : decode cX4_hasItems 5 = .ok (.ifCond .lt 25, 3) := by decide +kernel
theorem dX4_hasItems_8 : decode cX4_hasItems 8 = .ok (.iload_n 1, 1) := by decide +kernel
theorem dX4_hasItems_9 : decode cX4_hasItems 9 = .ok (.aload_n 0, 1) := by decide +kernel
theorem dX4_hasItems_10 : decode cX4_hasItems 10 = .ok (.getfield 23, 3) := by decide +kernel
theorem dX4_hasItems_13 : decode cX4_hasItems 13 = .ok (.if_icmp .gt 17, 3) := by decide +kernel
theorem dX4_hasItems_16 : decode cX4_hasItems 16 = .ok (.iload_n 2, 1) := by decide +kernel
theorem dX4_hasItems_17 : decode cX4_hasItems 17 = .ok (.aload_n 0, 1) := by decide +kernel
theorem dX4_hasItems_18 : decode cX4_hasItems 18 = .ok (.getfield 23, 3) := by decide +kernel
theorem dX4_hasItems_21 : decode cX4_hasItems 21 = .ok (.iload_n 1, 1) := by decide +kernel
theorem dX4_hasItems_22 : decode cX4_hasItems 22 = .ok (.isub, 1) := by decide +kernel
theorem dX4_hasItems_23 : decode cX4_hasItems 23 = .ok (.if_icmp .gt 7, 3) := by decide +kernel
theorem dX4_hasItems_26 : decode cX4_hasItems 26 = .ok (.iconst 1, 1) := by decide +kernel
theorem dX4_hasItems_27 : decode cX4_hasItems 27 = .ok (.goto 4, 3) := by decide +kernel
theorem dX4_hasItems_30 : decode cX4_hasItems 30 = .ok (.iconst 0, 1) := by decide +kernel
theorem dX4_hasItems_31 : decode cX4_hasItems 31 = .ok (.ireturn, 1) := by decide +kernel
theorem dX5_init_0 : decode cX5_init 0 = .ok (.aload_n 0, 1) := by decide +kernel
theorem dX5_init_1 : decode cX5_init 1 = .ok (.invokespecial 3, 3) := by decide +kernel
theorem dX5_init_4 : decode cX5_init 4 = .ok (.aload_n 0, 1) := by decide +kernel
theorem dX5_init_5 : decode cX5_init 5 = .ok (.bipush 8, 2) := by decide +kernel
theorem dX5_init_7 : decode cX5_init 7 = .ok (.bipush 110, 2) := by decide +kernel
theorem dX5_init_9 : decode cX5_init 9 = .ok (.multianewarray 11 2, 4) := by decide +kernel
theorem dX5_init_13 : decode cX5_init 13 = .ok (.putfield 13, 3) := by decide +kernel
theorem dX5_init_16 : decode cX5_init 16 = .ok (.aload_n 0, 1) := by decide +kernel
theorem dX5_init_17 : decode cX5_init 17 = .ok (.bipush 8, 2) := by decide +kernel
theorem dX5_init_19 : decode cX5_init 19 = .ok (.newarray .int, 2) := by decide +kernel
theorem dX5_init_21 : decode cX5_init 21 = .ok (.putfield 16, 3) := by decide +kernel
theorem dX5_init_24 : decode cX5_init 24 = .ok (.aload_n 0, 1) := by decide +kernel
theorem dX5_init_25 : decode cX5_init 25 = .ok (.bipush 8, 2) := by decide +kernel
theorem dX5_init_27 : decode cX5_init 27 = .ok (.newarray .int, 2) := by decide +kernel
theorem dX5_init_29 : decode cX5_init 29 = .ok (.putfield 20, 3) := by decide +kernel
theorem dX5_init_32 : decode cX5_init 32 = .ok (.aload_n 0, 1) := by decide +kernel
theorem dX5_init_33 : decode cX5_init 33 = .ok (.bipush 8, 2) := by decide +kernel
theorem dX5_init_35 : decode cX5_init 35 = .ok (.newarray .int, 2) := by decide +kernel
theorem dX5_init_37 : decode cX5_init 37 = .ok (.putfield 23, 3) := by decide +kernel
theorem dX5_init_40 : decode cX5_init 40 = .ok (.aload_n 0, 1) := by decide +kernel
theorem dX5_init_41 : decode cX5_init 41 = .ok (.bipush 8, 2) := by decide +kernel
theorem dX5_init_43 : decode cX5_init 43 = .ok (.newarray .long, 2) := by decide +kernel
theorem dX5_init_45 : decode cX5_init 45 = .ok (.putfield 26, 3) := by decide +kernel
theorem dX5_init_48 : decode cX5_init 48 = .ok (.aload_n 0, 1) := by decide +kernel
theorem dX5_init_49 : decode cX5_init 49 = .ok (.bipush 8, 2) := by decide +kernel
theorem dX5_init_51 : decode cX5_init 51 = .ok (.newarray .long, 2) := by decide +kernel
theorem dX5_init_53 : decode cX5_init 53 = .ok (.putfield 30, 3) := by decide +kernel
theorem dX5_init_56 : decode cX5_init 56 = .ok (.return_, 1) := by decide +kernel
theorem dX5_lay_0 : decode cX5_lay 0 = .ok (.aload_n 0, 1) := by decide +kernel
theorem dX5_lay_1 : decode cX5_lay 1 = .ok (.getfield 13, 3) := by decide +kernel
theorem dX5_lay_4 : decode cX5_lay 4 = .ok (.iconst 0, 1) := by decide +kernel
theorem dX5_lay_5 : decode cX5_lay 5 = .ok (.aaload, 1) := by decide +kernel
theorem dX5_lay_6 : decode cX5_lay 6 = .ok (.astore_n 3, 1) := by decide +kernel
theorem dX5_lay_7 : decode cX5_lay 7 = .ok (.aload_n 0, 1) := by decide +kernel
theorem dX5_lay_8 : decode cX5_lay 8 = .ok (.aload_n 1, 1) := by decide +kernel
theorem dX5_lay_9 : decode cX5_lay 9 = .ok (.invokevirtual 33, 3) := by decide +kernel
theorem dX5_lay_12 : decode cX5_lay 12 = .ok (.putfield 39, 3) := by decide +kernel
theorem dX5_lay_15 : decode cX5_lay 15 = .ok (.aload_n 0, 1) := by decide +kernel
theorem dX5_lay_16 : decode cX5_lay 16 = .ok (.iconst 0, 1) := by decide +kernel
theorem dX5_lay_17 : decode cX5_lay 17 = .ok (.putfield 43, 3) := by decide +kernel
theorem dX5_lay_20 : decode cX5_lay 20 = .ok (.aload_n 0, 1) := by decide +kernel
theorem dX5_lay_21 : decode cX5_lay 21 = .ok (.getfield 23, 3) := by decide +kernel
theorem dX5_lay_24 : decode cX5_lay 24 = .ok (.iconst 0, 1) := by decide +kernel
theorem dX5_lay_25 : decode cX5_lay 25 = .ok (.iconst 0, 1) := by decide +kernel
theorem dX5_lay_26 : decode cX5_lay 26 = .ok (.iastore, 1) := by decide +kernel
theorem dX5_lay_27 : decode cX5_lay 27 = .ok (.aload_n 0, 1) := by decide +kernel
theorem dX5_lay_28 : decode cX5_lay 28 = .ok (.getfield 26, 3) := by decide +kernel
theorem dX5_lay_31 : decode cX5_lay 31 = .ok (.iconst 0, 1) := by decide +kernel
theorem dX5_lay_32 : decode cX5_lay 32 = .ok (.lconst 1, 1) := by decide +kernel
theorem dX5_lay_33 : decode cX5_lay 33 = .ok (.lastore, 1) := by decide +kernel
theorem dX5_lay_34 : decode cX5_lay 34 = .ok (.iconst 0, 1) := by decide +kernel
theorem dX5_lay_35 : decode cX5_lay 35 = .ok (.istore 4, 2) := by decide +kernel
theorem dX5_lay_37 : decode cX5_lay 37 = .ok (.iload 4, 2) := by decide +kernel
theorem dX5_lay_39 : decode cX5_lay 39 = .ok (.iconst 2, 1) := by decide +kernel
theorem dX5_lay_40 : decode cX5_lay 40 = .ok (.aload_n 1, 1) := by decide +kernel
theorem dX5_lay_41 : decode cX5_lay 41 = .ok (.getfield 46, 3) := by decide +kernel
theorem dX5_lay_44 : decode cX5_lay 44 = .ok (.imul, 1) := by decide +kernel
theorem dX5_lay_45 : decode cX5_lay 45 = .ok (.if_icmp .ge 105, 3) := by decide +kernel
theorem dX5_lay_48 : decode cX5_lay 48 = .ok (.aload_n 1, 1) := by decide +kernel
theorem dX5_lay_49 : decode cX5_lay 49 = .ok (.iload 4, 2) := by decide +kernel
theorem dX5_lay_51 : decode cX5_lay 51 = .ok (.invokevirtual 49, 3) := by decide +kernel
theorem dX5_lay_54 : decode cX5_lay 54 = .ok (.ifCond .ne 6, 3) := by decide +kernel
theorem dX5_lay_57 : decode cX5_lay 57 = .ok (.goto 87, 3) := by decide +kernel
theorem dX5_lay_60 : decode cX5_lay 60 = .ok (.aload_n 0, 1) := by decide +kernel
theorem dX5_lay_61 : decode cX5_lay 61 = .ok (.getfield 43, 3) := by decide +kernel
theorem dX5_lay_64 : decode cX5_lay 64 = .ok (.bipush 11, 2) := by decide +kernel
theorem dX5_lay_66 : decode cX5_lay 66 = .ok (.imul, 1) := by decide +kernel
theorem dX5_lay_67 : decode cX5_lay 67 = .ok (.istore 5, 2) := by decide +kernel
theorem dX5_lay_69 : decode cX5_lay 69 = .ok (.iconst 0, 1) := by decide +kernel
theorem dX5_lay_70 : decode cX5_lay 70 = .ok (.istore 6, 2) := by decide +kernel
theorem dX5_lay_72 : decode cX5_lay 72 = .ok (.iload 6, 2) := by decide +kernel
theorem dX5_lay_74 : decode cX5_lay 74 = .ok (.aload_n 0, 1) := by decide +kernel
theorem dX5_lay_75 : decode cX5_lay 75 = .ok (.getfield 39, 3) := by decide +kernel
theorem dX5_lay_78 : decode cX5_lay 78 = .ok (.if_icmp .ge 38, 3) := by decide +kernel
theorem dX5_lay_81 : decode cX5_lay 81 = .ok (.aload_n 3, 1) := by decide +kernel
theorem dX5_lay_82 : decode cX5_lay 82 = .ok (.iload 5, 2) := by decide +kernel
theorem dX5_lay_84 : decode cX5_lay 84 = .ok (.iload 6, 2) := by decide +kernel
theorem dX5_lay_86 : decode cX5_lay 86 = .ok (.iadd, 1) := by decide +kernel
theorem dX5_lay_87 : decode cX5_lay 87 = .ok (.iload_n 2, 1) := by decide +kernel
theorem dX5_lay_88 : decode cX5_lay 88 = .ok (.iload 6, 2) := by decide +kernel
theorem dX5_lay_90 : decode cX5_lay 90 = .ok (.ishr, 1) := by decide +kernel
theorem dX5_lay_91 : decode cX5_lay 91 = .ok (.iconst 1, 1) := by decide +kernel
theorem dX5_lay_92 : decode cX5_lay 92 = .ok (.iand, 1) := by decide +kernel
theorem dX5_lay_93 : decode cX5_lay 93 = .ok (.ifCond .ne 7, 3) := by decide +kernel
theorem dX5_lay_96 : decode cX5_lay 96 = .ok (.lconst 0, 1) := by decide +kernel
theorem dX5_lay_97 : decode cX5_lay 97 = .ok (.goto 12, 3) := by decide +kernel
theorem dX5_lay_100 : decode cX5_lay 100 = .ok (.aload_n 1, 1) := by decide +kernel
theorem dX5_lay_101 : decode cX5_lay 101 = .ok (.iload 6, 2) := by decide +kernel
theorem dX5_lay_103 : decode cX5_lay 103 = .ok (.iload 4, 2) := by decide +kernel
theorem dX5_lay_105 : decode cX5_lay 105 = .ok (.invokevirtual 53, 3) := by decide +kernel
theorem dX5_lay_108 : decode cX5_lay 108 = .ok (.i2l, 1) := by decide +kernel
theorem dX5_lay_109 : decode cX5_lay 109 = .ok (.lastore, 1) := by decide +kernel
theorem dX5_lay_110 : decode cX5_lay 110 = .ok (.iinc 6 1, 3) := by decide +kernel
theorem dX5_lay_113 : decode cX5_lay 113 = .ok (.goto (-41), 3) := by decide +kernel
theorem dX5_lay_116 : decode cX5_lay 116 = .ok (.aload_n 3, 1) := by decide +kernel
theorem dX5_lay_117 : decode cX5_lay 117 = .ok (.iload 5, 2) := by decide +kernel
theorem dX5_lay_119 : decode cX5_lay 119 = .ok (.aload_n 0, 1) := by decide +kernel
theorem dX5_lay_120 : decode cX5_lay 120 = .ok (.getfield 39, 3) := by decide +kernel
theorem dX5_lay_123 : decode cX5_lay 123 = .ok (.iadd, 1) := by decide +kernel
theorem dX5_lay_124 : decode cX5_lay 124 = .ok (.aload_n 1, 1) := by decide +kernel
theorem dX5_lay_125 : decode cX5_lay 125 = .ok (.getfield 57, 3) := by decide +kernel
theorem dX5_lay_128 : decode cX5_lay 128 = .ok (.iload 4, 2) := by decide +kernel
theorem dX5_lay_130 : decode cX5_lay 130 = .ok (.iaload, 1) := by decide +kernel
theorem dX5_lay_131 : decode cX5_lay 131 = .ok (.ineg, 1) := by decide +kernel
theorem dX5_lay_132 : decode cX5_lay 132 = .ok (.i2l, 1) := by decide +kernel
theorem dX5_lay_133 : decode cX5_lay 133 = .ok (.lastore, 1) := by decide +kernel
theorem dX5_lay_134 : decode cX5_lay 134 = .ok (.aload_n 0, 1) := by decide +kernel
theorem dX5_lay_135 : decode cX5_lay 135 = .ok (.dup, 1) := by decide +kernel
theorem dX5_lay_136 : decode cX5_lay 136 = .ok (.getfield 43, 3) := by decide +kernel
theorem dX5_lay_139 : decode cX5_lay 139 = .ok (.iconst 1, 1) := by decide +kernel
theorem dX5_lay_140 : decode cX5_lay 140 = .ok (.iadd, 1) := by decide +kernel
theorem dX5_lay_141 : decode cX5_lay 141 = .ok (.putfield 43, 3) := by decide +kernel
theorem dX5_lay_144 : decode cX5_lay 144 = .ok (.iinc 4 1, 3) := by decide +kernel
theorem dX5_lay_147 : decode cX5_lay 147 = .ok (.goto (-110), 3) := by decide +kernel
theorem dX5_lay_150 : decode cX5_lay 150 = .ok (.return_, 1) := by decide +kernel
theorem dX5_enter_0 : decode cX5_enter 0 = .ok (.aload_n 0, 1) := by decide +kernel
theorem dX5_enter_1 : decode cX5_enter 1 = .ok (.iload_n 1, 1) := by decide +kernel
theorem dX5_enter_2 : decode cX5_enter 2 = .ok (.iload_n 2, 1) := by decide +kernel
theorem dX5_enter_3 : decode cX5_enter 3 = .ok (.invokevirtual 60, 3) := by decide +kernel
theorem dX5_enter_6 : decode cX5_enter 6 = .ok (.istore_n 3, 1) := by decide +kernel
theorem dX5_enter_7 : decode cX5_enter 7 = .ok (.iload_n 3, 1) := by decide +kernel
theorem dX5_enter_8 : decode cX5_enter 8 = .ok (.ifCond .ge 5, 3) := by decide +kernel
theorem dX5_enter_11 : decode cX5_enter 11 = .ok (.iconst 0, 1) := by decide +kernel
theorem dX5_enter_12 : decode cX5_enter 12 = .ok (.ireturn, 1) := by decide +kernel
theorem dX5_enter_13 : decode cX5_enter 13 = .ok (.aload_n 0, 1) := by decide +kernel
theorem dX5_enter_14 : decode cX5_enter 14 = .ok (.getfield 13, 3) := by decide +kernel
theorem dX5_enter_17 : decode cX5_enter 17 = .ok (.iload_n 1, 1) := by decide +kernel
theorem dX5_enter_18 : decode cX5_enter 18 = .ok (.aaload, 1) := by decide +kernel
theorem dX5_enter_19 : decode cX5_enter 19 = .ok (.astore 4, 2) := by decide +kernel
theorem dX5_enter_21 : decode cX5_enter 21 = .ok (.aload_n 0, 1) := by decide +kernel
theorem dX5_enter_22 : decode cX5_enter 22 = .ok (.getfield 13, 3) := by decide +kernel
theorem dX5_enter_25 : decode cX5_enter 25 = .ok (.iload_n 1, 1) := by decide +kernel
theorem dX5_enter_26 : decode cX5_enter 26 = .ok (.iconst 1, 1) := by decide +kernel
theorem dX5_enter_27 : decode cX5_enter 27 = .ok (.iadd, 1) := by decide +kernel
theorem dX5_enter_28 : decode cX5_enter 28 = .ok (.aaload, 1) := by decide +kernel
theorem dX5_enter_29 : decode cX5_enter 29 = .ok (.astore 5, 2) := by decide +kernel
theorem dX5_enter_31 : decode cX5_enter 31 = .ok (.iload_n 3, 1) := by decide +kernel
theorem dX5_enter_32 : decode cX5_enter 32 = .ok (.bipush 11, 2) := by decide +kernel
theorem dX5_enter_34 : decode cX5_enter 34 = .ok (.imul, 1) := by decide +kernel
theorem dX5_enter_35 : decode cX5_enter 35 = .ok (.istore 6, 2) := by decide +kernel
theorem dX5_enter_37 : decode cX5_enter 37 = .ok (.aload 4, 2) := by decide +kernel
theorem dX5_enter_39 : decode cX5_enter 39 = .ok (.iload 6, 2) := by decide +kernel
theorem dX5_enter_41 : decode cX5_enter 41 = .ok (.iload_n 2, 1) := by decide +kernel
theorem dX5_enter_42 : decode cX5_enter 42 = .ok (.iadd, 1) := by decide +kernel
theorem dX5_enter_43 : decode cX5_enter 43 = .ok (.laload, 1) := by decide +kernel
theorem dX5_enter_44 : decode cX5_enter 44 = .ok (.lstore 7, 2) := by decide +kernel
theorem dX5_enter_46 : decode cX5_enter 46 = .ok (.aload_n 0, 1) := by decide +kernel
theorem dX5_enter_47 : decode cX5_enter 47 = .ok (.getfield 26, 3) := by decide +kernel
theorem dX5_enter_50 : decode cX5_enter 50 = .ok (.iload_n 1, 1) := by decide +kernel
theorem dX5_enter_51 : decode cX5_enter 51 = .ok (.laload, 1) := by decide +kernel
theorem dX5_enter_52 : decode cX5_enter 52 = .ok (.lstore 9, 2) := by decide +kernel
theorem dX5_enter_54 : decode cX5_enter 54 = .ok (.aload_n 0, 1) := by decide +kernel
theorem dX5_enter_55 : decode cX5_enter 55 = .ok (.getfield 23, 3) := by decide +kernel
theorem dX5_enter_58 : decode cX5_enter 58 = .ok (.iload_n 1, 1) := by decide +kernel
theorem dX5_enter_59 : decode cX5_enter 59 = .ok (.iaload, 1) := by decide +kernel
theorem dX5_enter_60 : decode cX5_enter 60 = .ok (.iconst 1, 1) := by decide +kernel
theorem dX5_enter_61 : decode cX5_enter 61 = .ok (.iload_n 3, 1) := by decide +kernel
theorem dX5_enter_62 : decode cX5_enter 62 = .ok (.ishl, 1) := by decide +kernel
theorem dX5_enter_63 : decode cX5_enter 63 = .ok (.ior, 1) := by decide +kernel
theorem dX5_enter_64 : decode cX5_enter 64 = .ok (.istore 11, 2) := by decide +kernel
theorem dX5_enter_66 : decode cX5_enter 66 = .ok (.iconst 0, 1) := by decide +kernel
theorem dX5_enter_67 : decode cX5_enter 67 = .ok (.istore 12, 2) := by decide +kernel
theorem dX5_enter_69 : decode cX5_enter 69 = .ok (.iload 12, 2) := by decide +kernel
theorem dX5_enter_71 : decode cX5_enter 71 = .ok (.aload_n 0, 1) := by decide +kernel
theorem dX5_enter_72 : decode cX5_enter 72 = .ok (.getfield 43, 3) := by decide +kernel
theorem dX5_enter_75 : decode cX5_enter 75 = .ok (.if_icmp .ge 99, 3) := by decide +kernel
theorem dX5_enter_78 : decode cX5_enter 78 = .ok (.lload 9, 2) := by decide +kernel
theorem dX5_enter_80 : decode cX5_enter 80 = .ok (.lconst 0, 1) := by decide +kernel
theorem dX5_enter_81 : decode cX5_enter 81 = .ok (.lcmp, 1) := by decide +kernel
theorem dX5_enter_82 : decode cX5_enter 82 = .ok (.ifCond .eq 92, 3) := by decide +kernel
theorem dX5_enter_85 : decode cX5_enter 85 = .ok (.iload 11, 2) := by decide +kernel
theorem dX5_enter_87 : decode cX5_enter 87 = .ok (.iload 12, 2) := by decide +kernel
theorem dX5_enter_89 : decode cX5_enter 89 = .ok (.ishr, 1) := by decide +kernel
theorem dX5_enter_90 : decode cX5_enter 90 = .ok (.iconst 1, 1) := by decide +kernel
theorem dX5_enter_91 : decode cX5_enter 91 = .ok (.iand, 1) := by decide +kernel
theorem dX5_enter_92 : decode cX5_enter 92 = .ok (.ifCond .eq 6, 3) := by decide +kernel
theorem dX5_enter_95 : decode cX5_enter 95 = .ok (.goto 73, 3) := by decide +kernel
theorem dX5_enter_98 : decode cX5_enter 98 = .ok (.iload 12, 2) := by decide +kernel
theorem dX5_enter_100 : decode cX5_enter 100 = .ok (.bipush 11, 2) := by decide +kernel
theorem dX5_enter_102 : decode cX5_enter 102 = .ok (.imul, 1) := by decide +kernel
theorem dX5_enter_103 : decode cX5_enter 103 = .ok (.istore 13, 2) := by decide +kernel
theorem dX5_enter_105 : decode cX5_enter 105 = .ok (.aload 4, 2) := by decide +kernel
theorem dX5_enter_107 : decode cX5_enter 107 = .ok (.iload 13, 2) := by decide +kernel
theorem dX5_enter_109 : decode cX5_enter 109 = .ok (.iload_n 2, 1) := by decide +kernel
theorem dX5_enter_110 : decode cX5_enter 110 = .ok (.iadd, 1) := by decide +kernel
theorem dX5_enter_111 : decode cX5_enter 111 = .ok (.laload, 1) := by decide +kernel
theorem dX5_enter_112 : decode cX5_enter 112 = .ok (.lstore 14, 2) := by decide +kernel
theorem dX5_enter_114 : decode cX5_enter 114 = .ok (.iload_n 2, 1) := by decide +kernel
theorem dX5_enter_115 : decode cX5_enter 115 = .ok (.iconst 1, 1) := by decide +kernel
theorem dX5_enter_116 : decode cX5_enter 116 = .ok (.iadd, 1) := by decide +kernel
theorem dX5_enter_117 : decode cX5_enter 117 = .ok (.istore 16, 2) := by decide +kernel
theorem dX5_enter_119 : decode cX5_enter 119 = .ok (.iload 16, 2) := by decide +kernel
theorem dX5_enter_121 : decode cX5_enter 121 = .ok (.aload_n 0, 1) := by decide +kernel
theorem dX5_enter_122 : decode cX5_enter 122 = .ok (.getfield 39, 3) := by decide +kernel
theorem dX5_enter_125 : decode cX5_enter 125 = .ok (.if_icmp .gt 43, 3) := by decide +kernel
theorem dX5_enter_128 : decode cX5_enter 128 = .ok (.aload 5, 2) := by decide +kernel
theorem dX5_enter_130 : decode cX5_enter 130 = .ok (.iload 13, 2) := by decide +kernel
theorem dX5_enter_132 : decode cX5_enter 132 = .ok (.iload 16, 2) := by decide +kernel
theorem dX5_enter_134 : decode cX5_enter 134 = .ok (.iadd, 1) := by decide +kernel
theorem dX5_enter_135 : decode cX5_enter 135 = .ok (.lload 7, 2) := by decide +kernel
theorem dX5_enter_137 : decode cX5_enter 137 = .ok (.aload 4, 2) := by decide +kernel
theorem dX5_enter_139 : decode cX5_enter 139 = .ok (.iload 13, 2) := by decide +kernel
theorem dX5_enter_141 : decode cX5_enter 141 = .ok (.iload 16, 2) := by decide +kernel
theorem dX5_enter_143 : decode cX5_enter 143 = .ok (.iadd, 1) := by decide +kernel
theorem dX5_enter_144 : decode cX5_enter 144 = .ok (.laload, 1) := by decide +kernel
theorem dX5_enter_145 : decode cX5_enter 145 = .ok (.lmul, 1) := by decide +kernel
theorem dX5_enter_146 : decode cX5_enter 146 = .ok (.lload 14, 2) := by decide +kernel
theorem dX5_enter_148 : decode cX5_enter 148 = .ok (.aload 4, 2) := by decide +kernel
theorem dX5_enter_150 : decode cX5_enter 150 = .ok (.iload 6, 2) := by decide +kernel
theorem dX5_enter_152 : decode cX5_enter 152 = .ok (.iload 16, 2) := by decide +kernel
theorem dX5_enter_154 : decode cX5_enter 154 = .ok (.iadd, 1) := by decide +kernel
theorem dX5_enter_155 : decode cX5_enter 155 = .ok (.laload, 1) := by decide +kernel
theorem dX5_enter_156 : decode cX5_enter 156 = .ok (.lmul, 1) := by decide +kernel
theorem dX5_enter_157 : decode cX5_enter 157 = .ok (.lsub, 1) := by decide +kernel
theorem dX5_enter_158 : decode cX5_enter 158 = .ok (.lload 9, 2) := by decide +kernel
theorem dX5_enter_160 : decode cX5_enter 160 = .ok (.ldiv, 1) := by decide +kernel
theorem dX5_enter_161 : decode cX5_enter 161 = .ok (.lastore, 1) := by decide +kernel
theorem dX5_enter_162 : decode cX5_enter 162 = .ok (.iinc 16 1, 3) := by decide +kernel
theorem dX5_enter_165 : decode cX5_enter 165 = .ok (.goto (-46), 3) := by decide +kernel
theorem dX5_enter_168 : decode cX5_enter 168 = .ok (.iinc 12 1, 3) := by decide +kernel
theorem dX5_enter_171 : decode cX5_enter 171 = .ok (.goto (-102), 3) := by decide +kernel
theorem dX5_enter_174 : decode cX5_enter 174 = .ok (.aload_n 0, 1) := by decide +kernel
theorem dX5_enter_175 : decode cX5_enter 175 = .ok (.getfield 16, 3) := by decide +kernel
theorem dX5_enter_178 : decode cX5_enter 178 = .ok (.iload_n 1, 1) := by decide +kernel
theorem dX5_enter_179 : decode cX5_enter 179 = .ok (.iload_n 2, 1) := by decide +kernel
theorem dX5_enter_180 : decode cX5_enter 180 = .ok (.iastore, 1) := by decide +kernel
theorem dX5_enter_181 : decode cX5_enter 181 = .ok (.aload_n 0, 1) := by decide +kernel
theorem dX5_enter_182 : decode cX5_enter 182 = .ok (.getfield 20, 3) := by decide +kernel
theorem dX5_enter_185 : decode cX5_enter 185 = .ok (.iload_n 1, 1) := by decide +kernel
theorem dX5_enter_186 : decode cX5_enter 186 = .ok (.iload_n 3, 1) := by decide +kernel
theorem dX5_enter_187 : decode cX5_enter 187 = .ok (.iastore, 1) := by decide +kernel
theorem dX5_enter_188 : decode cX5_enter 188 = .ok (.aload_n 0, 1) := by decide +kernel
theorem dX5_enter_189 : decode cX5_enter 189 = .ok (.getfield 23, 3) := by decide +kernel
theorem dX5_enter_192 : decode cX5_enter 192 = .ok (.iload_n 1, 1) := by decide +kernel
theorem dX5_enter_193 : decode cX5_enter 193 = .ok (.iconst 1, 1) := by decide +kernel
theorem dX5_enter_194 : decode cX5_enter 194 = .ok (.iadd, 1) := by decide +kernel
theorem dX5_enter_195 : decode cX5_enter 195 = .ok (.iload 11, 2) := by decide +kernel
theorem dX5_enter_197 : decode cX5_enter 197 = .ok (.iastore, 1) := by decide +kernel
theorem dX5_enter_198 : decode cX5_enter 198 = .ok (.aload_n 0, 1) := by decide +kernel
theorem dX5_enter_199 : decode cX5_enter 199 = .ok (.getfield 26, 3) := by decide +kernel
theorem dX5_enter_202 : decode cX5_enter 202 = .ok (.iload_n 1, 1) := by decide +kernel
theorem dX5_enter_203 : decode cX5_enter 203 = .ok (.iconst 1, 1) := by decide +kernel
theorem dX5_enter_204 : decode cX5_enter 204 = .ok (.iadd, 1) := by decide +kernel
theorem dX5_enter_205 : decode cX5_enter 205 = .ok (.lload 7, 2) := by decide +kernel
theorem dX5_enter_207 : decode cX5_enter 207 = .ok (.lastore, 1) := by decide +kernel
theorem dX5_enter_208 : decode cX5_enter 208 = .ok (.iconst 1, 1) := by decide +kernel
theorem dX5_enter_209 : decode cX5_enter 209 = .ok (.ireturn, 1) := by decide +kernel
theorem dX5_pivotRow_0 : decode cX5_pivotRow 0 = .ok (.iload_n 1, 1) := by decide +kernel
theorem dX5_pivotRow_1 : decode cX5_pivotRow 1 = .ok (.iconst 1, 1) := by decide +kernel
theorem dX5_pivotRow_2 : decode cX5_pivotRow 2 = .ok (.iadd, 1) := by decide +kernel
theorem dX5_pivotRow_3 : decode cX5_pivotRow 3 = .ok (.bipush 8, 2) := by decide +kernel
theorem dX5_pivotRow_5 : decode cX5_pivotRow 5 = .ok (.if_icmp .lt 5, 3) := by decide +kernel
theorem dX5_pivotRow_8 : decode cX5_pivotRow 8 = .ok (.iconst (-1), 1) := by decide +kernel
theorem dX5_pivotRow_9 : decode cX5_pivotRow 9 = .ok (.ireturn, 1) := by decide +kernel
theorem dX5_pivotRow_10 : decode cX5_pivotRow 10 = .ok (.iconst 0, 1) := by decide +kernel
theorem dX5_pivotRow_11 : decode cX5_pivotRow 11 = .ok (.istore_n 3, 1) := by decide +kernel
theorem dX5_pivotRow_12 : decode cX5_pivotRow 12 = .ok (.iload_n 3, 1) := by decide +kernel
theorem dX5_pivotRow_13 : decode cX5_pivotRow 13 = .ok (.aload_n 0, 1) := by decide +kernel
theorem dX5_pivotRow_14 : decode cX5_pivotRow 14 = .ok (.getfield 43, 3) := by decide +kernel
theorem dX5_pivotRow_17 : decode cX5_pivotRow 17 = .ok (.if_icmp .ge 42, 3) := by decide +kernel
theorem dX5_pivotRow_20 : decode cX5_pivotRow 20 = .ok (.aload_n 0, 1) := by decide +kernel
theorem dX5_pivotRow_21 : decode cX5_pivotRow 21 = .ok (.getfield 23, 3) := by decide +kernel
theorem dX5_pivotRow_24 : decode cX5_pivotRow 24 = .ok (.iload_n 1, 1) := by decide +kernel
theorem dX5_pivotRow_25 : decode cX5_pivotRow 25 = .ok (.iaload, 1) := by decide +kernel
theorem dX5_pivotRow_26 : decode cX5_pivotRow 26 = .ok (.iload_n 3, 1) := by decide +kernel
theorem dX5_pivotRow_27 : decode cX5_pivotRow 27 = .ok (.ishr, 1) := by decide +kernel
theorem dX5_pivotRow_28 : decode cX5_pivotRow 28 = .ok (.iconst 1, 1) := by decide +kernel
theorem dX5_pivotRow_29 : decode cX5_pivotRow 29 = .ok (.iand, 1) := by decide +kernel
theorem dX5_pivotRow_30 : decode cX5_pivotRow 30 = .ok (.ifCond .ne 23, 3) := by decide +kernel
theorem dX5_pivotRow_33 : decode cX5_pivotRow 33 = .ok (.aload_n 0, 1) := by decide +kernel
theorem dX5_pivotRow_34 : decode cX5_pivotRow 34 = .ok (.getfield 13, 3) := by decide +kernel
theorem dX5_pivotRow_37 : decode cX5_pivotRow 37 = .ok (.iload_n 1, 1) := by decide +kernel
theorem dX5_pivotRow_38 : decode cX5_pivotRow 38 = .ok (.aaload, 1) := by decide +kernel
theorem dX5_pivotRow_39 : decode cX5_pivotRow 39 = .ok (.iload_n 3, 1) := by decide +kernel
theorem dX5_pivotRow_40 : decode cX5_pivotRow 40 = .ok (.bipush 11, 2) := by decide +kernel
theorem dX5_pivotRow_42 : decode cX5_pivotRow 42 = .ok (.imul, 1) := by decide +kernel
theorem dX5_pivotRow_43 : decode cX5_pivotRow 43 = .ok (.iload_n 2, 1) := by decide +kernel
theorem dX5_pivotRow_44 : decode cX5_pivotRow 44 = .ok (.iadd, 1) := by decide +kernel
theorem dX5_pivotRow_45 : decode cX5_pivotRow 45 = .ok (.laload, 1) := by decide +kernel
theorem dX5_pivotRow_46 : decode cX5_pivotRow 46 = .ok (.lconst 0, 1) := by decide +kernel
theorem dX5_pivotRow_47 : decode cX5_pivotRow 47 = .ok (.lcmp, 1) := by decide +kernel
theorem dX5_pivotRow_48 : decode cX5_pivotRow 48 = .ok (.ifCond .eq 5, 3) := by decide +kernel
theorem dX5_pivotRow_51 : decode cX5_pivotRow 51 = .ok (.iload_n 3, 1) := by decide +kernel
theorem dX5_pivotRow_52 : decode cX5_pivotRow 52 = .ok (.ireturn, 1) := by decide +kernel
theorem dX5_pivotRow_53 : decode cX5_pivotRow 53 = .ok (.iinc 3 1, 3) := by decide +kernel
theorem dX5_pivotRow_56 : decode cX5_pivotRow 56 = .ok (.goto (-44), 3) := by decide +kernel
theorem dX5_pivotRow_59 : decode cX5_pivotRow 59 = .ok (.iconst (-1), 1) := by decide +kernel
theorem dX5_pivotRow_60 : decode cX5_pivotRow 60 = .ok (.ireturn, 1) := by decide +kernel
theorem dX5_bears_0 : decode cX5_bears 0 = .ok (.iconst 0, 1) := by decide +kernel
theorem dX5_bears_1 : decode cX5_bears 1 = .ok (.istore_n 2, 1) := by decide +kernel
theorem dX5_bears_2 : decode cX5_bears 2 = .ok (.iload_n 2, 1) := by decide +kernel
theorem dX5_bears_3 : decode cX5_bears 3 = .ok (.aload_n 0, 1) := by decide +kernel
theorem dX5_bears_4 : decode cX5_bears 4 = .ok (.getfield 43, 3) := by decide +kernel
theorem dX5_bears_7 : decode cX5_bears 7 = .ok (.if_icmp .ge 45, 3) := by decide +kernel
theorem dX5_bears_10 : decode cX5_bears 10 = .ok (.aload_n 0, 1) := by decide +kernel
theorem dX5_bears_11 : decode cX5_bears 11 = .ok (.getfield 23, 3) := by decide +kernel
theorem dX5_bears_14 : decode cX5_bears 14 = .ok (.iload_n 1, 1) := by decide +kernel
theorem dX5_bears_15 : decode cX5_bears 15 = .ok (.iaload, 1) := by decide +kernel
theorem dX5_bears_16 : decode cX5_bears 16 = .ok (.iload_n 2, 1) := by decide +kernel
theorem dX5_bears_17 : decode cX5_bears 17 = .ok (.ishr, 1) := by decide +kernel
theorem dX5_bears_18 : decode cX5_bears 18 = .ok (.iconst 1, 1) := by decide +kernel
theorem dX5_bears_19 : decode cX5_bears 19 = .ok (.iand, 1) := by decide +kernel
theorem dX5_bears_20 : decode cX5_bears 20 = .ok (.ifCond .ne 26, 3) := by decide +kernel
theorem dX5_bears_23 : decode cX5_bears 23 = .ok (.aload_n 0, 1) := by decide +kernel
theorem dX5_bears_24 : decode cX5_bears 24 = .ok (.getfield 13, 3) := by decide +kernel
theorem dX5_bears_27 : decode cX5_bears 27 = .ok (.iload_n 1, 1) := by decide +kernel
theorem dX5_bears_28 : decode cX5_bears 28 = .ok (.aaload, 1) := by decide +kernel
theorem dX5_bears_29 : decode cX5_bears 29 = .ok (.iload_n 2, 1) := by decide +kernel
theorem dX5_bears_30 : decode cX5_bears 30 = .ok (.bipush 11, 2) := by decide +kernel
theorem dX5_bears_32 : decode cX5_bears 32 = .ok (.imul, 1) := by decide +kernel
theorem dX5_bears_33 : decode cX5_bears 33 = .ok (.aload_n 0, 1) := by decide +kernel
theorem dX5_bears_34 : decode cX5_bears 34 = .ok (.getfield 39, 3) := by decide +kernel
theorem dX5_bears_37 : decode cX5_bears 37 = .ok (.iadd, 1) := by decide +kernel
theorem dX5_bears_38 : decode cX5_bears 38 = .ok (.laload, 1) := by decide +kernel
theorem dX5_bears_39 : decode cX5_bears 39 = .ok (.lconst 0, 1) := by decide +kernel
theorem dX5_bears_40 : decode cX5_bears 40 = .ok (.lcmp, 1) := by decide +kernel
