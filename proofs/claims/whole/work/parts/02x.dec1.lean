theorem dX7_fillWaysAt_82 : decode cX7_fillWaysAt 82 = .ok (.iload 4, 2) := by decide +kernel
theorem dX7_fillWaysAt_84 : decode cX7_fillWaysAt 84 = .ok (.iload 8, 2) := by decide +kernel
theorem dX7_fillWaysAt_86 : decode cX7_fillWaysAt 86 = .ok (.iadd, 1) := by decide +kernel
theorem dX7_fillWaysAt_87 : decode cX7_fillWaysAt 87 = .ok (.laload, 1) := by decide +kernel
theorem dX7_fillWaysAt_88 : decode cX7_fillWaysAt 88 = .ok (.lstore 9, 2) := by decide +kernel
theorem dX7_fillWaysAt_90 : decode cX7_fillWaysAt 90 = .ok (.goto 84, 3) := by decide +kernel
theorem dX7_fillWaysAt_93 : decode cX7_fillWaysAt 93 = .ok (.iload 8, 2) := by decide +kernel
theorem dX7_fillWaysAt_95 : decode cX7_fillWaysAt 95 = .ok (.iload 5, 2) := by decide +kernel
theorem dX7_fillWaysAt_97 : decode cX7_fillWaysAt 97 = .ok (.iand, 1) := by decide +kernel
theorem dX7_fillWaysAt_98 : decode cX7_fillWaysAt 98 = .ok (.ifCond .eq 21, 3) := by decide +kernel
theorem dX7_fillWaysAt_101 : decode cX7_fillWaysAt 101 = .ok (.aload_n 0, 1) := by decide +kernel
theorem dX7_fillWaysAt_102 : decode cX7_fillWaysAt 102 = .ok (.getfield 9, 3) := by decide +kernel
theorem dX7_fillWaysAt_105 : decode cX7_fillWaysAt 105 = .ok (.iload 4, 2) := by decide +kernel
theorem dX7_fillWaysAt_107 : decode cX7_fillWaysAt 107 = .ok (.iload 8, 2) := by decide +kernel
theorem dX7_fillWaysAt_109 : decode cX7_fillWaysAt 109 = .ok (.iadd, 1) := by decide +kernel
theorem dX7_fillWaysAt_110 : decode cX7_fillWaysAt 110 = .ok (.iload 5, 2) := by decide +kernel
theorem dX7_fillWaysAt_112 : decode cX7_fillWaysAt 112 = .ok (.isub, 1) := by decide +kernel
theorem dX7_fillWaysAt_113 : decode cX7_fillWaysAt 113 = .ok (.laload, 1) := by decide +kernel
theorem dX7_fillWaysAt_114 : decode cX7_fillWaysAt 114 = .ok (.lstore 9, 2) := by decide +kernel
theorem dX7_fillWaysAt_116 : decode cX7_fillWaysAt 116 = .ok (.goto 58, 3) := by decide +kernel
theorem dX7_fillWaysAt_119 : decode cX7_fillWaysAt 119 = .ok (.iload 6, 2) := by decide +kernel
theorem dX7_fillWaysAt_121 : decode cX7_fillWaysAt 121 = .ok (.ifCond .eq 30, 3) := by decide +kernel
theorem dX7_fillWaysAt_124 : decode cX7_fillWaysAt 124 = .ok (.iload 8, 2) := by decide +kernel
theorem dX7_fillWaysAt_126 : decode cX7_fillWaysAt 126 = .ok (.iconst 2, 1) := by decide +kernel
theorem dX7_fillWaysAt_127 : decode cX7_fillWaysAt 127 = .ok (.iload 5, 2) := by decide +kernel
theorem dX7_fillWaysAt_129 : decode cX7_fillWaysAt 129 = .ok (.imul, 1) := by decide +kernel
theorem dX7_fillWaysAt_130 : decode cX7_fillWaysAt 130 = .ok (.iand, 1) := by decide +kernel
theorem dX7_fillWaysAt_131 : decode cX7_fillWaysAt 131 = .ok (.ifCond .ne 20, 3) := by decide +kernel
theorem dX7_fillWaysAt_134 : decode cX7_fillWaysAt 134 = .ok (.aload_n 0, 1) := by decide +kernel
theorem dX7_fillWaysAt_135 : decode cX7_fillWaysAt 135 = .ok (.getfield 9, 3) := by decide +kernel
theorem dX7_fillWaysAt_138 : decode cX7_fillWaysAt 138 = .ok (.iload 4, 2) := by decide +kernel
theorem dX7_fillWaysAt_140 : decode cX7_fillWaysAt 140 = .ok (.iload 8, 2) := by decide +kernel
theorem dX7_fillWaysAt_142 : decode cX7_fillWaysAt 142 = .ok (.iadd, 1) := by decide +kernel
theorem dX7_fillWaysAt_143 : decode cX7_fillWaysAt 143 = .ok (.iconst 2, 1) := by decide +kernel
theorem dX7_fillWaysAt_144 : decode cX7_fillWaysAt 144 = .ok (.iload 5, 2) := by decide +kernel
theorem dX7_fillWaysAt_146 : decode cX7_fillWaysAt 146 = .ok (.imul, 1) := by decide +kernel
theorem dX7_fillWaysAt_147 : decode cX7_fillWaysAt 147 = .ok (.iadd, 1) := by decide +kernel
theorem dX7_fillWaysAt_148 : decode cX7_fillWaysAt 148 = .ok (.laload, 1) := by decide +kernel
theorem dX7_fillWaysAt_149 : decode cX7_fillWaysAt 149 = .ok (.lstore 9, 2) := by decide +kernel
theorem dX7_fillWaysAt_151 : decode cX7_fillWaysAt 151 = .ok (.iload 7, 2) := by decide +kernel
theorem dX7_fillWaysAt_153 : decode cX7_fillWaysAt 153 = .ok (.ifCond .eq 21, 3) := by decide +kernel
theorem dX7_fillWaysAt_156 : decode cX7_fillWaysAt 156 = .ok (.lload 9, 2) := by decide +kernel
theorem dX7_fillWaysAt_158 : decode cX7_fillWaysAt 158 = .ok (.aload_n 0, 1) := by decide +kernel
theorem dX7_fillWaysAt_159 : decode cX7_fillWaysAt 159 = .ok (.getfield 9, 3) := by decide +kernel
theorem dX7_fillWaysAt_162 : decode cX7_fillWaysAt 162 = .ok (.iload 4, 2) := by decide +kernel
theorem dX7_fillWaysAt_164 : decode cX7_fillWaysAt 164 = .ok (.iload 8, 2) := by decide +kernel
theorem dX7_fillWaysAt_166 : decode cX7_fillWaysAt 166 = .ok (.iadd, 1) := by decide +kernel
theorem dX7_fillWaysAt_167 : decode cX7_fillWaysAt 167 = .ok (.iload 5, 2) := by decide +kernel
theorem dX7_fillWaysAt_169 : decode cX7_fillWaysAt 169 = .ok (.iadd, 1) := by decide +kernel
theorem dX7_fillWaysAt_170 : decode cX7_fillWaysAt 170 = .ok (.laload, 1) := by decide +kernel
theorem dX7_fillWaysAt_171 : decode cX7_fillWaysAt 171 = .ok (.ladd, 1) := by decide +kernel
theorem dX7_fillWaysAt_172 : decode cX7_fillWaysAt 172 = .ok (.lstore 9, 2) := by decide +kernel
theorem dX7_fillWaysAt_174 : decode cX7_fillWaysAt 174 = .ok (.aload_n 0, 1) := by decide +kernel
theorem dX7_fillWaysAt_175 : decode cX7_fillWaysAt 175 = .ok (.getfield 9, 3) := by decide +kernel
theorem dX7_fillWaysAt_178 : decode cX7_fillWaysAt 178 = .ok (.iload_n 3, 1) := by decide +kernel
theorem dX7_fillWaysAt_179 : decode cX7_fillWaysAt 179 = .ok (.iload 8, 2) := by decide +kernel
theorem dX7_fillWaysAt_181 : decode cX7_fillWaysAt 181 = .ok (.iadd, 1) := by decide +kernel
theorem dX7_fillWaysAt_182 : decode cX7_fillWaysAt 182 = .ok (.lload 9, 2) := by decide +kernel
theorem dX7_fillWaysAt_184 : decode cX7_fillWaysAt 184 = .ok (.lastore, 1) := by decide +kernel
theorem dX7_fillWaysAt_185 : decode cX7_fillWaysAt 185 = .ok (.iinc 8 1, 3) := by decide +kernel
theorem dX7_fillWaysAt_188 : decode cX7_fillWaysAt 188 = .ok (.goto (-141), 3) := by decide +kernel
theorem dX7_fillWaysAt_191 : decode cX7_fillWaysAt 191 = .ok (.return_, 1) := by decide +kernel
theorem dX7_fillCostsAt_0 : decode cX7_fillCostsAt 0 = .ok (.iload_n 2, 1) := by decide +kernel
theorem dX7_fillCostsAt_1 : decode cX7_fillCostsAt 1 = .ok (.sipush 256, 3) := by decide +kernel
theorem dX7_fillCostsAt_4 : decode cX7_fillCostsAt 4 = .ok (.imul, 1) := by decide +kernel
theorem dX7_fillCostsAt_5 : decode cX7_fillCostsAt 5 = .ok (.istore_n 3, 1) := by decide +kernel
theorem dX7_fillCostsAt_6 : decode cX7_fillCostsAt 6 = .ok (.iload_n 3, 1) := by decide +kernel
theorem dX7_fillCostsAt_7 : decode cX7_fillCostsAt 7 = .ok (.sipush 256, 3) := by decide +kernel
theorem dX7_fillCostsAt_10 : decode cX7_fillCostsAt 10 = .ok (.iadd, 1) := by decide +kernel
theorem dX7_fillCostsAt_11 : decode cX7_fillCostsAt 11 = .ok (.istore 4, 2) := by decide +kernel
theorem dX7_fillCostsAt_13 : decode cX7_fillCostsAt 13 = .ok (.iconst 1, 1) := by decide +kernel
theorem dX7_fillCostsAt_14 : decode cX7_fillCostsAt 14 = .ok (.aload_n 1, 1) := by decide +kernel
theorem dX7_fillCostsAt_15 : decode cX7_fillCostsAt 15 = .ok (.iload_n 2, 1) := by decide +kernel
theorem dX7_fillCostsAt_16 : decode cX7_fillCostsAt 16 = .ok (.invokevirtual 88, 3) := by decide +kernel
theorem dX7_fillCostsAt_19 : decode cX7_fillCostsAt 19 = .ok (.ishl, 1) := by decide +kernel
theorem dX7_fillCostsAt_20 : decode cX7_fillCostsAt 20 = .ok (.istore 5, 2) := by decide +kernel
theorem dX7_fillCostsAt_22 : decode cX7_fillCostsAt 22 = .ok (.iconst 0, 1) := by decide +kernel
theorem dX7_fillCostsAt_23 : decode cX7_fillCostsAt 23 = .ok (.istore 6, 2) := by decide +kernel
theorem dX7_fillCostsAt_25 : decode cX7_fillCostsAt 25 = .ok (.iload 6, 2) := by decide +kernel
theorem dX7_fillCostsAt_27 : decode cX7_fillCostsAt 27 = .ok (.iconst 1, 1) := by decide +kernel
theorem dX7_fillCostsAt_28 : decode cX7_fillCostsAt 28 = .ok (.aload_n 1, 1) := by decide +kernel
theorem dX7_fillCostsAt_29 : decode cX7_fillCostsAt 29 = .ok (.getfield 85, 3) := by decide +kernel
theorem dX7_fillCostsAt_32 : decode cX7_fillCostsAt 32 = .ok (.ishl, 1) := by decide +kernel
theorem dX7_fillCostsAt_33 : decode cX7_fillCostsAt 33 = .ok (.if_icmp .ge 104, 3) := by decide +kernel
theorem dX7_fillCostsAt_36 : decode cX7_fillCostsAt 36 = .ok (.ldc2_w 80, 3) := by decide +kernel
theorem dX7_fillCostsAt_39 : decode cX7_fillCostsAt 39 = .ok (.lstore 7, 2) := by decide +kernel
theorem dX7_fillCostsAt_41 : decode cX7_fillCostsAt 41 = .ok (.aload_n 1, 1) := by decide +kernel
theorem dX7_fillCostsAt_42 : decode cX7_fillCostsAt 42 = .ok (.getfield 91, 3) := by decide +kernel
theorem dX7_fillCostsAt_45 : decode cX7_fillCostsAt 45 = .ok (.iload_n 2, 1) := by decide +kernel
theorem dX7_fillCostsAt_46 : decode cX7_fillCostsAt 46 = .ok (.baload, 1) := by decide +kernel
theorem dX7_fillCostsAt_47 : decode cX7_fillCostsAt 47 = .ok (.ifCond .ne 26, 3) := by decide +kernel
theorem dX7_fillCostsAt_50 : decode cX7_fillCostsAt 50 = .ok (.iload 6, 2) := by decide +kernel
theorem dX7_fillCostsAt_52 : decode cX7_fillCostsAt 52 = .ok (.iload 5, 2) := by decide +kernel
theorem dX7_fillCostsAt_54 : decode cX7_fillCostsAt 54 = .ok (.iand, 1) := by decide +kernel
theorem dX7_fillCostsAt_55 : decode cX7_fillCostsAt 55 = .ok (.ifCond .ne 65, 3) := by decide +kernel
theorem dX7_fillCostsAt_58 : decode cX7_fillCostsAt 58 = .ok (.aload_n 0, 1) := by decide +kernel
theorem dX7_fillCostsAt_59 : decode cX7_fillCostsAt 59 = .ok (.getfield 9, 3) := by decide +kernel
theorem dX7_fillCostsAt_62 : decode cX7_fillCostsAt 62 = .ok (.iload 4, 2) := by decide +kernel
theorem dX7_fillCostsAt_64 : decode cX7_fillCostsAt 64 = .ok (.iload 6, 2) := by decide +kernel
theorem dX7_fillCostsAt_66 : decode cX7_fillCostsAt 66 = .ok (.iadd, 1) := by decide +kernel
theorem dX7_fillCostsAt_67 : decode cX7_fillCostsAt 67 = .ok (.laload, 1) := by decide +kernel
theorem dX7_fillCostsAt_68 : decode cX7_fillCostsAt 68 = .ok (.lstore 7, 2) := by decide +kernel
theorem dX7_fillCostsAt_70 : decode cX7_fillCostsAt 70 = .ok (.goto 50, 3) := by decide +kernel
theorem dX7_fillCostsAt_73 : decode cX7_fillCostsAt 73 = .ok (.iload 6, 2) := by decide +kernel
theorem dX7_fillCostsAt_75 : decode cX7_fillCostsAt 75 = .ok (.iload 5, 2) := by decide +kernel
theorem dX7_fillCostsAt_77 : decode cX7_fillCostsAt 77 = .ok (.iand, 1) := by decide +kernel
theorem dX7_fillCostsAt_78 : decode cX7_fillCostsAt 78 = .ok (.ifCond .eq 21, 3) := by decide +kernel
theorem dX7_fillCostsAt_81 : decode cX7_fillCostsAt 81 = .ok (.aload_n 0, 1) := by decide +kernel
theorem dX7_fillCostsAt_82 : decode cX7_fillCostsAt 82 = .ok (.getfield 9, 3) := by decide +kernel
theorem dX7_fillCostsAt_85 : decode cX7_fillCostsAt 85 = .ok (.iload 4, 2) := by decide +kernel
theorem dX7_fillCostsAt_87 : decode cX7_fillCostsAt 87 = .ok (.iload 6, 2) := by decide +kernel
theorem dX7_fillCostsAt_89 : decode cX7_fillCostsAt 89 = .ok (.iadd, 1) := by decide +kernel
theorem dX7_fillCostsAt_90 : decode cX7_fillCostsAt 90 = .ok (.iload 5, 2) := by decide +kernel
theorem dX7_fillCostsAt_92 : decode cX7_fillCostsAt 92 = .ok (.isub, 1) := by decide +kernel
theorem dX7_fillCostsAt_93 : decode cX7_fillCostsAt 93 = .ok (.laload, 1) := by decide +kernel
theorem dX7_fillCostsAt_94 : decode cX7_fillCostsAt 94 = .ok (.lstore 7, 2) := by decide +kernel
theorem dX7_fillCostsAt_96 : decode cX7_fillCostsAt 96 = .ok (.goto 24, 3) := by decide +kernel
theorem dX7_fillCostsAt_99 : decode cX7_fillCostsAt 99 = .ok (.aload_n 0, 1) := by decide +kernel
theorem dX7_fillCostsAt_100 : decode cX7_fillCostsAt 100 = .ok (.aload_n 1, 1) := by decide +kernel
theorem dX7_fillCostsAt_101 : decode cX7_fillCostsAt 101 = .ok (.iload_n 2, 1) := by decide +kernel
theorem dX7_fillCostsAt_102 : decode cX7_fillCostsAt 102 = .ok (.iload 6, 2) := by decide +kernel
theorem dX7_fillCostsAt_104 : decode cX7_fillCostsAt 104 = .ok (.invokevirtual 94, 3) := by decide +kernel
theorem dX7_fillCostsAt_107 : decode cX7_fillCostsAt 107 = .ok (.aload_n 0, 1) := by decide +kernel
theorem dX7_fillCostsAt_108 : decode cX7_fillCostsAt 108 = .ok (.aload_n 1, 1) := by decide +kernel
theorem dX7_fillCostsAt_109 : decode cX7_fillCostsAt 109 = .ok (.iload_n 2, 1) := by decide +kernel
theorem dX7_fillCostsAt_110 : decode cX7_fillCostsAt 110 = .ok (.iload 6, 2) := by decide +kernel
theorem dX7_fillCostsAt_112 : decode cX7_fillCostsAt 112 = .ok (.invokevirtual 98, 3) := by decide +kernel
theorem dX7_fillCostsAt_115 : decode cX7_fillCostsAt 115 = .ok (.invokestatic 101, 3) := by decide +kernel
theorem dX7_fillCostsAt_118 : decode cX7_fillCostsAt 118 = .ok (.lstore 7, 2) := by decide +kernel
theorem dX7_fillCostsAt_120 : decode cX7_fillCostsAt 120 = .ok (.aload_n 0, 1) := by decide +kernel
theorem dX7_fillCostsAt_121 : decode cX7_fillCostsAt 121 = .ok (.getfield 9, 3) := by decide +kernel
theorem dX7_fillCostsAt_124 : decode cX7_fillCostsAt 124 = .ok (.iload_n 3, 1) := by decide +kernel
theorem dX7_fillCostsAt_125 : decode cX7_fillCostsAt 125 = .ok (.iload 6, 2) := by decide +kernel
theorem dX7_fillCostsAt_127 : decode cX7_fillCostsAt 127 = .ok (.iadd, 1) := by decide +kernel
theorem dX7_fillCostsAt_128 : decode cX7_fillCostsAt 128 = .ok (.lload 7, 2) := by decide +kernel
theorem dX7_fillCostsAt_130 : decode cX7_fillCostsAt 130 = .ok (.lastore, 1) := by decide +kernel
theorem dX7_fillCostsAt_131 : decode cX7_fillCostsAt 131 = .ok (.iinc 6 1, 3) := by decide +kernel
theorem dX7_fillCostsAt_134 : decode cX7_fillCostsAt 134 = .ok (.goto (-109), 3) := by decide +kernel
theorem dX7_fillCostsAt_137 : decode cX7_fillCostsAt 137 = .ok (.return_, 1) := by decide +kernel
theorem dX7_canEast_0 : decode cX7_canEast 0 = .ok (.aload_n 0, 1) := by decide +kernel
theorem dX7_canEast_1 : decode cX7_canEast 1 = .ok (.getfield 18, 3) := by decide +kernel
theorem dX7_canEast_4 : decode cX7_canEast 4 = .ok (.iconst 2, 1) := by decide +kernel
theorem dX7_canEast_5 : decode cX7_canEast 5 = .ok (.iload_n 2, 1) := by decide +kernel
theorem dX7_canEast_6 : decode cX7_canEast 6 = .ok (.imul, 1) := by decide +kernel
theorem dX7_canEast_7 : decode cX7_canEast 7 = .ok (.baload, 1) := by decide +kernel
theorem dX7_canEast_8 : decode cX7_canEast 8 = .ok (.ifCond .eq 19, 3) := by decide +kernel
theorem dX7_canEast_11 : decode cX7_canEast 11 = .ok (.iload_n 3, 1) := by decide +kernel
theorem dX7_canEast_12 : decode cX7_canEast 12 = .ok (.iconst 2, 1) := by decide +kernel
theorem dX7_canEast_13 : decode cX7_canEast 13 = .ok (.aload_n 1, 1) := by decide +kernel
theorem dX7_canEast_14 : decode cX7_canEast 14 = .ok (.iload_n 2, 1) := by decide +kernel
theorem dX7_canEast_15 : decode cX7_canEast 15 = .ok (.invokevirtual 88, 3) := by decide +kernel
theorem dX7_canEast_18 : decode cX7_canEast 18 = .ok (.ishl, 1) := by decide +kernel
theorem dX7_canEast_19 : decode cX7_canEast 19 = .ok (.iand, 1) := by decide +kernel
theorem dX7_canEast_20 : decode cX7_canEast 20 = .ok (.ifCond .ne 7, 3) := by decide +kernel
theorem dX7_canEast_23 : decode cX7_canEast 23 = .ok (.iconst 1, 1) := by decide +kernel
theorem dX7_canEast_24 : decode cX7_canEast 24 = .ok (.goto 4, 3) := by decide +kernel
theorem dX7_canEast_27 : decode cX7_canEast 27 = .ok (.iconst 0, 1) := by decide +kernel
theorem dX7_canEast_28 : decode cX7_canEast 28 = .ok (.ireturn, 1) := by decide +kernel
theorem dX7_costEast_0 : decode cX7_costEast 0 = .ok (.aload_n 0, 1) := by decide +kernel
theorem dX7_costEast_1 : decode cX7_costEast 1 = .ok (.aload_n 1, 1) := by decide +kernel
theorem dX7_costEast_2 : decode cX7_costEast 2 = .ok (.iload_n 2, 1) := by decide +kernel
theorem dX7_costEast_3 : decode cX7_costEast 3 = .ok (.iload_n 3, 1) := by decide +kernel
theorem dX7_costEast_4 : decode cX7_costEast 4 = .ok (.invokevirtual 107, 3) := by decide +kernel
theorem dX7_costEast_7 : decode cX7_costEast 7 = .ok (.ifCond .ne 7, 3) := by decide +kernel
theorem dX7_costEast_10 : decode cX7_costEast 10 = .ok (.ldc2_w 80, 3) := by decide +kernel
theorem dX7_costEast_13 : decode cX7_costEast 13 = .ok (.lreturn, 1) := by decide +kernel
theorem dX7_costEast_14 : decode cX7_costEast 14 = .ok (.ldc2_w 80, 3) := by decide +kernel
theorem dX7_costEast_17 : decode cX7_costEast 17 = .ok (.aload_n 1, 1) := by decide +kernel
theorem dX7_costEast_18 : decode cX7_costEast 18 = .ok (.getfield 111, 3) := by decide +kernel
theorem dX7_costEast_21 : decode cX7_costEast 21 = .ok (.iconst 2, 1) := by decide +kernel
theorem dX7_costEast_22 : decode cX7_costEast 22 = .ok (.iload_n 2, 1) := by decide +kernel
theorem dX7_costEast_23 : decode cX7_costEast 23 = .ok (.imul, 1) := by decide +kernel
theorem dX7_costEast_24 : decode cX7_costEast 24 = .ok (.iaload, 1) := by decide +kernel
theorem dX7_costEast_25 : decode cX7_costEast 25 = .ok (.i2l, 1) := by decide +kernel
theorem dX7_costEast_26 : decode cX7_costEast 26 = .ok (.aload_n 0, 1) := by decide +kernel
theorem dX7_costEast_27 : decode cX7_costEast 27 = .ok (.getfield 9, 3) := by decide +kernel
theorem dX7_costEast_30 : decode cX7_costEast 30 = .ok (.iload_n 2, 1) := by decide +kernel
theorem dX7_costEast_31 : decode cX7_costEast 31 = .ok (.iconst 1, 1) := by decide +kernel
theorem dX7_costEast_32 : decode cX7_costEast 32 = .ok (.iadd, 1) := by decide +kernel
theorem dX7_costEast_33 : decode cX7_costEast 33 = .ok (.sipush 256, 3) := by decide +kernel
theorem dX7_costEast_36 : decode cX7_costEast 36 = .ok (.imul, 1) := by decide +kernel
theorem dX7_costEast_37 : decode cX7_costEast 37 = .ok (.iload_n 3, 1) := by decide +kernel
theorem dX7_costEast_38 : decode cX7_costEast 38 = .ok (.iadd, 1) := by decide +kernel
theorem dX7_costEast_39 : decode cX7_costEast 39 = .ok (.iconst 2, 1) := by decide +kernel
theorem dX7_costEast_40 : decode cX7_costEast 40 = .ok (.aload_n 1, 1) := by decide +kernel
theorem dX7_costEast_41 : decode cX7_costEast 41 = .ok (.iload_n 2, 1) := by decide +kernel
theorem dX7_costEast_42 : decode cX7_costEast 42 = .ok (.invokevirtual 88, 3) := by decide +kernel
theorem dX7_costEast_45 : decode cX7_costEast 45 = .ok (.ishl, 1) := by decide +kernel
theorem dX7_costEast_46 : decode cX7_costEast 46 = .ok (.iadd, 1) := by decide +kernel
theorem dX7_costEast_47 : decode cX7_costEast 47 = .ok (.laload, 1) := by decide +kernel
theorem dX7_costEast_48 : decode cX7_costEast 48 = .ok (.ladd, 1) := by decide +kernel
theorem dX7_costEast_49 : decode cX7_costEast 49 = .ok (.invokestatic 101, 3) := by decide +kernel
theorem dX7_costEast_52 : decode cX7_costEast 52 = .ok (.lreturn, 1) := by decide +kernel
theorem dX7_costSouth_0 : decode cX7_costSouth 0 = .ok (.aload_n 0, 1) := by decide +kernel
theorem dX7_costSouth_1 : decode cX7_costSouth 1 = .ok (.getfield 18, 3) := by decide +kernel
theorem dX7_costSouth_4 : decode cX7_costSouth 4 = .ok (.iconst 2, 1) := by decide +kernel
theorem dX7_costSouth_5 : decode cX7_costSouth 5 = .ok (.iload_n 2, 1) := by decide +kernel
theorem dX7_costSouth_6 : decode cX7_costSouth 6 = .ok (.imul, 1) := by decide +kernel
theorem dX7_costSouth_7 : decode cX7_costSouth 7 = .ok (.iconst 1, 1) := by decide +kernel
theorem dX7_costSouth_8 : decode cX7_costSouth 8 = .ok (.iadd, 1) := by decide +kernel
theorem dX7_costSouth_9 : decode cX7_costSouth 9 = .ok (.baload, 1) := by decide +kernel
theorem dX7_costSouth_10 : decode cX7_costSouth 10 = .ok (.ifCond .ne 7, 3) := by decide +kernel
theorem dX7_costSouth_13 : decode cX7_costSouth 13 = .ok (.ldc2_w 80, 3) := by decide +kernel
theorem dX7_costSouth_16 : decode cX7_costSouth 16 = .ok (.lreturn, 1) := by decide +kernel
theorem dX7_costSouth_17 : decode cX7_costSouth 17 = .ok (.ldc2_w 80, 3) := by decide +kernel
theorem dX7_costSouth_20 : decode cX7_costSouth 20 = .ok (.aload_n 1, 1) := by decide +kernel
theorem dX7_costSouth_21 : decode cX7_costSouth 21 = .ok (.getfield 111, 3) := by decide +kernel
theorem dX7_costSouth_24 : decode cX7_costSouth 24 = .ok (.iconst 2, 1) := by decide +kernel
theorem dX7_costSouth_25 : decode cX7_costSouth 25 = .ok (.iload_n 2, 1) := by decide +kernel
theorem dX7_costSouth_26 : decode cX7_costSouth 26 = .ok (.imul, 1) := by decide +kernel
theorem dX7_costSouth_27 : decode cX7_costSouth 27 = .ok (.iconst 1, 1) := by decide +kernel
theorem dX7_costSouth_28 : decode cX7_costSouth 28 = .ok (.iadd, 1) := by decide +kernel
theorem dX7_costSouth_29 : decode cX7_costSouth 29 = .ok (.iaload, 1) := by decide +kernel
theorem dX7_costSouth_30 : decode cX7_costSouth 30 = .ok (.i2l, 1) := by decide +kernel
theorem dX7_costSouth_31 : decode cX7_costSouth 31 = .ok (.aload_n 0, 1) := by decide +kernel
theorem dX7_costSouth_32 : decode cX7_costSouth 32 = .ok (.getfield 9, 3) := by decide +kernel
theorem dX7_costSouth_35 : decode cX7_costSouth 35 = .ok (.iload_n 2, 1) := by decide +kernel
theorem dX7_costSouth_36 : decode cX7_costSouth 36 = .ok (.iconst 1, 1) := by decide +kernel
theorem dX7_costSouth_37 : decode cX7_costSouth 37 = .ok (.iadd, 1) := by decide +kernel
theorem dX7_costSouth_38 : decode cX7_costSouth 38 = .ok (.sipush 256, 3) := by decide +kernel
theorem dX7_costSouth_41 : decode cX7_costSouth 41 = .ok (.imul, 1) := by decide +kernel
theorem dX7_costSouth_42 : decode cX7_costSouth 42 = .ok (.iload_n 3, 1) := by decide +kernel
theorem dX7_costSouth_43 : decode cX7_costSouth 43 = .ok (.iadd, 1) := by decide +kernel
theorem dX7_costSouth_44 : decode cX7_costSouth 44 = .ok (.iconst 1, 1) := by decide +kernel
theorem dX7_costSouth_45 : decode cX7_costSouth 45 = .ok (.aload_n 1, 1) := by decide +kernel
theorem dX7_costSouth_46 : decode cX7_costSouth 46 = .ok (.iload_n 2, 1) := by decide +kernel
theorem dX7_costSouth_47 : decode cX7_costSouth 47 = .ok (.invokevirtual 88, 3) := by decide +kernel
theorem dX7_costSouth_50 : decode cX7_costSouth 50 = .ok (.ishl, 1) := by decide +kernel
theorem dX7_costSouth_51 : decode cX7_costSouth 51 = .ok (.iadd, 1) := by decide +kernel
theorem dX7_costSouth_52 : decode cX7_costSouth 52 = .ok (.laload, 1) := by decide +kernel
theorem dX7_costSouth_53 : decode cX7_costSouth 53 = .ok (.ladd, 1) := by decide +kernel
theorem dX7_costSouth_54 : decode cX7_costSouth 54 = .ok (.invokestatic 101, 3) := by decide +kernel
theorem dX7_costSouth_57 : decode cX7_costSouth 57 = .ok (.lreturn, 1) := by decide +kernel
theorem dX7_waysEast_0 : decode cX7_waysEast 0 = .ok (.aload_n 0, 1) := by decide +kernel
theorem dX7_waysEast_1 : decode cX7_waysEast 1 = .ok (.aload_n 1, 1) := by decide +kernel
theorem dX7_waysEast_2 : decode cX7_waysEast 2 = .ok (.iload_n 2, 1) := by decide +kernel
theorem dX7_waysEast_3 : decode cX7_waysEast 3 = .ok (.iload_n 3, 1) := by decide +kernel
theorem dX7_waysEast_4 : decode cX7_waysEast 4 = .ok (.invokevirtual 107, 3) := by decide +kernel
theorem dX7_waysEast_7 : decode cX7_waysEast 7 = .ok (.ifCond .ne 5, 3) := by decide +kernel
theorem dX7_waysEast_10 : decode cX7_waysEast 10 = .ok (.lconst 0, 1) := by decide +kernel
theorem dX7_waysEast_11 : decode cX7_waysEast 11 = .ok (.lreturn, 1) := by decide +kernel
theorem dX7_waysEast_12 : decode cX7_waysEast 12 = .ok (.aload_n 0, 1) := by decide +kernel
theorem dX7_waysEast_13 : decode cX7_waysEast 13 = .ok (.getfield 9, 3) := by decide +kernel
theorem dX7_waysEast_16 : decode cX7_waysEast 16 = .ok (.iload_n 2, 1) := by decide +kernel
theorem dX7_waysEast_17 : decode cX7_waysEast 17 = .ok (.iconst 1, 1) := by decide +kernel
theorem dX7_waysEast_18 : decode cX7_waysEast 18 = .ok (.iadd, 1) := by decide +kernel
theorem dX7_waysEast_19 : decode cX7_waysEast 19 = .ok (.sipush 256, 3) := by decide +kernel
theorem dX7_waysEast_22 : decode cX7_waysEast 22 = .ok (.imul, 1) := by decide +kernel
theorem dX7_waysEast_23 : decode cX7_waysEast 23 = .ok (.iload_n 3, 1) := by decide +kernel
theorem dX7_waysEast_24 : decode cX7_waysEast 24 = .ok (.iadd, 1) := by decide +kernel
theorem dX7_waysEast_25 : decode cX7_waysEast 25 = .ok (.iconst 2, 1) := by decide +kernel
theorem dX7_waysEast_26 : decode cX7_waysEast 26 = .ok (.aload_n 1, 1) := by decide +kernel
theorem dX7_waysEast_27 : decode cX7_waysEast 27 = .ok (.iload_n 2, 1) := by decide +kernel
theorem dX7_waysEast_28 : decode cX7_waysEast 28 = .ok (.invokevirtual 88, 3) := by decide +kernel
theorem dX7_waysEast_31 : decode cX7_waysEast 31 = .ok (.ishl, 1) := by decide +kernel
theorem dX7_waysEast_32 : decode cX7_waysEast 32 = .ok (.iadd, 1) := by decide +kernel
theorem dX7_waysEast_33 : decode cX7_waysEast 33 = .ok (.laload, 1) := by decide +kernel
theorem dX7_waysEast_34 : decode cX7_waysEast 34 = .ok (.lreturn, 1) := by decide +kernel
theorem dX7_layByRank_0 : decode cX7_layByRank 0 = .ok (.aload_n 0, 1) := by decide +kernel
theorem dX7_layByRank_1 : decode cX7_layByRank 1 = .ok (.aload_n 1, 1) := by decide +kernel
theorem dX7_layByRank_2 : decode cX7_layByRank 2 = .ok (.invokevirtual 36, 3) := by decide +kernel
theorem dX7_layByRank_5 : decode cX7_layByRank 5 = .ok (.lload_n 2, 1) := by decide +kernel
theorem dX7_layByRank_6 : decode cX7_layByRank 6 = .ok (.lstore 5, 2) := by decide +kernel
theorem dX7_layByRank_8 : decode cX7_layByRank 8 = .ok (.iconst 0, 1) := by decide +kernel
theorem dX7_layByRank_9 : decode cX7_layByRank 9 = .ok (.istore 7, 2) := by decide +kernel
theorem dX7_layByRank_11 : decode cX7_layByRank 11 = .ok (.iconst 0, 1) := by decide +kernel
theorem dX7_layByRank_12 : decode cX7_layByRank 12 = .ok (.istore 8, 2) := by decide +kernel
theorem dX7_layByRank_14 : decode cX7_layByRank 14 = .ok (.iload 8, 2) := by decide +kernel
theorem dX7_layByRank_16 : decode cX7_layByRank 16 = .ok (.aload_n 1, 1) := by decide +kernel
theorem dX7_layByRank_17 : decode cX7_layByRank 17 = .ok (.invokevirtual 43, 3) := by decide +kernel
theorem dX7_layByRank_20 : decode cX7_layByRank 20 = .ok (.if_icmp .ge 112, 3) := by decide +kernel
theorem dX7_layByRank_23 : decode cX7_layByRank 23 = .ok (.aload_n 1, 1) := by decide +kernel
theorem dX7_layByRank_24 : decode cX7_layByRank 24 = .ok (.iload 8, 2) := by decide +kernel
theorem dX7_layByRank_26 : decode cX7_layByRank 26 = .ok (.iload 7, 2) := by decide +kernel
theorem dX7_layByRank_28 : decode cX7_layByRank 28 = .ok (.invokestatic 114, 3) := by decide +kernel
theorem dX7_layByRank_31 : decode cX7_layByRank 31 = .ok (.ifCond .eq 80, 3) := by decide +kernel
theorem dX7_layByRank_34 : decode cX7_layByRank 34 = .ok (.aload_n 0, 1) := by decide +kernel
theorem dX7_layByRank_35 : decode cX7_layByRank 35 = .ok (.aload_n 1, 1) := by decide +kernel
theorem dX7_layByRank_36 : decode cX7_layByRank 36 = .ok (.iload 8, 2) := by decide +kernel
theorem dX7_layByRank_38 : decode cX7_layByRank 38 = .ok (.iload 7, 2) := by decide +kernel
theorem dX7_layByRank_40 : decode cX7_layByRank 40 = .ok (.invokevirtual 117, 3) := by decide +kernel
theorem dX7_layByRank_43 : decode cX7_layByRank 43 = .ok (.lstore 9, 2) := by decide +kernel
theorem dX7_layByRank_45 : decode cX7_layByRank 45 = .ok (.lload 5, 2) := by decide +kernel
theorem dX7_layByRank_47 : decode cX7_layByRank 47 = .ok (.lload 9, 2) := by decide +kernel
theorem dX7_layByRank_49 : decode cX7_layByRank 49 = .ok (.lcmp, 1) := by decide +kernel
theorem dX7_layByRank_50 : decode cX7_layByRank 50 = .ok (.ifCond .ge 7, 3) := by decide +kernel
theorem dX7_layByRank_53 : decode cX7_layByRank 53 = .ok (.iconst 1, 1) := by decide +kernel
theorem dX7_layByRank_54 : decode cX7_layByRank 54 = .ok (.goto 4, 3) := by decide +kernel
theorem dX7_layByRank_57 : decode cX7_layByRank 57 = .ok (.iconst 0, 1) := by decide +kernel
theorem dX7_layByRank_58 : decode cX7_layByRank 58 = .ok (.istore 11, 2) := by decide +kernel
theorem dX7_layByRank_60 : decode cX7_layByRank 60 = .ok (.iload 11, 2) := by decide +kernel
theorem dX7_layByRank_62 : decode cX7_layByRank 62 = .ok (.ifCond .ne 10, 3) := by decide +kernel
theorem dX7_layByRank_65 : decode cX7_layByRank 65 = .ok (.lload 5, 2) := by decide +kernel
theorem dX7_layByRank_67 : decode cX7_layByRank 67 = .ok (.lload 9, 2) := by decide +kernel
theorem dX7_layByRank_69 : decode cX7_layByRank 69 = .ok (.lsub, 1) := by decide +kernel
theorem dX7_layByRank_70 : decode cX7_layByRank 70 = .ok (.lstore 5, 2) := by decide +kernel
theorem dX7_layByRank_72 : decode cX7_layByRank 72 = .ok (.aload 4, 2) := by decide +kernel
theorem dX7_layByRank_74 : decode cX7_layByRank 74 = .ok (.aload_n 1, 1) := by decide +kernel
theorem dX7_layByRank_75 : decode cX7_layByRank 75 = .ok (.iload 11, 2) := by decide +kernel
theorem dX7_layByRank_77 : decode cX7_layByRank 77 = .ok (.ifCond .eq 10, 3) := by decide +kernel
theorem dX7_layByRank_80 : decode cX7_layByRank 80 = .ok (.iconst 2, 1) := by decide +kernel
theorem dX7_layByRank_81 : decode cX7_layByRank 81 = .ok (.iload 8, 2) := by decide +kernel
theorem dX7_layByRank_83 : decode cX7_layByRank 83 = .ok (.imul, 1) := by decide +kernel
theorem dX7_layByRank_84 : decode cX7_layByRank 84 = .ok (.goto 9, 3) := by decide +kernel
theorem dX7_layByRank_87 : decode cX7_layByRank 87 = .ok (.iconst 2, 1) := by decide +kernel
theorem dX7_layByRank_88 : decode cX7_layByRank 88 = .ok (.iload 8, 2) := by decide +kernel
theorem dX7_layByRank_90 : decode cX7_layByRank 90 = .ok (.imul, 1) := by decide +kernel
theorem dX7_layByRank_91 : decode cX7_layByRank 91 = .ok (.iconst 1, 1) := by decide +kernel
theorem dX7_layByRank_92 : decode cX7_layByRank 92 = .ok (.iadd, 1) := by decide +kernel
theorem dX7_layByRank_93 : decode cX7_layByRank 93 = .ok (.invokevirtual 120, 3) := by decide +kernel
theorem dX7_layByRank_96 : decode cX7_layByRank 96 = .ok (.aload_n 1, 1) := by decide +kernel
theorem dX7_layByRank_97 : decode cX7_layByRank 97 = .ok (.iload 8, 2) := by decide +kernel
theorem dX7_layByRank_99 : decode cX7_layByRank 99 = .ok (.iload 7, 2) := by decide +kernel
theorem dX7_layByRank_101 : decode cX7_layByRank 101 = .ok (.iload 11, 2) := by decide +kernel
theorem dX7_layByRank_103 : decode cX7_layByRank 103 = .ok (.invokestatic 125, 3) := by decide +kernel
theorem dX7_layByRank_106 : decode cX7_layByRank 106 = .ok (.istore 7, 2) := by decide +kernel
theorem dX7_layByRank_108 : decode cX7_layByRank 108 = .ok (.goto 18, 3) := by decide +kernel
theorem dX7_layByRank_111 : decode cX7_layByRank 111 = .ok (.iload 7, 2) := by decide +kernel
theorem dX7_layByRank_113 : decode cX7_layByRank 113 = .ok (.iconst 1, 1) := by decide +kernel
theorem dX7_layByRank_114 : decode cX7_layByRank 114 = .ok (.aload_n 1, 1) := by decide +kernel
theorem dX7_layByRank_115 : decode cX7_layByRank 115 = .ok (.iload 8, 2) := by decide +kernel
theorem dX7_layByRank_117 : decode cX7_layByRank 117 = .ok (.invokevirtual 88, 3) := by decide +kernel
theorem dX7_layByRank_120 : decode cX7_layByRank 120 = .ok (.ishl, 1) := by decide +kernel
theorem dX7_layByRank_121 : decode cX7_layByRank 121 = .ok (.iconst (-1), 1) := by decide +kernel
theorem dX7_layByRank_122 : decode cX7_layByRank 122 = .ok (.ixor, 1) := by decide +kernel
theorem dX7_layByRank_123 : decode cX7_layByRank 123 = .ok (.iand, 1) := by decide +kernel
theorem dX7_layByRank_124 : decode cX7_layByRank 124 = .ok (.istore 7, 2) := by decide +kernel
theorem dX7_layByRank_126 : decode cX7_layByRank 126 = .ok (.iinc 8 1, 3) := by decide +kernel
theorem dX7_layByRank_129 : decode cX7_layByRank 129 = .ok (.goto (-115), 3) := by decide +kernel
theorem dX7_layByRank_132 : decode cX7_layByRank 132 = .ok (.aload 4, 2) := by decide +kernel
theorem dX7_layByRank_134 : decode cX7_layByRank 134 = .ok (.iconst 1, 1) := by decide +kernel
theorem dX7_layByRank_135 : decode cX7_layByRank 135 = .ok (.putfield 129, 3) := by decide +kernel
theorem dX7_layByRank_138 : decode cX7_layByRank 138 = .ok (.return_, 1) := by decide +kernel
theorem dX7_layCheapest_0 : decode cX7_layCheapest 0 = .ok (.aload_n 0, 1) := by decide +kernel
theorem dX7_layCheapest_1 : decode cX7_layCheapest 1 = .ok (.aload_n 1, 1) := by decide +kernel
theorem dX7_layCheapest_2 : decode cX7_layCheapest 2 = .ok (.invokevirtual 40, 3) := by decide +kernel
theorem dX7_layCheapest_5 : decode cX7_layCheapest 5 = .ok (.iconst 0, 1) := by decide +kernel
theorem dX7_layCheapest_6 : decode cX7_layCheapest 6 = .ok (.istore_n 3, 1) := by decide +kernel
theorem dX7_layCheapest_7 : decode cX7_layCheapest 7 = .ok (.iconst 0, 1) := by decide +kernel
theorem dX7_layCheapest_8 : decode cX7_layCheapest 8 = .ok (.istore 4, 2) := by decide +kernel
theorem dX7_layCheapest_10 : decode cX7_layCheapest 10 = .ok (.iload 4, 2) := by decide +kernel
theorem dX7_layCheapest_12 : decode cX7_layCheapest 12 = .ok (.aload_n 1, 1) := by decide +kernel
theorem dX7_layCheapest_13 : decode cX7_layCheapest 13 = .ok (.invokevirtual 43, 3) := by decide +kernel
theorem dX7_layCheapest_16 : decode cX7_layCheapest 16 = .ok (.if_icmp .ge 95, 3) := by decide +kernel
theorem dX7_layCheapest_19 : decode cX7_layCheapest 19 = .ok (.aload_n 1, 1) := by decide +kernel
theorem dX7_layCheapest_20 : decode cX7_layCheapest 20 = .ok (.iload 4, 2) := by decide +kernel
theorem dX7_layCheapest_22 : decode cX7_layCheapest 22 = .ok (.iload_n 3, 1) := by decide +kernel
theorem dX7_layCheapest_23 : decode cX7_layCheapest 23 = .ok (.invokestatic 114, 3) := by decide +kernel
theorem dX7_layCheapest_26 : decode cX7_layCheapest 26 = .ok (.ifCond .eq 66, 3) := by decide +kernel
theorem dX7_layCheapest_29 : decode cX7_layCheapest 29 = .ok (.aload_n 0, 1) := by decide +kernel
theorem dX7_layCheapest_30 : decode cX7_layCheapest 30 = .ok (.aload_n 1, 1) := by decide +kernel
theorem dX7_layCheapest_31 : decode cX7_layCheapest 31 = .ok (.iload 4, 2) := by decide +kernel
theorem dX7_layCheapest_33 : decode cX7_layCheapest 33 = .ok (.iload_n 3, 1) := by decide +kernel
theorem dX7_layCheapest_34 : decode cX7_layCheapest 34 = .ok (.invokevirtual 94, 3) := by decide +kernel
theorem dX7_layCheapest_37 : decode cX7_layCheapest 37 = .ok (.aload_n 0, 1) := by decide +kernel
theorem dX7_layCheapest_38 : decode cX7_layCheapest 38 = .ok (.aload_n 1, 1) := by decide +kernel
theorem dX7_layCheapest_39 : decode cX7_layCheapest 39 = .ok (.iload 4, 2) := by decide +kernel
theorem dX7_layCheapest_41 : decode cX7_layCheapest 41 = .ok (.iload_n 3, 1) := by decide +kernel
theorem dX7_layCheapest_42 : decode cX7_layCheapest 42 = .ok (.invokevirtual 98, 3) := by decide +kernel
theorem dX7_layCheapest_45 : decode cX7_layCheapest 45 = .ok (.lcmp, 1) := by decide +kernel
theorem dX7_layCheapest_46 : decode cX7_layCheapest 46 = .ok (.ifCond .gt 7, 3) := by decide +kernel
theorem dX7_layCheapest_49 : decode cX7_layCheapest 49 = .ok (.iconst 1, 1) := by decide +kernel
theorem dX7_layCheapest_50 : decode cX7_layCheapest 50 = .ok (.goto 4, 3) := by decide +kernel
theorem dX7_layCheapest_53 : decode cX7_layCheapest 53 = .ok (.iconst 0, 1) := by decide +kernel
theorem dX7_layCheapest_54 : decode cX7_layCheapest 54 = .ok (.istore 5, 2) := by decide +kernel
theorem dX7_layCheapest_56 : decode cX7_layCheapest 56 = .ok (.aload_n 2, 1) := by decide +kernel
theorem dX7_layCheapest_57 : decode cX7_layCheapest 57 = .ok (.aload_n 1, 1) := by decide +kernel
theorem dX7_layCheapest_58 : decode cX7_layCheapest 58 = .ok (.iload 5, 2) := by decide +kernel
theorem dX7_layCheapest_60 : decode cX7_layCheapest 60 = .ok (.ifCond .eq 10, 3) := by decide +kernel
theorem dX7_layCheapest_63 : decode cX7_layCheapest 63 = .ok (.iconst 2, 1) := by decide +kernel
theorem dX7_layCheapest_64 : decode cX7_layCheapest 64 = .ok (.iload 4, 2) := by decide +kernel
theorem dX7_layCheapest_66 : decode cX7_layCheapest 66 = .ok (.imul, 1) := by decide +kernel
theorem dX7_layCheapest_67 : decode cX7_layCheapest 67 = .ok (.goto 9, 3) := by decide +kernel
theorem dX7_layCheapest_70 : decode cX7_layCheapest 70 = .ok (.iconst 2, 1) := by decide +kernel
theorem dX7_layCheapest_71 : decode cX7_layCheapest 71 = .ok (.iload 4, 2) := by decide +kernel
theorem dX7_layCheapest_73 : decode cX7_layCheapest 73 = .ok (.imul, 1) := by decide +kernel
theorem dX7_layCheapest_74 : decode cX7_layCheapest 74 = .ok (.iconst 1, 1) := by decide +kernel
theorem dX7_layCheapest_75 : decode cX7_layCheapest 75 = .ok (.iadd, 1) := by decide +kernel
theorem dX7_layCheapest_76 : decode cX7_layCheapest 76 = .ok (.invokevirtual 120, 3) := by decide +kernel
theorem dX7_layCheapest_79 : decode cX7_layCheapest 79 = .ok (.aload_n 1, 1) := by decide +kernel
theorem dX7_layCheapest_80 : decode cX7_layCheapest 80 = .ok (.iload 4, 2) := by decide +kernel
theorem dX7_layCheapest_82 : decode cX7_layCheapest 82 = .ok (.iload_n 3, 1) := by decide +kernel
theorem dX7_layCheapest_83 : decode cX7_layCheapest 83 = .ok (.iload 5, 2) := by decide +kernel
theorem dX7_layCheapest_85 : decode cX7_layCheapest 85 = .ok (.invokestatic 125, 3) := by decide +kernel
theorem dX7_layCheapest_88 : decode cX7_layCheapest 88 = .ok (.istore_n 3, 1) := by decide +kernel
theorem dX7_layCheapest_89 : decode cX7_layCheapest 89 = .ok (.goto 16, 3) := by decide +kernel
theorem dX7_layCheapest_92 : decode cX7_layCheapest 92 = .ok (.iload_n 3, 1) := by decide +kernel
theorem dX7_layCheapest_93 : decode cX7_layCheapest 93 = .ok (.iconst 1, 1) := by decide +kernel
theorem dX7_layCheapest_94 : decode cX7_layCheapest 94 = .ok (.aload_n 1, 1) := by decide +kernel
theorem dX7_layCheapest_95 : decode cX7_layCheapest 95 = .ok (.iload 4, 2) := by decide +kernel
theorem dX7_layCheapest_97 : decode cX7_layCheapest 97 = .ok (.invokevirtual 88, 3) := by decide +kernel
theorem dX7_layCheapest_100 : decode cX7_layCheapest 100 = .ok (.ishl, 1) := by decide +kernel
theorem dX7_layCheapest_101 : decode cX7_layCheapest 101 = .ok (.iconst (-1), 1) := by decide +kernel
theorem dX7_layCheapest_102 : decode cX7_layCheapest 102 = .ok (.ixor, 1) := by decide +kernel
theorem dX7_layCheapest_103 : decode cX7_layCheapest 103 = .ok (.iand, 1) := by decide +kernel
theorem dX7_layCheapest_104 : decode cX7_layCheapest 104 = .ok (.istore_n 3, 1) := by decide +kernel
theorem dX7_layCheapest_105 : decode cX7_layCheapest 105 = .ok (.iinc 4 1, 3) := by decide +kernel
theorem dX7_layCheapest_108 : decode cX7_layCheapest 108 = .ok (.goto (-98), 3) := by decide +kernel
theorem dX7_layCheapest_111 : decode cX7_layCheapest 111 = .ok (.aload_n 2, 1) := by decide +kernel
theorem dX7_layCheapest_112 : decode cX7_layCheapest 112 = .ok (.iconst 1, 1) := by decide +kernel
theorem dX7_layCheapest_113 : decode cX7_layCheapest 113 = .ok (.putfield 129, 3) := by decide +kernel
theorem dX7_layCheapest_116 : decode cX7_layCheapest 116 = .ok (.return_, 1) := by decide +kernel
theorem dX7_isBare_0 : decode cX7_isBare 0 = .ok (.aload_n 0, 1) := by decide +kernel
theorem dX7_isBare_1 : decode cX7_isBare 1 = .ok (.getfield 91, 3) := by decide +kernel
theorem dX7_isBare_4 : decode cX7_isBare 4 = .ok (.iload_n 1, 1) := by decide +kernel
theorem dX7_isBare_5 : decode cX7_isBare 5 = .ok (.baload, 1) := by decide +kernel
theorem dX7_isBare_6 : decode cX7_isBare 6 = .ok (.ifCond .eq 19, 3) := by decide +kernel
theorem dX7_isBare_9 : decode cX7_isBare 9 = .ok (.iload_n 2, 1) := by decide +kernel
theorem dX7_isBare_10 : decode cX7_isBare 10 = .ok (.iconst 1, 1) := by decide +kernel
theorem dX7_isBare_11 : decode cX7_isBare 11 = .ok (.aload_n 0, 1) := by decide +kernel
theorem dX7_isBare_12 : decode cX7_isBare 12 = .ok (.iload_n 1, 1) := by decide +kernel
theorem dX7_isBare_13 : decode cX7_isBare 13 = .ok (.invokevirtual 88, 3) := by decide +kernel
theorem dX7_isBare_16 : decode cX7_isBare 16 = .ok (.ishl, 1) := by decide +kernel
theorem dX7_isBare_17 : decode cX7_isBare 17 = .ok (.iand, 1) := by decide +kernel
theorem dX7_isBare_18 : decode cX7_isBare 18 = .ok (.ifCond .ne 7, 3) := by decide +kernel
theorem dX7_isBare_21 : decode cX7_isBare 21 = .ok (.iconst 1, 1) := by decide +kernel
theorem dX7_isBare_22 : decode cX7_isBare 22 = .ok (.goto 4, 3) := by decide +kernel
theorem dX7_isBare_25 : decode cX7_isBare 25 = .ok (.iconst 0, 1) := by decide +kernel
theorem dX7_isBare_26 : decode cX7_isBare 26 = .ok (.ireturn, 1) := by decide +kernel
theorem dX7_maskBehind_0 : decode cX7_maskBehind 0 = .ok (.iload_n 2, 1) := by decide +kernel
theorem dX7_maskBehind_1 : decode cX7_maskBehind 1 = .ok (.iload_n 3, 1) := by decide +kernel
theorem dX7_maskBehind_2 : decode cX7_maskBehind 2 = .ok (.ifCond .eq 7, 3) := by decide +kernel
theorem dX7_maskBehind_5 : decode cX7_maskBehind 5 = .ok (.iconst 2, 1) := by decide +kernel
theorem dX7_maskBehind_6 : decode cX7_maskBehind 6 = .ok (.goto 4, 3) := by decide +kernel
theorem dX7_maskBehind_9 : decode cX7_maskBehind 9 = .ok (.iconst 1, 1) := by decide +kernel
theorem dX7_maskBehind_10 : decode cX7_maskBehind 10 = .ok (.aload_n 0, 1) := by decide +kernel
theorem dX7_maskBehind_11 : decode cX7_maskBehind 11 = .ok (.iload_n 1, 1) := by decide +kernel
theorem dX7_maskBehind_12 : decode cX7_maskBehind 12 = .ok (.invokevirtual 88, 3) := by decide +kernel
theorem dX7_maskBehind_15 : decode cX7_maskBehind 15 = .ok (.ishl, 1) := by decide +kernel
theorem dX7_maskBehind_16 : decode cX7_maskBehind 16 = .ok (.ior, 1) := by decide +kernel
theorem dX7_maskBehind_17 : decode cX7_maskBehind 17 = .ok (.ireturn, 1) := by decide +kernel
theorem dX7_rankOf_0 : decode cX7_rankOf 0 = .ok (.aload_n 0, 1) := by decide +kernel
theorem dX7_rankOf_1 : decode cX7_rankOf 1 = .ok (.aload_n 1, 1) := by decide +kernel
theorem dX7_rankOf_2 : decode cX7_rankOf 2 = .ok (.invokevirtual 36, 3) := by decide +kernel
theorem dX7_rankOf_5 : decode cX7_rankOf 5 = .ok (.lconst 0, 1) := by decide +kernel
theorem dX7_rankOf_6 : decode cX7_rankOf 6 = .ok (.lstore_n 3, 1) := by decide +kernel
theorem dX7_rankOf_7 : decode cX7_rankOf 7 = .ok (.iconst 0, 1) := by decide +kernel
theorem dX7_rankOf_8 : decode cX7_rankOf 8 = .ok (.istore 5, 2) := by decide +kernel
theorem dX7_rankOf_10 : decode cX7_rankOf 10 = .ok (.iconst 0, 1) := by decide +kernel
theorem dX7_rankOf_11 : decode cX7_rankOf 11 = .ok (.istore 6, 2) := by decide +kernel
theorem dX7_rankOf_13 : decode cX7_rankOf 13 = .ok (.iload 6, 2) := by decide +kernel
theorem dX7_rankOf_15 : decode cX7_rankOf 15 = .ok (.aload_n 1, 1) := by decide +kernel
theorem dX7_rankOf_16 : decode cX7_rankOf 16 = .ok (.invokevirtual 43, 3) := by decide +kernel
theorem dX7_rankOf_19 : decode cX7_rankOf 19 = .ok (.if_icmp .ge 104, 3) := by decide +kernel
theorem dX7_rankOf_22 : decode cX7_rankOf 22 = .ok (.aload_n 1, 1) := by decide +kernel
theorem dX7_rankOf_23 : decode cX7_rankOf 23 = .ok (.iload 6, 2) := by decide +kernel
theorem dX7_rankOf_25 : decode cX7_rankOf 25 = .ok (.iload 5, 2) := by decide +kernel
theorem dX7_rankOf_27 : decode cX7_rankOf 27 = .ok (.invokestatic 114, 3) := by decide +kernel
theorem dX7_rankOf_30 : decode cX7_rankOf 30 = .ok (.ifCond .eq 72, 3) := by decide +kernel
theorem dX7_rankOf_33 : decode cX7_rankOf 33 = .ok (.aload_n 2, 1) := by decide +kernel
theorem dX7_rankOf_34 : decode cX7_rankOf 34 = .ok (.getfield 132, 3) := by decide +kernel
theorem dX7_rankOf_37 : decode cX7_rankOf 37 = .ok (.iload 6, 2) := by decide +kernel
theorem dX7_rankOf_39 : decode cX7_rankOf 39 = .ok (.iaload, 1) := by decide +kernel
theorem dX7_rankOf_40 : decode cX7_rankOf 40 = .ok (.istore 7, 2) := by decide +kernel
theorem dX7_rankOf_42 : decode cX7_rankOf 42 = .ok (.aload_n 0, 1) := by decide +kernel
theorem dX7_rankOf_43 : decode cX7_rankOf 43 = .ok (.getfield 18, 3) := by decide +kernel
theorem dX7_rankOf_46 : decode cX7_rankOf 46 = .ok (.iload 7, 2) := by decide +kernel
theorem dX7_rankOf_48 : decode cX7_rankOf 48 = .ok (.baload, 1) := by decide +kernel
theorem dX7_rankOf_49 : decode cX7_rankOf 49 = .ok (.ifCond .ne 7, 3) := by decide +kernel
theorem dX7_rankOf_52 : decode cX7_rankOf 52 = .ok (.ldc2_w 135, 3) := by decide +kernel
theorem dX7_rankOf_55 : decode cX7_rankOf 55 = .ok (.lreturn, 1) := by decide +kernel
theorem dX7_rankOf_56 : decode cX7_rankOf 56 = .ok (.iload 7, 2) := by decide +kernel
theorem dX7_rankOf_58 : decode cX7_rankOf 58 = .ok (.iconst 2, 1) := by decide +kernel
theorem dX7_rankOf_59 : decode cX7_rankOf 59 = .ok (.irem, 1) := by decide +kernel
theorem dX7_rankOf_60 : decode cX7_rankOf 60 = .ok (.ifCond .ne 7, 3) := by decide +kernel
theorem dX7_rankOf_63 : decode cX7_rankOf 63 = .ok (.iconst 1, 1) := by decide +kernel
theorem dX7_rankOf_64 : decode cX7_rankOf 64 = .ok (.goto 4, 3) := by decide +kernel
theorem dX7_rankOf_67 : decode cX7_rankOf 67 = .ok (.iconst 0, 1) := by decide +kernel
theorem dX7_rankOf_68 : decode cX7_rankOf 68 = .ok (.istore 8, 2) := by decide +kernel
theorem dX7_rankOf_70 : decode cX7_rankOf 70 = .ok (.iload 8, 2) := by decide +kernel
theorem dX7_rankOf_72 : decode cX7_rankOf 72 = .ok (.ifCond .ne 15, 3) := by decide +kernel
theorem dX7_rankOf_75 : decode cX7_rankOf 75 = .ok (.lload_n 3, 1) := by decide +kernel
theorem dX7_rankOf_76 : decode cX7_rankOf 76 = .ok (.aload_n 0, 1) := by decide +kernel
theorem dX7_rankOf_77 : decode cX7_rankOf 77 = .ok (.aload_n 1, 1) := by decide +kernel
theorem dX7_rankOf_78 : decode cX7_rankOf 78 = .ok (.iload 6, 2) := by decide +kernel
theorem dX7_rankOf_80 : decode cX7_rankOf 80 = .ok (.iload 5, 2) := by decide +kernel
theorem dX7_rankOf_82 : decode cX7_rankOf 82 = .ok (.invokevirtual 117, 3) := by decide +kernel
theorem dX7_rankOf_85 : decode cX7_rankOf 85 = .ok (.ladd, 1) := by decide +kernel
theorem dX7_rankOf_86 : decode cX7_rankOf 86 = .ok (.lstore_n 3, 1) := by decide +kernel
theorem dX7_rankOf_87 : decode cX7_rankOf 87 = .ok (.aload_n 1, 1) := by decide +kernel
theorem dX7_rankOf_88 : decode cX7_rankOf 88 = .ok (.iload 6, 2) := by decide +kernel
theorem dX7_rankOf_90 : decode cX7_rankOf 90 = .ok (.iload 5, 2) := by decide +kernel
theorem dX7_rankOf_92 : decode cX7_rankOf 92 = .ok (.iload 8, 2) := by decide +kernel
theorem dX7_rankOf_94 : decode cX7_rankOf 94 = .ok (.invokestatic 125, 3) := by decide +kernel
theorem dX7_rankOf_97 : decode cX7_rankOf 97 = .ok (.istore 5, 2) := by decide +kernel
theorem dX7_rankOf_99 : decode cX7_rankOf 99 = .ok (.goto 18, 3) := by decide +kernel
theorem dX7_rankOf_102 : decode cX7_rankOf 102 = .ok (.iload 5, 2) := by decide +kernel
theorem dX7_rankOf_104 : decode cX7_rankOf 104 = .ok (.iconst 1, 1) := by decide +kernel
theorem dX7_rankOf_105 : decode cX7_rankOf 105 = .ok (.aload_n 1, 1) := by decide +kernel
theorem dX7_rankOf_106 : decode cX7_rankOf 106 = .ok (.iload 6, 2) := by decide +kernel
theorem dX7_rankOf_108 : decode cX7_rankOf 108 = .ok (.invokevirtual 88, 3) := by decide +kernel
theorem dX7_rankOf_111 : decode cX7_rankOf 111 = .ok (.ishl, 1) := by decide +kernel
theorem dX7_rankOf_112 : decode cX7_rankOf 112 = .ok (.iconst (-1), 1) := by decide +kernel
theorem dX7_rankOf_113 : decode cX7_rankOf 113 = .ok (.ixor, 1) := by decide +kernel
theorem dX7_rankOf_114 : decode cX7_rankOf 114 = .ok (.iand, 1) := by decide +kernel
theorem dX7_rankOf_115 : decode cX7_rankOf 115 = .ok (.istore 5, 2) := by decide +kernel
theorem dX7_rankOf_117 : decode cX7_rankOf 117 = .ok (.iinc 6 1, 3) := by decide +kernel
theorem dX7_rankOf_120 : decode cX7_rankOf 120 = .ok (.goto (-107), 3) := by decide +kernel
theorem dX7_rankOf_123 : decode cX7_rankOf 123 = .ok (.lload_n 3, 1) := by decide +kernel
theorem dX7_rankOf_124 : decode cX7_rankOf 124 = .ok (.lreturn, 1) := by decide +kernel
theorem dX7_fillShares_0 : decode cX7_fillShares 0 = .ok (.aload_n 0, 1) := by decide +kernel
theorem dX7_fillShares_1 : decode cX7_fillShares 1 = .ok (.getfield 32, 3) := by decide +kernel
theorem dX7_fillShares_4 : decode cX7_fillShares 4 = .ok (.ifCond .eq 4, 3) := by decide +kernel
theorem dX7_fillShares_7 : decode cX7_fillShares 7 = .ok (.return_, 1) := by decide +kernel
theorem dX7_fillShares_8 : decode cX7_fillShares 8 = .ok (.aload_n 0, 1) := by decide +kernel
theorem dX7_fillShares_9 : decode cX7_fillShares 9 = .ok (.aload_n 1, 1) := by decide +kernel
theorem dX7_fillShares_10 : decode cX7_fillShares 10 = .ok (.invokevirtual 36, 3) := by decide +kernel
theorem dX7_fillShares_13 : decode cX7_fillShares 13 = .ok (.aload_n 0, 1) := by decide +kernel
theorem dX7_fillShares_14 : decode cX7_fillShares 14 = .ok (.getfield 15, 3) := by decide +kernel
theorem dX7_fillShares_17 : decode cX7_fillShares 17 = .ok (.lconst 0, 1) := by decide +kernel
theorem dX7_fillShares_18 : decode cX7_fillShares 18 = .ok (.invokestatic 137, 3) := by decide +kernel
theorem dX7_fillShares_21 : decode cX7_fillShares 21 = .ok (.aload_n 0, 1) := by decide +kernel
theorem dX7_fillShares_22 : decode cX7_fillShares 22 = .ok (.getfield 22, 3) := by decide +kernel
theorem dX7_fillShares_25 : decode cX7_fillShares 25 = .ok (.lconst 0, 1) := by decide +kernel
theorem dX7_fillShares_26 : decode cX7_fillShares 26 = .ok (.invokestatic 137, 3) := by decide +kernel
theorem dX7_fillShares_29 : decode cX7_fillShares 29 = .ok (.aload_n 0, 1) := by decide +kernel
theorem dX7_fillShares_30 : decode cX7_fillShares 30 = .ok (.getfield 22, 3) := by decide +kernel
theorem dX7_fillShares_33 : decode cX7_fillShares 33 = .ok (.iconst 0, 1) := by decide +kernel
theorem dX7_fillShares_34 : decode cX7_fillShares 34 = .ok (.lconst 1, 1) := by decide +kernel
theorem dX7_fillShares_35 : decode cX7_fillShares 35 = .ok (.lastore, 1) := by decide +kernel
theorem dX7_fillShares_36 : decode cX7_fillShares 36 = .ok (.iconst 0, 1) := by decide +kernel
theorem dX7_fillShares_37 : decode cX7_fillShares 37 = .ok (.istore_n 2, 1) := by decide +kernel
theorem dX7_fillShares_38 : decode cX7_fillShares 38 = .ok (.iload_n 2, 1) := by decide +kernel
theorem dX7_fillShares_39 : decode cX7_fillShares 39 = .ok (.aload_n 1, 1) := by decide +kernel
theorem dX7_fillShares_40 : decode cX7_fillShares 40 = .ok (.invokevirtual 43, 3) := by decide +kernel
theorem dX7_fillShares_43 : decode cX7_fillShares 43 = .ok (.if_icmp .ge 41, 3) := by decide +kernel
theorem dX7_fillShares_46 : decode cX7_fillShares 46 = .ok (.aload_n 0, 1) := by decide +kernel
theorem dX7_fillShares_47 : decode cX7_fillShares 47 = .ok (.getfield 25, 3) := by decide +kernel
theorem dX7_fillShares_50 : decode cX7_fillShares 50 = .ok (.lconst 0, 1) := by decide +kernel
theorem dX7_fillShares_51 : decode cX7_fillShares 51 = .ok (.invokestatic 137, 3) := by decide +kernel
theorem dX7_fillShares_54 : decode cX7_fillShares 54 = .ok (.aload_n 0, 1) := by decide +kernel
theorem dX7_fillShares_55 : decode cX7_fillShares 55 = .ok (.aload_n 1, 1) := by decide +kernel
theorem dX7_fillShares_56 : decode cX7_fillShares 56 = .ok (.iload_n 2, 1) := by decide +kernel
theorem dX7_fillShares_57 : decode cX7_fillShares 57 = .ok (.invokevirtual 143, 3) := by decide +kernel
theorem dX7_fillShares_60 : decode cX7_fillShares 60 = .ok (.aload_n 0, 1) := by decide +kernel
theorem dX7_fillShares_61 : decode cX7_fillShares 61 = .ok (.getfield 22, 3) := by decide +kernel
theorem dX7_fillShares_64 : decode cX7_fillShares 64 = .ok (.astore_n 3, 1) := by decide +kernel
theorem dX7_fillShares_65 : decode cX7_fillShares 65 = .ok (.aload_n 0, 1) := by decide +kernel
theorem dX7_fillShares_66 : decode cX7_fillShares 66 = .ok (.aload_n 0, 1) := by decide +kernel
theorem dX7_fillShares_67 : decode cX7_fillShares 67 = .ok (.getfield 25, 3) := by decide +kernel
theorem dX7_fillShares_70 : decode cX7_fillShares 70 = .ok (.putfield 22, 3) := by decide +kernel
theorem dX7_fillShares_73 : decode cX7_fillShares 73 = .ok (.aload_n 0, 1) := by decide +kernel
theorem dX7_fillShares_74 : decode cX7_fillShares 74 = .ok (.aload_n 3, 1) := by decide +kernel
theorem dX7_fillShares_75 : decode cX7_fillShares 75 = .ok (.putfield 25, 3) := by decide +kernel
theorem dX7_fillShares_78 : decode cX7_fillShares 78 = .ok (.iinc 2 1, 3) := by decide +kernel
theorem dX7_fillShares_81 : decode cX7_fillShares 81 = .ok (.goto (-43), 3) := by decide +kernel
theorem dX7_fillShares_84 : decode cX7_fillShares 84 = .ok (.aload_n 0, 1) := by decide +kernel
theorem dX7_fillShares_85 : decode cX7_fillShares 85 = .ok (.iconst 1, 1) := by decide +kernel
theorem dX7_fillShares_86 : decode cX7_fillShares 86 = .ok (.putfield 32, 3) := by decide +kernel
theorem dX7_fillShares_89 : decode cX7_fillShares 89 = .ok (.return_, 1) := by decide +kernel
theorem dX7_shareAt_0 : decode cX7_shareAt 0 = .ok (.iload_n 2, 1) := by decide +kernel
theorem dX7_shareAt_1 : decode cX7_shareAt 1 = .ok (.iconst 1, 1) := by decide +kernel
theorem dX7_shareAt_2 : decode cX7_shareAt 2 = .ok (.iadd, 1) := by decide +kernel
theorem dX7_shareAt_3 : decode cX7_shareAt 3 = .ok (.sipush 256, 3) := by decide +kernel
theorem dX7_shareAt_6 : decode cX7_shareAt 6 = .ok (.imul, 1) := by decide +kernel
theorem dX7_shareAt_7 : decode cX7_shareAt 7 = .ok (.istore_n 3, 1) := by decide +kernel
theorem dX7_shareAt_8 : decode cX7_shareAt 8 = .ok (.iconst 1, 1) := by decide +kernel
theorem dX7_shareAt_9 : decode cX7_shareAt 9 = .ok (.aload_n 1, 1) := by decide +kernel
theorem dX7_shareAt_10 : decode cX7_shareAt 10 = .ok (.iload_n 2, 1) := by decide +kernel
theorem dX7_shareAt_11 : decode cX7_shareAt 11 = .ok (.invokevirtual 88, 3) := by decide +kernel
theorem dX7_shareAt_14 : decode cX7_shareAt 14 = .ok (.ishl, 1) := by decide +kernel
theorem dX7_shareAt_15 : decode cX7_shareAt 15 = .ok (.istore 4, 2) := by decide +kernel
theorem dX7_shareAt_17 : decode cX7_shareAt 17 = .ok (.iconst 0, 1) := by decide +kernel
theorem dX7_shareAt_18 : decode cX7_shareAt 18 = .ok (.istore 5, 2) := by decide +kernel
theorem dX7_shareAt_20 : decode cX7_shareAt 20 = .ok (.iload 5, 2) := by decide +kernel
theorem dX7_shareAt_22 : decode cX7_shareAt 22 = .ok (.iconst 1, 1) := by decide +kernel
theorem dX7_shareAt_23 : decode cX7_shareAt 23 = .ok (.aload_n 1, 1) := by decide +kernel
theorem dX7_shareAt_24 : decode cX7_shareAt 24 = .ok (.getfield 85, 3) := by decide +kernel
theorem dX7_shareAt_27 : decode cX7_shareAt 27 = .ok (.ishl, 1) := by decide +kernel
theorem dX7_shareAt_28 : decode cX7_shareAt 28 = .ok (.if_icmp .ge 170, 3) := by decide +kernel
theorem dX7_shareAt_31 : decode cX7_shareAt 31 = .ok (.aload_n 0, 1) := by decide +kernel
theorem dX7_shareAt_32 : decode cX7_shareAt 32 = .ok (.getfield 22, 3) := by decide +kernel
theorem dX7_shareAt_35 : decode cX7_shareAt 35 = .ok (.iload 5, 2) := by decide +kernel
theorem dX7_shareAt_37 : decode cX7_shareAt 37 = .ok (.laload, 1) := by decide +kernel
theorem dX7_shareAt_38 : decode cX7_shareAt 38 = .ok (.lstore 6, 2) := by decide +kernel
theorem dX7_shareAt_40 : decode cX7_shareAt 40 = .ok (.lload 6, 2) := by decide +kernel
theorem dX7_shareAt_42 : decode cX7_shareAt 42 = .ok (.lconst 0, 1) := by decide +kernel
theorem dX7_shareAt_43 : decode cX7_shareAt 43 = .ok (.lcmp, 1) := by decide +kernel
theorem dX7_shareAt_44 : decode cX7_shareAt 44 = .ok (.ifCond .ne 6, 3) := by decide +kernel
theorem dX7_shareAt_47 : decode cX7_shareAt 47 = .ok (.goto 145, 3) := by decide +kernel
theorem dX7_shareAt_50 : decode cX7_shareAt 50 = .ok (.aload_n 1, 1) := by decide +kernel
theorem dX7_shareAt_51 : decode cX7_shareAt 51 = .ok (.iload_n 2, 1) := by decide +kernel
theorem dX7_shareAt_52 : decode cX7_shareAt 52 = .ok (.iload 5, 2) := by decide +kernel
theorem dX7_shareAt_54 : decode cX7_shareAt 54 = .ok (.invokestatic 114, 3) := by decide +kernel
theorem dX7_shareAt_57 : decode cX7_shareAt 57 = .ok (.ifCond .ne 23, 3) := by decide +kernel
theorem dX7_shareAt_60 : decode cX7_shareAt 60 = .ok (.aload_n 0, 1) := by decide +kernel
theorem dX7_shareAt_61 : decode cX7_shareAt 61 = .ok (.getfield 25, 3) := by decide +kernel
theorem dX7_shareAt_64 : decode cX7_shareAt 64 = .ok (.iload 5, 2) := by decide +kernel
theorem dX7_shareAt_66 : decode cX7_shareAt 66 = .ok (.iload 4, 2) := by decide +kernel
theorem dX7_shareAt_68 : decode cX7_shareAt 68 = .ok (.iconst (-1), 1) := by decide +kernel
theorem dX7_shareAt_69 : decode cX7_shareAt 69 = .ok (.ixor, 1) := by decide +kernel
theorem dX7_shareAt_70 : decode cX7_shareAt 70 = .ok (.iand, 1) := by decide +kernel
theorem dX7_shareAt_71 : decode cX7_shareAt 71 = .ok (.dup2, 1) := by decide +kernel
theorem dX7_shareAt_72 : decode cX7_shareAt 72 = .ok (.laload, 1) := by decide +kernel
theorem dX7_shareAt_73 : decode cX7_shareAt 73 = .ok (.lload 6, 2) := by decide +kernel
theorem dX7_shareAt_75 : decode cX7_shareAt 75 = .ok (.ladd, 1) := by decide +kernel
theorem dX7_shareAt_76 : decode cX7_shareAt 76 = .ok (.lastore, 1) := by decide +kernel
theorem dX7_shareAt_77 : decode cX7_shareAt 77 = .ok (.goto 115, 3) := by decide +kernel
theorem dX7_shareAt_80 : decode cX7_shareAt 80 = .ok (.aload_n 0, 1) := by decide +kernel
theorem dX7_shareAt_81 : decode cX7_shareAt 81 = .ok (.aload_n 1, 1) := by decide +kernel
theorem dX7_shareAt_82 : decode cX7_shareAt 82 = .ok (.iload_n 2, 1) := by decide +kernel
theorem dX7_shareAt_83 : decode cX7_shareAt 83 = .ok (.iload 5, 2) := by decide +kernel
theorem dX7_shareAt_85 : decode cX7_shareAt 85 = .ok (.invokevirtual 107, 3) := by decide +kernel
theorem dX7_shareAt_88 : decode cX7_shareAt 88 = .ok (.ifCond .eq 48, 3) := by decide +kernel
theorem dX7_shareAt_91 : decode cX7_shareAt 91 = .ok (.aload_n 0, 1) := by decide +kernel
theorem dX7_shareAt_92 : decode cX7_shareAt 92 = .ok (.getfield 25, 3) := by decide +kernel
theorem dX7_shareAt_95 : decode cX7_shareAt 95 = .ok (.iload 5, 2) := by decide +kernel
theorem dX7_shareAt_97 : decode cX7_shareAt 97 = .ok (.iconst 2, 1) := by decide +kernel
theorem dX7_shareAt_98 : decode cX7_shareAt 98 = .ok (.iload 4, 2) := by decide +kernel
theorem dX7_shareAt_100 : decode cX7_shareAt 100 = .ok (.imul, 1) := by decide +kernel
theorem dX7_shareAt_101 : decode cX7_shareAt 101 = .ok (.iadd, 1) := by decide +kernel
theorem dX7_shareAt_102 : decode cX7_shareAt 102 = .ok (.dup2, 1) := by decide +kernel
theorem dX7_shareAt_103 : decode cX7_shareAt 103 = .ok (.laload, 1) := by decide +kernel
theorem dX7_shareAt_104 : decode cX7_shareAt 104 = .ok (.lload 6, 2) := by decide +kernel
theorem dX7_shareAt_106 : decode cX7_shareAt 106 = .ok (.ladd, 1) := by decide +kernel
theorem dX7_shareAt_107 : decode cX7_shareAt 107 = .ok (.lastore, 1) := by decide +kernel
theorem dX7_shareAt_108 : decode cX7_shareAt 108 = .ok (.aload_n 0, 1) := by decide +kernel
theorem dX7_shareAt_109 : decode cX7_shareAt 109 = .ok (.getfield 15, 3) := by decide +kernel
theorem dX7_shareAt_112 : decode cX7_shareAt 112 = .ok (.iconst 2, 1) := by decide +kernel
theorem dX7_shareAt_113 : decode cX7_shareAt 113 = .ok (.iload_n 2, 1) := by decide +kernel
theorem dX7_shareAt_114 : decode cX7_shareAt 114 = .ok (.imul, 1) := by decide +kernel
theorem dX7_shareAt_115 : decode cX7_shareAt 115 = .ok (.dup2, 1) := by decide +kernel
theorem dX7_shareAt_116 : decode cX7_shareAt 116 = .ok (.laload, 1) := by decide +kernel
theorem dX7_shareAt_117 : decode cX7_shareAt 117 = .ok (.lload 6, 2) := by decide +kernel
theorem dX7_shareAt_119 : decode cX7_shareAt 119 = .ok (.aload_n 0, 1) := by decide +kernel
theorem dX7_shareAt_120 : decode cX7_shareAt 120 = .ok (.getfield 9, 3) := by decide +kernel
theorem dX7_shareAt_123 : decode cX7_shareAt 123 = .ok (.iload_n 3, 1) := by decide +kernel
theorem dX7_shareAt_124 : decode cX7_shareAt 124 = .ok (.iload 5, 2) := by decide +kernel
theorem dX7_shareAt_126 : decode cX7_shareAt 126 = .ok (.iadd, 1) := by decide +kernel
theorem dX7_shareAt_127 : decode cX7_shareAt 127 = .ok (.iconst 2, 1) := by decide +kernel
theorem dX7_shareAt_128 : decode cX7_shareAt 128 = .ok (.iload 4, 2) := by decide +kernel
theorem dX7_shareAt_130 : decode cX7_shareAt 130 = .ok (.imul, 1) := by decide +kernel
theorem dX7_shareAt_131 : decode cX7_shareAt 131 = .ok (.iadd, 1) := by decide +kernel
theorem dX7_shareAt_132 : decode cX7_shareAt 132 = .ok (.laload, 1) := by decide +kernel
theorem dX7_shareAt_133 : decode cX7_shareAt 133 = .ok (.lmul, 1) := by decide +kernel
theorem dX7_shareAt_134 : decode cX7_shareAt 134 = .ok (.ladd, 1) := by decide +kernel
theorem dX7_shareAt_135 : decode cX7_shareAt 135 = .ok (.lastore, 1) := by decide +kernel
theorem dX7_shareAt_136 : decode cX7_shareAt 136 = .ok (.aload_n 0, 1) := by decide +kernel
theorem dX7_shareAt_137 : decode cX7_shareAt 137 = .ok (.getfield 18, 3) := by decide +kernel
theorem dX7_shareAt_140 : decode cX7_shareAt 140 = .ok (.iconst 2, 1) := by decide +kernel
theorem dX7_shareAt_141 : decode cX7_shareAt 141 = .ok (.iload_n 2, 1) := by decide +kernel
theorem dX7_shareAt_142 : decode cX7_shareAt 142 = .ok (.imul, 1) := by decide +kernel
theorem dX7_shareAt_143 : decode cX7_shareAt 143 = .ok (.iconst 1, 1) := by decide +kernel
theorem dX7_shareAt_144 : decode cX7_shareAt 144 = .ok (.iadd, 1) := by decide +kernel
theorem dX7_shareAt_145 : decode cX7_shareAt 145 = .ok (.baload, 1) := by decide +kernel
theorem dX7_shareAt_146 : decode cX7_shareAt 146 = .ok (.ifCond .eq 46, 3) := by decide +kernel
theorem dX7_shareAt_149 : decode cX7_shareAt 149 = .ok (.aload_n 0, 1) := by decide +kernel
theorem dX7_shareAt_150 : decode cX7_shareAt 150 = .ok (.getfield 25, 3) := by decide +kernel
theorem dX7_shareAt_153 : decode cX7_shareAt 153 = .ok (.iload 5, 2) := by decide +kernel
theorem dX7_shareAt_155 : decode cX7_shareAt 155 = .ok (.iload 4, 2) := by decide +kernel
theorem dX7_shareAt_157 : decode cX7_shareAt 157 = .ok (.iadd, 1) := by decide +kernel
theorem dX7_shareAt_158 : decode cX7_shareAt 158 = .ok (.dup2, 1) := by decide +kernel
theorem dX7_shareAt_159 : decode cX7_shareAt 159 = .ok (.laload, 1) := by decide +kernel
theorem dX7_shareAt_160 : decode cX7_shareAt 160 = .ok (.lload 6, 2) := by decide +kernel
theorem dX7_shareAt_162 : decode cX7_shareAt 162 = .ok (.ladd, 1) := by decide +kernel
theorem dX7_shareAt_163 : decode cX7_shareAt 163 = .ok (.lastore, 1) := by decide +kernel
theorem dX7_shareAt_164 : decode cX7_shareAt 164 = .ok (.aload_n 0, 1) := by decide +kernel
theorem dX7_shareAt_165 : decode cX7_shareAt 165 = .ok (.getfield 15, 3) := by decide +kernel
theorem dX7_shareAt_168 : decode cX7_shareAt 168 = .ok (.iconst 2, 1) := by decide +kernel
theorem dX7_shareAt_169 : decode cX7_shareAt 169 = .ok (.iload_n 2, 1) := by decide +kernel
theorem dX7_shareAt_170 : decode cX7_shareAt 170 = .ok (.imul, 1) := by decide +kernel
theorem dX7_shareAt_171 : decode cX7_shareAt 171 = .ok (.iconst 1, 1) := by decide +kernel
theorem dX7_shareAt_172 : decode cX7_shareAt 172 = .ok (.iadd, 1) := by decide +kernel
theorem dX7_shareAt_173 : decode cX7_shareAt 173 = .ok (.dup2, 1) := by decide +kernel
theorem dX7_shareAt_174 : decode cX7_shareAt 174 = .ok (.laload, 1) := by decide +kernel
theorem dX7_shareAt_175 : decode cX7_shareAt 175 = .ok (.lload 6, 2) := by decide +kernel
theorem dX7_shareAt_177 : decode cX7_shareAt 177 = .ok (.aload_n 0, 1) := by decide +kernel
theorem dX7_shareAt_178 : decode cX7_shareAt 178 = .ok (.getfield 9, 3) := by decide +kernel
theorem dX7_shareAt_181 : decode cX7_shareAt 181 = .ok (.iload_n 3, 1) := by decide +kernel
theorem dX7_shareAt_182 : decode cX7_shareAt 182 = .ok (.iload 5, 2) := by decide +kernel
theorem dX7_shareAt_184 : decode cX7_shareAt 184 = .ok (.iadd, 1) := by decide +kernel
theorem dX7_shareAt_185 : decode cX7_shareAt 185 = .ok (.iload 4, 2) := by decide +kernel
theorem dX7_shareAt_187 : decode cX7_shareAt 187 = .ok (.iadd, 1) := by decide +kernel
theorem dX7_shareAt_188 : decode cX7_shareAt 188 = .ok (.laload, 1) := by decide +kernel
theorem dX7_shareAt_189 : decode cX7_shareAt 189 = .ok (.lmul, 1) := by decide +kernel
theorem dX7_shareAt_190 : decode cX7_shareAt 190 = .ok (.ladd, 1) := by decide +kernel
theorem dX7_shareAt_191 : decode cX7_shareAt 191 = .ok (.lastore, 1) := by decide +kernel
theorem dX7_shareAt_192 : decode cX7_shareAt 192 = .ok (.iinc 5 1, 3) := by decide +kernel
theorem dX7_shareAt_195 : decode cX7_shareAt 195 = .ok (.goto (-175), 3) := by decide +kernel
theorem dX7_shareAt_198 : decode cX7_shareAt 198 = .ok (.return_, 1) := by decide +kernel
theorem dX7_bricksWithShare_0 : decode cX7_bricksWithShare 0 = .ok (.iconst 0, 1) := by decide +kernel
theorem dX7_bricksWithShare_1 : decode cX7_bricksWithShare 1 = .ok (.istore 4, 2) := by decide +kernel
theorem dX7_bricksWithShare_3 : decode cX7_bricksWithShare 3 = .ok (.iconst 0, 1) := by decide +kernel
theorem dX7_bricksWithShare_4 : decode cX7_bricksWithShare 4 = .ok (.istore 5, 2) := by decide +kernel
theorem dX7_bricksWithShare_6 : decode cX7_bricksWithShare 6 = .ok (.iload 5, 2) := by decide +kernel
theorem dX7_bricksWithShare_8 : decode cX7_bricksWithShare 8 = .ok (.iconst 2, 1) := by decide +kernel
theorem dX7_bricksWithShare_9 : decode cX7_bricksWithShare 9 = .ok (.aload_n 1, 1) := by decide +kernel
theorem dX7_bricksWithShare_10 : decode cX7_bricksWithShare 10 = .ok (.invokevirtual 43, 3) := by decide +kernel
theorem dX7_bricksWithShare_13 : decode cX7_bricksWithShare 13 = .ok (.imul, 1) := by decide +kernel
theorem dX7_bricksWithShare_14 : decode cX7_bricksWithShare 14 = .ok (.if_icmp .ge 43, 3) := by decide +kernel
theorem dX7_bricksWithShare_17 : decode cX7_bricksWithShare 17 = .ok (.iload 4, 2) := by decide +kernel
theorem dX7_bricksWithShare_19 : decode cX7_bricksWithShare 19 = .ok (.aload_n 1, 1) := by decide +kernel
theorem dX7_bricksWithShare_20 : decode cX7_bricksWithShare 20 = .ok (.iload 5, 2) := by decide +kernel
theorem dX7_bricksWithShare_22 : decode cX7_bricksWithShare 22 = .ok (.invokevirtual 49, 3) := by decide +kernel
theorem dX7_bricksWithShare_25 : decode cX7_bricksWithShare 25 = .ok (.ifCond .eq 19, 3) := by decide +kernel
theorem dX7_bricksWithShare_28 : decode cX7_bricksWithShare 28 = .ok (.aload_n 0, 1) := by decide +kernel
theorem dX7_bricksWithShare_29 : decode cX7_bricksWithShare 29 = .ok (.getfield 15, 3) := by decide +kernel
theorem dX7_bricksWithShare_32 : decode cX7_bricksWithShare 32 = .ok (.iload 5, 2) := by decide +kernel
theorem dX7_bricksWithShare_34 : decode cX7_bricksWithShare 34 = .ok (.laload, 1) := by decide +kernel
theorem dX7_bricksWithShare_35 : decode cX7_bricksWithShare 35 = .ok (.lload_n 2, 1) := by decide +kernel
theorem dX7_bricksWithShare_36 : decode cX7_bricksWithShare 36 = .ok (.lcmp, 1) := by decide +kernel
theorem dX7_bricksWithShare_37 : decode cX7_bricksWithShare 37 = .ok (.ifCond .ne 7, 3) := by decide +kernel
theorem dX7_bricksWithShare_40 : decode cX7_bricksWithShare 40 = .ok (.iconst 1, 1) := by decide +kernel
theorem dX7_bricksWithShare_41 : decode cX7_bricksWithShare 41 = .ok (.goto 4, 3) := by decide +kernel
theorem dX7_bricksWithShare_44 : decode cX7_bricksWithShare 44 = .ok (.iconst 0, 1) := by decide +kernel
theorem dX7_bricksWithShare_45 : decode cX7_bricksWithShare 45 = .ok (.invokestatic 146, 3) := by decide +kernel
theorem dX7_bricksWithShare_48 : decode cX7_bricksWithShare 48 = .ok (.iadd, 1) := by decide +kernel
theorem dX7_bricksWithShare_49 : decode cX7_bricksWithShare 49 = .ok (.istore 4, 2) := by decide +kernel
theorem dX7_bricksWithShare_51 : decode cX7_bricksWithShare 51 = .ok (.iinc 5 1, 3) := by decide +kernel
theorem dX7_bricksWithShare_54 : decode cX7_bricksWithShare 54 = .ok (.goto (-48), 3) := by decide +kernel
theorem dX7_bricksWithShare_57 : decode cX7_bricksWithShare 57 = .ok (.iload 4, 2) := by decide +kernel
theorem dX7_bricksWithShare_59 : decode cX7_bricksWithShare 59 = .ok (.ireturn, 1) := by decide +kernel
theorem dX8_init_0 : decode cX8_init 0 = .ok (.aload_n 0, 1) := by decide +kernel
theorem dX8_init_1 : decode cX8_init 1 = .ok (.invokespecial 3, 3) := by decide +kernel
theorem dX8_init_4 : decode cX8_init 4 = .ok (.aload_n 0, 1) := by decide +kernel
theorem dX8_init_5 : decode cX8_init 5 = .ok (.bipush 90, 2) := by decide +kernel
theorem dX8_init_7 : decode cX8_init 7 = .ok (.newarray .int, 2) := by decide +kernel
theorem dX8_init_9 : decode cX8_init 9 = .ok (.putfield 9, 3) := by decide +kernel
theorem dX8_init_12 : decode cX8_init 12 = .ok (.aload_n 0, 1) := by decide +kernel
theorem dX8_init_13 : decode cX8_init 13 = .ok (.bipush 64, 2) := by decide +kernel
theorem dX8_init_15 : decode cX8_init 15 = .ok (.newarray .boolean, 2) := by decide +kernel
theorem dX8_init_17 : decode cX8_init 17 = .ok (.putfield 15, 3) := by decide +kernel
theorem dX8_init_20 : decode cX8_init 20 = .ok (.return_, 1) := by decide +kernel
theorem dX8_byteAt_0 : decode cX8_byteAt 0 = .ok (.lload_n 0, 1) := by decide +kernel
theorem dX8_byteAt_1 : decode cX8_byteAt 1 = .ok (.bipush 8, 2) := by decide +kernel
theorem dX8_byteAt_3 : decode cX8_byteAt 3 = .ok (.iload_n 2, 1) := by decide +kernel
theorem dX8_byteAt_4 : decode cX8_byteAt 4 = .ok (.imul, 1) := by decide +kernel
theorem dX8_byteAt_5 : decode cX8_byteAt 5 = .ok (.lushr, 1) := by decide +kernel
theorem dX8_byteAt_6 : decode cX8_byteAt 6 = .ok (.ldc2_w 19, 3) := by decide +kernel
theorem dX8_byteAt_9 : decode cX8_byteAt 9 = .ok (.land, 1) := by decide +kernel
theorem dX8_byteAt_10 : decode cX8_byteAt 10 = .ok (.l2i, 1) := by decide +kernel
theorem dX8_byteAt_11 : decode cX8_byteAt 11 = .ok (.ireturn, 1) := by decide +kernel
theorem dX8_canType_0 : decode cX8_canType 0 = .ok (.iconst 0, 1) := by decide +kernel
theorem dX8_canType_1 : decode cX8_canType 1 = .ok (.istore 4, 2) := by decide +kernel
theorem dX8_canType_3 : decode cX8_canType 3 = .ok (.iload 4, 2) := by decide +kernel
theorem dX8_canType_5 : decode cX8_canType 5 = .ok (.iload_n 3, 1) := by decide +kernel
theorem dX8_canType_6 : decode cX8_canType 6 = .ok (.if_icmp .ge 33, 3) := by decide +kernel
theorem dX8_canType_9 : decode cX8_canType 9 = .ok (.lload_n 1, 1) := by decide +kernel
theorem dX8_canType_10 : decode cX8_canType 10 = .ok (.iload 4, 2) := by decide +kernel
theorem dX8_canType_12 : decode cX8_canType 12 = .ok (.invokestatic 21, 3) := by decide +kernel
theorem dX8_canType_15 : decode cX8_canType 15 = .ok (.istore 5, 2) := by decide +kernel
theorem dX8_canType_17 : decode cX8_canType 17 = .ok (.iload 5, 2) := by decide +kernel
theorem dX8_canType_19 : decode cX8_canType 19 = .ok (.bipush 32, 2) := by decide +kernel
theorem dX8_canType_21 : decode cX8_canType 21 = .ok (.if_icmp .lt 10, 3) := by decide +kernel
theorem dX8_canType_24 : decode cX8_canType 24 = .ok (.iload 5, 2) := by decide +kernel
theorem dX8_canType_26 : decode cX8_canType 26 = .ok (.bipush 126, 2) := by decide +kernel
theorem dX8_canType_28 : decode cX8_canType 28 = .ok (.if_icmp .le 5, 3) := by decide +kernel
theorem dX8_canType_31 : decode cX8_canType 31 = .ok (.iconst 0, 1) := by decide +kernel
theorem dX8_canType_32 : decode cX8_canType 32 = .ok (.ireturn, 1) := by decide +kernel
theorem dX8_canType_33 : decode cX8_canType 33 = .ok (.iinc 4 1, 3) := by decide +kernel
theorem dX8_canType_36 : decode cX8_canType 36 = .ok (.goto (-33), 3) := by decide +kernel
theorem dX8_canType_39 : decode cX8_canType 39 = .ok (.iconst 1, 1) := by decide +kernel
theorem dX8_canType_40 : decode cX8_canType 40 = .ok (.ireturn, 1) := by decide +kernel
theorem dX8_append_0 : decode cX8_append 0 = .ok (.iload_n 3, 1) := by decide +kernel
theorem dX8_append_1 : decode cX8_append 1 = .ok (.iconst 1, 1) := by decide +kernel
theorem dX8_append_2 : decode cX8_append 2 = .ok (.isub, 1) := by decide +kernel
theorem dX8_append_3 : decode cX8_append 3 = .ok (.istore 4, 2) := by decide +kernel
theorem dX8_append_5 : decode cX8_append 5 = .ok (.iload 4, 2) := by decide +kernel
theorem dX8_append_7 : decode cX8_append 7 = .ok (.ifCond .lt 31, 3) := by decide +kernel
theorem dX8_append_10 : decode cX8_append 10 = .ok (.aload_n 0, 1) := by decide +kernel
theorem dX8_append_11 : decode cX8_append 11 = .ok (.getfield 9, 3) := by decide +kernel
theorem dX8_append_14 : decode cX8_append 14 = .ok (.aload_n 0, 1) := by decide +kernel
theorem dX8_append_15 : decode cX8_append 15 = .ok (.dup, 1) := by decide +kernel
theorem dX8_append_16 : decode cX8_append 16 = .ok (.getfield 25, 3) := by decide +kernel
theorem dX8_append_19 : decode cX8_append 19 = .ok (.dup_x1, 1) := by decide +kernel
theorem dX8_append_20 : decode cX8_append 20 = .ok (.iconst 1, 1) := by decide +kernel
theorem dX8_append_21 : decode cX8_append 21 = .ok (.iadd, 1) := by decide +kernel
theorem dX8_append_22 : decode cX8_append 22 = .ok (.putfield 25, 3) := by decide +kernel
theorem dX8_append_25 : decode cX8_append 25 = .ok (.lload_n 1, 1) := by decide +kernel
theorem dX8_append_26 : decode cX8_append 26 = .ok (.iload 4, 2) := by decide +kernel
theorem dX8_append_28 : decode cX8_append 28 = .ok (.invokestatic 21, 3) := by decide +kernel
theorem dX8_append_31 : decode cX8_append 31 = .ok (.iastore, 1) := by decide +kernel
theorem dX8_append_32 : decode cX8_append 32 = .ok (.iinc 4 (-1), 3) := by decide +kernel
theorem dX8_append_35 : decode cX8_append 35 = .ok (.goto (-30), 3) := by decide +kernel
theorem dX8_append_38 : decode cX8_append 38 = .ok (.aload_n 0, 1) := by decide +kernel
theorem dX8_append_39 : decode cX8_append 39 = .ok (.getfield 25, 3) := by decide +kernel
theorem dX8_append_42 : decode cX8_append 42 = .ok (.ireturn, 1) := by decide +kernel
theorem dX8_isOpenAt_0 : decode cX8_isOpenAt 0 = .ok (.aload_n 0, 1) := by decide +kernel
theorem dX8_isOpenAt_1 : decode cX8_isOpenAt 1 = .ok (.getfield 15, 3) := by decide +kernel
theorem dX8_isOpenAt_4 : decode cX8_isOpenAt 4 = .ok (.iload_n 2, 1) := by decide +kernel
theorem dX8_isOpenAt_5 : decode cX8_isOpenAt 5 = .ok (.bipush 8, 2) := by decide +kernel
theorem dX8_isOpenAt_7 : decode cX8_isOpenAt 7 = .ok (.imul, 1) := by decide +kernel
theorem dX8_isOpenAt_8 : decode cX8_isOpenAt 8 = .ok (.iload_n 1, 1) := by decide +kernel
theorem dX8_isOpenAt_9 : decode cX8_isOpenAt 9 = .ok (.iadd, 1) := by decide +kernel
theorem dX8_isOpenAt_10 : decode cX8_isOpenAt 10 = .ok (.baload, 1) := by decide +kernel
theorem dX8_isOpenAt_11 : decode cX8_isOpenAt 11 = .ok (.ireturn, 1) := by decide +kernel
theorem dX8_parse_0 : decode cX8_parse 0 = .ok (.iconst 0, 1) := by decide +kernel
theorem dX8_parse_1 : decode cX8_parse 1 = .ok (.istore_n 1, 1) := by decide +kernel
theorem dX8_parse_2 : decode cX8_parse 2 = .ok (.iconst 0, 1) := by decide +kernel
theorem dX8_parse_3 : decode cX8_parse 3 = .ok (.istore_n 2, 1) := by decide +kernel
theorem dX8_parse_4 : decode cX8_parse 4 = .ok (.aload_n 0, 1) := by decide +kernel
theorem dX8_parse_5 : decode cX8_parse 5 = .ok (.bipush 8, 2) := by decide +kernel
theorem dX8_parse_7 : decode cX8_parse 7 = .ok (.putfield 29, 3) := by decide +kernel
theorem dX8_parse_10 : decode cX8_parse 10 = .ok (.iconst 0, 1) := by decide +kernel
theorem dX8_parse_11 : decode cX8_parse 11 = .ok (.istore_n 3, 1) := by decide +kernel
theorem dX8_parse_12 : decode cX8_parse 12 = .ok (.iload_n 3, 1) := by decide +kernel
theorem dX8_parse_13 : decode cX8_parse 13 = .ok (.aload_n 0, 1) := by decide +kernel
theorem dX8_parse_14 : decode cX8_parse 14 = .ok (.getfield 25, 3) := by decide +kernel
theorem dX8_parse_17 : decode cX8_parse 17 = .ok (.if_icmp .ge 118, 3) := by decide +kernel
theorem dX8_parse_20 : decode cX8_parse 20 = .ok (.aload_n 0, 1) := by decide +kernel
theorem dX8_parse_21 : decode cX8_parse 21 = .ok (.getfield 9, 3) := by decide +kernel
theorem dX8_parse_24 : decode cX8_parse 24 = .ok (.iload_n 3, 1) := by decide +kernel
theorem dX8_parse_25 : decode cX8_parse 25 = .ok (.iaload, 1) := by decide +kernel
theorem dX8_parse_26 : decode cX8_parse 26 = .ok (.istore 4, 2) := by decide +kernel
theorem dX8_parse_28 : decode cX8_parse 28 = .ok (.iload 4, 2) := by decide +kernel
theorem dX8_parse_30 : decode cX8_parse 30 = .ok (.bipush 32, 2) := by decide +kernel
theorem dX8_parse_32 : decode cX8_parse 32 = .ok (.if_icmp .ne 6, 3) := by decide +kernel
theorem dX8_parse_35 : decode cX8_parse 35 = .ok (.goto 94, 3) := by decide +kernel
theorem dX8_parse_38 : decode cX8_parse 38 = .ok (.iload 4, 2) := by decide +kernel
theorem dX8_parse_40 : decode cX8_parse 40 = .ok (.bipush 46, 2) := by decide +kernel
theorem dX8_parse_42 : decode cX8_parse 42 = .ok (.if_icmp .eq 10, 3) := by decide +kernel
theorem dX8_parse_45 : decode cX8_parse 45 = .ok (.iload 4, 2) := by decide +kernel
theorem dX8_parse_47 : decode cX8_parse 47 = .ok (.bipush 35, 2) := by decide +kernel
theorem dX8_parse_49 : decode cX8_parse 49 = .ok (.if_icmp .ne 40, 3) := by decide +kernel
theorem dX8_parse_52 : decode cX8_parse 52 = .ok (.iload_n 2, 1) := by decide +kernel
theorem dX8_parse_53 : decode cX8_parse 53 = .ok (.aload_n 0, 1) := by decide +kernel
theorem dX8_parse_54 : decode cX8_parse 54 = .ok (.getfield 29, 3) := by decide +kernel
theorem dX8_parse_57 : decode cX8_parse 57 = .ok (.if_icmp .ge 32, 3) := by decide +kernel
theorem dX8_parse_60 : decode cX8_parse 60 = .ok (.aload_n 0, 1) := by decide +kernel
theorem dX8_parse_61 : decode cX8_parse 61 = .ok (.getfield 15, 3) := by decide +kernel
theorem dX8_parse_64 : decode cX8_parse 64 = .ok (.iload_n 1, 1) := by decide +kernel
theorem dX8_parse_65 : decode cX8_parse 65 = .ok (.bipush 8, 2) := by decide +kernel
theorem dX8_parse_67 : decode cX8_parse 67 = .ok (.imul, 1) := by decide +kernel
theorem dX8_parse_68 : decode cX8_parse 68 = .ok (.iload_n 2, 1) := by decide +kernel
theorem dX8_parse_69 : decode cX8_parse 69 = .ok (.iadd, 1) := by decide +kernel
theorem dX8_parse_70 : decode cX8_parse 70 = .ok (.iload 4, 2) := by decide +kernel
theorem dX8_parse_72 : decode cX8_parse 72 = .ok (.bipush 46, 2) := by decide +kernel
theorem dX8_parse_74 : decode cX8_parse 74 = .ok (.if_icmp .ne 7, 3) := by decide +kernel
theorem dX8_parse_77 : decode cX8_parse 77 = .ok (.iconst 1, 1) := by decide +kernel
theorem dX8_parse_78 : decode cX8_parse 78 = .ok (.goto 4, 3) := by decide +kernel
theorem dX8_parse_81 : decode cX8_parse 81 = .ok (.iconst 0, 1) := by decide +kernel
theorem dX8_parse_82 : decode cX8_parse 82 = .ok (.bastore, 1) := by decide +kernel
theorem dX8_parse_83 : decode cX8_parse 83 = .ok (.iinc 2 1, 3) := by decide +kernel
theorem dX8_parse_86 : decode cX8_parse 86 = .ok (.goto 43, 3) := by decide +kernel
theorem dX8_parse_89 : decode cX8_parse 89 = .ok (.iload 4, 2) := by decide +kernel
theorem dX8_parse_91 : decode cX8_parse 91 = .ok (.bipush 59, 2) := by decide +kernel
theorem dX8_parse_93 : decode cX8_parse 93 = .ok (.if_icmp .ne 31, 3) := by decide +kernel
theorem dX8_parse_96 : decode cX8_parse 96 = .ok (.aload_n 0, 1) := by decide +kernel
theorem dX8_parse_97 : decode cX8_parse 97 = .ok (.iload_n 1, 1) := by decide +kernel
theorem dX8_parse_98 : decode cX8_parse 98 = .ok (.iload_n 2, 1) := by decide +kernel
theorem dX8_parse_99 : decode cX8_parse 99 = .ok (.invokevirtual 32, 3) := by decide +kernel
theorem dX8_parse_102 : decode cX8_parse 102 = .ok (.ifCond .eq 22, 3) := by decide +kernel
theorem dX8_parse_105 : decode cX8_parse 105 = .ok (.iload_n 1, 1) := by decide +kernel
theorem dX8_parse_106 : decode cX8_parse 106 = .ok (.bipush 7, 2) := by decide +kernel
theorem dX8_parse_108 : decode cX8_parse 108 = .ok (.if_icmp .ge 16, 3) := by decide +kernel
theorem dX8_parse_111 : decode cX8_parse 111 = .ok (.aload_n 0, 1) := by decide +kernel
theorem dX8_parse_112 : decode cX8_parse 112 = .ok (.iload_n 2, 1) := by decide +kernel
theorem dX8_parse_113 : decode cX8_parse 113 = .ok (.putfield 29, 3) := by decide +kernel
theorem dX8_parse_116 : decode cX8_parse 116 = .ok (.iinc 1 1, 3) := by decide +kernel
theorem dX8_parse_119 : decode cX8_parse 119 = .ok (.iconst 0, 1) := by decide +kernel
theorem dX8_parse_120 : decode cX8_parse 120 = .ok (.istore_n 2, 1) := by decide +kernel
theorem dX8_parse_121 : decode cX8_parse 121 = .ok (.goto 8, 3) := by decide +kernel
theorem dX8_parse_124 : decode cX8_parse 124 = .ok (.bipush (-20), 2) := by decide +kernel
theorem dX8_parse_126 : decode cX8_parse 126 = .ok (.iload_n 3, 1) := by decide +kernel
theorem dX8_parse_127 : decode cX8_parse 127 = .ok (.isub, 1) := by decide +kernel
theorem dX8_parse_128 : decode cX8_parse 128 = .ok (.ireturn, 1) := by decide +kernel
theorem dX8_parse_129 : decode cX8_parse 129 = .ok (.iinc 3 1, 3) := by decide +kernel
theorem dX8_parse_132 : decode cX8_parse 132 = .ok (.goto (-120), 3) := by decide +kernel
theorem dX8_parse_135 : decode cX8_parse 135 = .ok (.aload_n 0, 1) := by decide +kernel
theorem dX8_parse_136 : decode cX8_parse 136 = .ok (.iload_n 1, 1) := by decide +kernel
theorem dX8_parse_137 : decode cX8_parse 137 = .ok (.iload_n 2, 1) := by decide +kernel
theorem dX8_parse_138 : decode cX8_parse 138 = .ok (.invokevirtual 32, 3) := by decide +kernel
theorem dX8_parse_141 : decode cX8_parse 141 = .ok (.ifCond .ne 11, 3) := by decide +kernel
theorem dX8_parse_144 : decode cX8_parse 144 = .ok (.bipush (-20), 2) := by decide +kernel
theorem dX8_parse_146 : decode cX8_parse 146 = .ok (.aload_n 0, 1) := by decide +kernel
theorem dX8_parse_147 : decode cX8_parse 147 = .ok (.getfield 25, 3) := by decide +kernel
theorem dX8_parse_150 : decode cX8_parse 150 = .ok (.isub, 1) := by decide +kernel
theorem dX8_parse_151 : decode cX8_parse 151 = .ok (.ireturn, 1) := by decide +kernel
theorem dX8_parse_152 : decode cX8_parse 152 = .ok (.aload_n 0, 1) := by decide +kernel
theorem dX8_parse_153 : decode cX8_parse 153 = .ok (.iload_n 2, 1) := by decide +kernel
theorem dX8_parse_154 : decode cX8_parse 154 = .ok (.putfield 29, 3) := by decide +kernel
theorem dX8_parse_157 : decode cX8_parse 157 = .ok (.aload_n 0, 1) := by decide +kernel
theorem dX8_parse_158 : decode cX8_parse 158 = .ok (.iload_n 1, 1) := by decide +kernel
theorem dX8_parse_159 : decode cX8_parse 159 = .ok (.iconst 1, 1) := by decide +kernel
theorem dX8_parse_160 : decode cX8_parse 160 = .ok (.iadd, 1) := by decide +kernel
theorem dX8_parse_161 : decode cX8_parse 161 = .ok (.putfield 36, 3) := by decide +kernel
theorem dX8_parse_164 : decode cX8_parse 164 = .ok (.iconst 0, 1) := by decide +kernel
theorem dX8_parse_165 : decode cX8_parse 165 = .ok (.ireturn, 1) := by decide +kernel
theorem dX8_isRowEnd_0 : decode cX8_isRowEnd 0 = .ok (.iload_n 1, 1) := by decide +kernel
theorem dX8_isRowEnd_1 : decode cX8_isRowEnd 1 = .ok (.ifCond .ne 15, 3) := by decide +kernel
theorem dX8_isRowEnd_4 : decode cX8_isRowEnd 4 = .ok (.iload_n 2, 1) := by decide +kernel
theorem dX8_isRowEnd_5 : decode cX8_isRowEnd 5 = .ok (.ifCond .le 7, 3) := by decide +kernel
theorem dX8_isRowEnd_8 : decode cX8_isRowEnd 8 = .ok (.iconst 1, 1) := by decide +kernel
theorem dX8_isRowEnd_9 : decode cX8_isRowEnd 9 = .ok (.goto 20, 3) := by decide +kernel
theorem dX8_isRowEnd_12 : decode cX8_isRowEnd 12 = .ok (.iconst 0, 1) := by decide +kernel
theorem dX8_isRowEnd_13 : decode cX8_isRowEnd 13 = .ok (.goto 16, 3) := by decide +kernel
theorem dX8_isRowEnd_16 : decode cX8_isRowEnd 16 = .ok (.iload_n 2, 1) := by decide +kernel
theorem dX8_isRowEnd_17 : decode cX8_isRowEnd 17 = .ok (.aload_n 0, 1) := by decide +kernel
theorem dX8_isRowEnd_18 : decode cX8_isRowEnd 18 = .ok (.getfield 29, 3) := by decide +kernel
theorem dX8_isRowEnd_21 : decode cX8_isRowEnd 21 = .ok (.if_icmp .ne 7, 3) := by decide +kernel
theorem dX8_isRowEnd_24 : decode cX8_isRowEnd 24 = .ok (.iconst 1, 1) := by decide +kernel
theorem dX8_isRowEnd_25 : decode cX8_isRowEnd 25 = .ok (.goto 4, 3) := by decide +kernel
theorem dX8_isRowEnd_28 : decode cX8_isRowEnd 28 = .ok (.iconst 0, 1) := by decide +kernel
theorem dX8_isRowEnd_29 : decode cX8_isRowEnd 29 = .ok (.ireturn, 1) := by decide +kernel
theorem dX9_init_0 : decode cX9_init 0 = .ok (.aload_n 0, 1) := by decide +kernel
theorem dX9_init_1 : decode cX9_init 1 = .ok (.invokespecial 3, 3) := by decide +kernel
theorem dX9_init_4 : decode cX9_init 4 = .ok (.aload_n 0, 1) := by decide +kernel
theorem dX9_init_5 : decode cX9_init 5 = .ok (.bipush 100, 2) := by decide +kernel
theorem dX9_init_7 : decode cX9_init 7 = .ok (.newarray .boolean, 2) := by decide +kernel
theorem dX9_init_9 : decode cX9_init 9 = .ok (.putfield 9, 3) := by decide +kernel
theorem dX9_init_12 : decode cX9_init 12 = .ok (.aload_n 0, 1) := by decide +kernel
theorem dX9_init_13 : decode cX9_init 13 = .ok (.bipush 100, 2) := by decide +kernel
theorem dX9_init_15 : decode cX9_init 15 = .ok (.newarray .int, 2) := by decide +kernel
theorem dX9_init_17 : decode cX9_init 17 = .ok (.putfield 15, 3) := by decide +kernel
theorem dX9_init_20 : decode cX9_init 20 = .ok (.return_, 1) := by decide +kernel
theorem dX9_clear_0 : decode cX9_clear 0 = .ok (.aload_n 0, 1) := by decide +kernel
theorem dX9_clear_1 : decode cX9_clear 1 = .ok (.iconst 0, 1) := by decide +kernel
theorem dX9_clear_2 : decode cX9_clear 2 = .ok (.putfield 19, 3) := by decide +kernel
theorem dX9_clear_5 : decode cX9_clear 5 = .ok (.iconst 0, 1) := by decide +kernel
theorem dX9_clear_6 : decode cX9_clear 6 = .ok (.istore_n 1, 1) := by decide +kernel
theorem dX9_clear_7 : decode cX9_clear 7 = .ok (.iload_n 1, 1) := by decide +kernel
theorem dX9_clear_8 : decode cX9_clear 8 = .ok (.bipush 100, 2) := by decide +kernel
theorem dX9_clear_10 : decode cX9_clear 10 = .ok (.if_icmp .ge 16, 3) := by decide +kernel
theorem dX9_clear_13 : decode cX9_clear 13 = .ok (.aload_n 0, 1) := by decide +kernel
theorem dX9_clear_14 : decode cX9_clear 14 = .ok (.getfield 9, 3) := by decide +kernel
theorem dX9_clear_17 : decode cX9_clear 17 = .ok (.iload_n 1, 1) := by decide +kernel
theorem dX9_clear_18 : decode cX9_clear 18 = .ok (.iconst 0, 1) := by decide +kernel
theorem dX9_clear_19 : decode cX9_clear 19 = .ok (.bastore, 1) := by decide +kernel
theorem dX9_clear_20 : decode cX9_clear 20 = .ok (.iinc 1 1, 3) := by decide +kernel
theorem dX9_clear_23 : decode cX9_clear 23 = .ok (.goto (-16), 3) := by decide +kernel
theorem dX9_clear_26 : decode cX9_clear 26 = .ok (.return_, 1) := by decide +kernel
theorem dX9_reach_0 : decode cX9_reach 0 = .ok (.iload_n 1, 1) := by decide +kernel
theorem dX9_reach_1 : decode cX9_reach 1 = .ok (.ifCond .lt 18, 3) := by decide +kernel
theorem dX9_reach_4 : decode cX9_reach 4 = .ok (.iload_n 1, 1) := by decide +kernel
theorem dX9_reach_5 : decode cX9_reach 5 = .ok (.bipush 100, 2) := by decide +kernel
theorem dX9_reach_7 : decode cX9_reach 7 = .ok (.if_icmp .ge 12, 3) := by decide +kernel
theorem dX9_reach_10 : decode cX9_reach 10 = .ok (.aload_n 0, 1) := by decide +kernel
theorem dX9_reach_11 : decode cX9_reach 11 = .ok (.getfield 9, 3) := by decide +kernel
theorem dX9_reach_14 : decode cX9_reach 14 = .ok (.iload_n 1, 1) := by decide +kernel
theorem dX9_reach_15 : decode cX9_reach 15 = .ok (.baload, 1) := by decide +kernel
theorem dX9_reach_16 : decode cX9_reach 16 = .ok (.ifCond .eq 5, 3) := by decide +kernel
theorem dX9_reach_19 : decode cX9_reach 19 = .ok (.iconst 0, 1) := by decide +kernel
theorem dX9_reach_20 : decode cX9_reach 20 = .ok (.ireturn, 1) := by decide +kernel
theorem dX9_reach_21 : decode cX9_reach 21 = .ok (.aload_n 0, 1) := by decide +kernel
theorem dX9_reach_22 : decode cX9_reach 22 = .ok (.getfield 9, 3) := by decide +kernel
theorem dX9_reach_25 : decode cX9_reach 25 = .ok (.iload_n 1, 1) := by decide +kernel
theorem dX9_reach_26 : decode cX9_reach 26 = .ok (.iconst 1, 1) := by decide +kernel
theorem dX9_reach_27 : decode cX9_reach 27 = .ok (.bastore, 1) := by decide +kernel
theorem dX9_reach_28 : decode cX9_reach 28 = .ok (.aload_n 0, 1) := by decide +kernel
theorem dX9_reach_29 : decode cX9_reach 29 = .ok (.getfield 15, 3) := by decide +kernel
theorem dX9_reach_32 : decode cX9_reach 32 = .ok (.aload_n 0, 1) := by decide +kernel
theorem dX9_reach_33 : decode cX9_reach 33 = .ok (.dup, 1) := by decide +kernel
theorem dX9_reach_34 : decode cX9_reach 34 = .ok (.getfield 19, 3) := by decide +kernel
theorem dX9_reach_37 : decode cX9_reach 37 = .ok (.dup_x1, 1) := by decide +kernel
theorem dX9_reach_38 : decode cX9_reach 38 = .ok (.iconst 1, 1) := by decide +kernel
theorem dX9_reach_39 : decode cX9_reach 39 = .ok (.iadd, 1) := by decide +kernel
theorem dX9_reach_40 : decode cX9_reach 40 = .ok (.putfield 19, 3) := by decide +kernel
theorem dX9_reach_43 : decode cX9_reach 43 = .ok (.iload_n 1, 1) := by decide +kernel
theorem dX9_reach_44 : decode cX9_reach 44 = .ok (.iastore, 1) := by decide +kernel
theorem dX9_reach_45 : decode cX9_reach 45 = .ok (.iconst 1, 1) := by decide +kernel
theorem dX9_reach_46 : decode cX9_reach 46 = .ok (.ireturn, 1) := by decide +kernel
theorem dX10_init_0 : decode cX10_init 0 = .ok (.aload_n 0, 1) := by decide +kernel
theorem dX10_init_1 : decode cX10_init 1 = .ok (.invokespecial 3, 3) := by decide +kernel
theorem dX10_init_4 : decode cX10_init 4 = .ok (.aload_n 0, 1) := by decide +kernel
theorem dX10_init_5 : decode cX10_init 5 = .ok (.bipush 64, 2) := by decide +kernel
theorem dX10_init_7 : decode cX10_init 7 = .ok (.newarray .boolean, 2) := by decide +kernel
theorem dX10_init_9 : decode cX10_init 9 = .ok (.putfield 9, 3) := by decide +kernel
theorem dX10_init_12 : decode cX10_init 12 = .ok (.aload_n 0, 1) := by decide +kernel
theorem dX10_init_13 : decode cX10_init 13 = .ok (.sipush 128, 3) := by decide +kernel
theorem dX10_init_16 : decode cX10_init 16 = .ok (.newarray .int, 2) := by decide +kernel
theorem dX10_init_18 : decode cX10_init 18 = .ok (.putfield 15, 3) := by decide +kernel
theorem dX10_init_21 : decode cX10_init 21 = .ok (.aload_n 0, 1) := by decide +kernel
theorem dX10_init_22 : decode cX10_init 22 = .ok (.sipush 128, 3) := by decide +kernel
theorem dX10_init_25 : decode cX10_init 25 = .ok (.newarray .int, 2) := by decide +kernel
theorem dX10_init_27 : decode cX10_init 27 = .ok (.putfield 19, 3) := by decide +kernel
theorem dX10_init_30 : decode cX10_init 30 = .ok (.aload_n 0, 1) := by decide +kernel
theorem dX10_init_31 : decode cX10_init 31 = .ok (.iconst 4, 1) := by decide +kernel
theorem dX10_init_32 : decode cX10_init 32 = .ok (.putfield 22, 3) := by decide +kernel
theorem dX10_init_35 : decode cX10_init 35 = .ok (.aload_n 0, 1) := by decide +kernel
theorem dX10_init_36 : decode cX10_init 36 = .ok (.iconst 4, 1) := by decide +kernel
theorem dX10_init_37 : decode cX10_init 37 = .ok (.putfield 26, 3) := by decide +kernel
theorem dX10_init_40 : decode cX10_init 40 = .ok (.iconst 0, 1) := by decide +kernel
theorem dX10_init_41 : decode cX10_init 41 = .ok (.istore_n 1, 1) := by decide +kernel
theorem dX10_init_42 : decode cX10_init 42 = .ok (.iload_n 1, 1) := by decide +kernel
theorem dX10_init_43 : decode cX10_init 43 = .ok (.bipush 64, 2) := by decide +kernel
theorem dX10_init_45 : decode cX10_init 45 = .ok (.if_icmp .ge 16, 3) := by decide +kernel
theorem dX10_init_48 : decode cX10_init 48 = .ok (.aload_n 0, 1) := by decide +kernel
theorem dX10_init_49 : decode cX10_init 49 = .ok (.getfield 9, 3) := by decide +kernel
theorem dX10_init_52 : decode cX10_init 52 = .ok (.iload_n 1, 1) := by decide +kernel
theorem dX10_init_53 : decode cX10_init 53 = .ok (.iconst 1, 1) := by decide +kernel
theorem dX10_init_54 : decode cX10_init 54 = .ok (.bastore, 1) := by decide +kernel
theorem dX10_init_55 : decode cX10_init 55 = .ok (.iinc 1 1, 3) := by decide +kernel
theorem dX10_init_58 : decode cX10_init 58 = .ok (.goto (-16), 3) := by decide +kernel
theorem dX10_init_61 : decode cX10_init 61 = .ok (.return_, 1) := by decide +kernel
theorem dX10_start_0 : decode cX10_start 0 = .ok (.aload_n 0, 1) := by decide +kernel
theorem dX10_start_1 : decode cX10_start 1 = .ok (.iload_n 1, 1) := by decide +kernel
theorem dX10_start_2 : decode cX10_start 2 = .ok (.putfield 22, 3) := by decide +kernel
theorem dX10_start_5 : decode cX10_start 5 = .ok (.aload_n 0, 1) := by decide +kernel
theorem dX10_start_6 : decode cX10_start 6 = .ok (.iload_n 2, 1) := by decide +kernel
theorem dX10_start_7 : decode cX10_start 7 = .ok (.putfield 26, 3) := by decide +kernel
theorem dX10_start_10 : decode cX10_start 10 = .ok (.iconst 0, 1) := by decide +kernel
theorem dX10_start_11 : decode cX10_start 11 = .ok (.istore_n 3, 1) := by decide +kernel
theorem dX10_start_12 : decode cX10_start 12 = .ok (.iload_n 3, 1) := by decide +kernel
theorem dX10_start_13 : decode cX10_start 13 = .ok (.bipush 64, 2) := by decide +kernel
theorem dX10_start_15 : decode cX10_start 15 = .ok (.if_icmp .ge 16, 3) := by decide +kernel
theorem dX10_start_18 : decode cX10_start 18 = .ok (.aload_n 0, 1) := by decide +kernel
theorem dX10_start_19 : decode cX10_start 19 = .ok (.getfield 9, 3) := by decide +kernel
theorem dX10_start_22 : decode cX10_start 22 = .ok (.iload_n 3, 1) := by decide +kernel
theorem dX10_start_23 : decode cX10_start 23 = .ok (.iconst 1, 1) := by decide +kernel
theorem dX10_start_24 : decode cX10_start 24 = .ok (.bastore, 1) := by decide +kernel
theorem dX10_start_25 : decode cX10_start 25 = .ok (.iinc 3 1, 3) := by decide +kernel
theorem dX10_start_28 : decode cX10_start 28 = .ok (.goto (-16), 3) := by decide +kernel
theorem dX10_start_31 : decode cX10_start 31 = .ok (.aload_n 0, 1) := by decide +kernel
theorem dX10_start_32 : decode cX10_start 32 = .ok (.getfield 15, 3) := by decide +kernel
theorem dX10_start_35 : decode cX10_start 35 = .ok (.iconst 0, 1) := by decide +kernel
theorem dX10_start_36 : decode cX10_start 36 = .ok (.invokestatic 29, 3) := by decide +kernel
theorem dX10_start_39 : decode cX10_start 39 = .ok (.aload_n 0, 1) := by decide +kernel
theorem dX10_start_40 : decode cX10_start 40 = .ok (.getfield 19, 3) := by decide +kernel
theorem dX10_start_43 : decode cX10_start 43 = .ok (.iconst 0, 1) := by decide +kernel
theorem dX10_start_44 : decode cX10_start 44 = .ok (.invokestatic 29, 3) := by decide +kernel
theorem dX10_start_47 : decode cX10_start 47 = .ok (.return_, 1) := by decide +kernel
theorem dX10_change_0 : decode cX10_change 0 = .ok (.aload_n 0, 1) := by decide +kernel
theorem dX10_change_1 : decode cX10_change 1 = .ok (.getfield 9, 3) := by decide +kernel
theorem dX10_change_4 : decode cX10_change 4 = .ok (.iload_n 1, 1) := by decide +kernel
theorem dX10_change_5 : decode cX10_change 5 = .ok (.iload_n 2, 1) := by decide +kernel
theorem dX10_change_6 : decode cX10_change 6 = .ok (.bastore, 1) := by decide +kernel
theorem dX10_change_7 : decode cX10_change 7 = .ok (.iconst 0, 1) := by decide +kernel
theorem dX10_change_8 : decode cX10_change 8 = .ok (.istore_n 3, 1) := by decide +kernel
theorem dX10_change_9 : decode cX10_change 9 = .ok (.iload_n 3, 1) := by decide +kernel
theorem dX10_change_10 : decode cX10_change 10 = .ok (.iconst 4, 1) := by decide +kernel
theorem dX10_change_11 : decode cX10_change 11 = .ok (.if_icmp .ge 41, 3) := by decide +kernel
theorem dX10_change_14 : decode cX10_change 14 = .ok (.aload_n 0, 1) := by decide +kernel
theorem dX10_change_15 : decode cX10_change 15 = .ok (.iload_n 1, 1) := by decide +kernel
theorem dX10_change_16 : decode cX10_change 16 = .ok (.iload_n 3, 1) := by decide +kernel
theorem dX10_change_17 : decode cX10_change 17 = .ok (.invokevirtual 35, 3) := by decide +kernel
theorem dX10_change_20 : decode cX10_change 20 = .ok (.istore 4, 2) := by decide +kernel
theorem dX10_change_22 : decode cX10_change 22 = .ok (.iload 4, 2) := by decide +kernel
theorem dX10_change_24 : decode cX10_change 24 = .ok (.ifCond .ge 6, 3) := by decide +kernel
theorem dX10_change_27 : decode cX10_change 27 = .ok (.goto 19, 3) := by decide +kernel
theorem dX10_change_30 : decode cX10_change 30 = .ok (.aload_n 0, 1) := by decide +kernel
theorem dX10_change_31 : decode cX10_change 31 = .ok (.getfield 15, 3) := by decide +kernel
theorem dX10_change_34 : decode cX10_change 34 = .ok (.iload 4, 2) := by decide +kernel
theorem dX10_change_36 : decode cX10_change 36 = .ok (.iconst 0, 1) := by decide +kernel
theorem dX10_change_37 : decode cX10_change 37 = .ok (.iastore, 1) := by decide +kernel
theorem dX10_change_38 : decode cX10_change 38 = .ok (.aload_n 0, 1) := by decide +kernel
theorem dX10_change_39 : decode cX10_change 39 = .ok (.getfield 19, 3) := by decide +kernel
theorem dX10_change_42 : decode cX10_change 42 = .ok (.iload 4, 2) := by decide +kernel
theorem dX10_change_44 : decode cX10_change 44 = .ok (.iconst 0, 1) := by decide +kernel
theorem dX10_change_45 : decode cX10_change 45 = .ok (.iastore, 1) := by decide +kernel
theorem dX10_change_46 : decode cX10_change 46 = .ok (.iinc 3 1, 3) := by decide +kernel
theorem dX10_change_49 : decode cX10_change 49 = .ok (.goto (-40), 3) := by decide +kernel
theorem dX10_change_52 : decode cX10_change 52 = .ok (.return_, 1) := by decide +kernel
theorem dX10_brickOn_0 : decode cX10_brickOn 0 = .ok (.iload_n 2, 1) := by decide +kernel
theorem dX10_brickOn_1 : decode cX10_brickOn 1 = .ok (.tableswitch 72 0 2 #[27, 50, 68], 27) := by decide +kernel
theorem dX10_brickOn_28 : decode cX10_brickOn 28 = .ok (.aload_n 0, 1) := by decide +kernel
theorem dX10_brickOn_29 : decode cX10_brickOn 29 = .ok (.iload_n 1, 1) := by decide +kernel
theorem dX10_brickOn_30 : decode cX10_brickOn 30 = .ok (.invokevirtual 39, 3) := by decide +kernel
theorem dX10_brickOn_33 : decode cX10_brickOn 33 = .ok (.ifCond .le 16, 3) := by decide +kernel
theorem dX10_brickOn_36 : decode cX10_brickOn 36 = .ok (.iconst 2, 1) := by decide +kernel
theorem dX10_brickOn_37 : decode cX10_brickOn 37 = .ok (.iload_n 1, 1) := by decide +kernel
theorem dX10_brickOn_38 : decode cX10_brickOn 38 = .ok (.aload_n 0, 1) := by decide +kernel
theorem dX10_brickOn_39 : decode cX10_brickOn 39 = .ok (.getfield 22, 3) := by decide +kernel
theorem dX10_brickOn_42 : decode cX10_brickOn 42 = .ok (.isub, 1) := by decide +kernel
theorem dX10_brickOn_43 : decode cX10_brickOn 43 = .ok (.imul, 1) := by decide +kernel
theorem dX10_brickOn_44 : decode cX10_brickOn 44 = .ok (.iconst 1, 1) := by decide +kernel
theorem dX10_brickOn_45 : decode cX10_brickOn 45 = .ok (.iadd, 1) := by decide +kernel
theorem dX10_brickOn_46 : decode cX10_brickOn 46 = .ok (.goto 4, 3) := by decide +kernel
theorem dX10_brickOn_49 : decode cX10_brickOn 49 = .ok (.iconst (-1), 1) := by decide +kernel
theorem dX10_brickOn_50 : decode cX10_brickOn 50 = .ok (.ireturn, 1) := by decide +kernel
theorem dX10_brickOn_51 : decode cX10_brickOn 51 = .ok (.aload_n 0, 1) := by decide +kernel
theorem dX10_brickOn_52 : decode cX10_brickOn 52 = .ok (.iload_n 1, 1) := by decide +kernel
theorem dX10_brickOn_53 : decode cX10_brickOn 53 = .ok (.invokevirtual 43, 3) := by decide +kernel
theorem dX10_brickOn_56 : decode cX10_brickOn 56 = .ok (.ifCond .le 11, 3) := by decide +kernel
theorem dX10_brickOn_59 : decode cX10_brickOn 59 = .ok (.iconst 2, 1) := by decide +kernel
theorem dX10_brickOn_60 : decode cX10_brickOn 60 = .ok (.iload_n 1, 1) := by decide +kernel
theorem dX10_brickOn_61 : decode cX10_brickOn 61 = .ok (.iconst 1, 1) := by decide +kernel
theorem dX10_brickOn_62 : decode cX10_brickOn 62 = .ok (.isub, 1) := by decide +kernel
theorem dX10_brickOn_63 : decode cX10_brickOn 63 = .ok (.imul, 1) := by decide +kernel
theorem dX10_brickOn_64 : decode cX10_brickOn 64 = .ok (.goto 4, 3) := by decide +kernel
theorem dX10_brickOn_67 : decode cX10_brickOn 67 = .ok (.iconst (-1), 1) := by decide +kernel
theorem dX10_brickOn_68 : decode cX10_brickOn 68 = .ok (.ireturn, 1) := by decide +kernel
theorem dX10_brickOn_69 : decode cX10_brickOn 69 = .ok (.iconst 2, 1) := by decide +kernel
theorem dX10_brickOn_70 : decode cX10_brickOn 70 = .ok (.iload_n 1, 1) := by decide +kernel
theorem dX10_brickOn_71 : decode cX10_brickOn 71 = .ok (.imul, 1) := by decide +kernel
theorem dX10_brickOn_72 : decode cX10_brickOn 72 = .ok (.ireturn, 1) := by decide +kernel
theorem dX10_brickOn_73 : decode cX10_brickOn 73 = .ok (.iconst 2, 1) := by decide +kernel
theorem dX10_brickOn_74 : decode cX10_brickOn 74 = .ok (.iload_n 1, 1) := by decide +kernel
theorem dX10_brickOn_75 : decode cX10_brickOn 75 = .ok (.imul, 1) := by decide +kernel
theorem dX10_brickOn_76 : decode cX10_brickOn 76 = .ok (.iconst 1, 1) := by decide +kernel
theorem dX10_brickOn_77 : decode cX10_brickOn 77 = .ok (.iadd, 1) := by decide +kernel
theorem dX10_brickOn_78 : decode cX10_brickOn 78 = .ok (.ireturn, 1) := by decide +kernel
theorem dX10_cells_0 : decode cX10_cells 0 = .ok (.aload_n 0, 1) := by decide +kernel
theorem dX10_cells_1 : decode cX10_cells 1 = .ok (.getfield 22, 3) := by decide +kernel
theorem dX10_cells_4 : decode cX10_cells 4 = .ok (.aload_n 0, 1) := by decide +kernel
theorem dX10_cells_5 : decode cX10_cells 5 = .ok (.getfield 26, 3) := by decide +kernel
theorem dX10_cells_8 : decode cX10_cells 8 = .ok (.imul, 1) := by decide +kernel
theorem dX10_cells_9 : decode cX10_cells 9 = .ok (.ireturn, 1) := by decide +kernel
theorem dX10_column_0 : decode cX10_column 0 = .ok (.iload_n 1, 1) := by decide +kernel
theorem dX10_column_1 : decode cX10_column 1 = .ok (.aload_n 0, 1) := by decide +kernel
theorem dX10_column_2 : decode cX10_column 2 = .ok (.getfield 22, 3) := by decide +kernel
theorem dX10_column_5 : decode cX10_column 5 = .ok (.irem, 1) := by decide +kernel
theorem dX10_column_6 : decode cX10_column 6 = .ok (.ireturn, 1) := by decide +kernel
theorem dX10_row_0 : decode cX10_row 0 = .ok (.iload_n 1, 1) := by decide +kernel
theorem dX10_row_1 : decode cX10_row 1 = .ok (.aload_n 0, 1) := by decide +kernel
theorem dX10_row_2 : decode cX10_row 2 = .ok (.getfield 22, 3) := by decide +kernel
theorem dX10_row_5 : decode cX10_row 5 = .ok (.idiv, 1) := by decide +kernel
theorem dX10_row_6 : decode cX10_row 6 = .ok (.ireturn, 1) := by decide +kernel
theorem dX10_isDark_0 : decode cX10_isDark 0 = .ok (.aload_n 0, 1) := by decide +kernel
theorem dX10_isDark_1 : decode cX10_isDark 1 = .ok (.iload_n 1, 1) := by decide +kernel
theorem dX10_isDark_2 : decode cX10_isDark 2 = .ok (.invokevirtual 43, 3) := by decide +kernel
theorem dX10_isDark_5 : decode cX10_isDark 5 = .ok (.aload_n 0, 1) := by decide +kernel
theorem dX10_isDark_6 : decode cX10_isDark 6 = .ok (.iload_n 1, 1) := by decide +kernel
theorem dX10_isDark_7 : decode cX10_isDark 7 = .ok (.invokevirtual 39, 3) := by decide +kernel
theorem dX10_isDark_10 : decode cX10_isDark 10 = .ok (.iadd, 1) := by decide +kernel
theorem dX10_isDark_11 : decode cX10_isDark 11 = .ok (.iconst 1, 1) := by decide +kernel
theorem dX10_isDark_12 : decode cX10_isDark 12 = .ok (.iand, 1) := by decide +kernel
theorem dX10_isDark_13 : decode cX10_isDark 13 = .ok (.ifCond .ne 7, 3) := by decide +kernel
theorem dX10_isDark_16 : decode cX10_isDark 16 = .ok (.iconst 1, 1) := by decide +kernel
theorem dX10_isDark_17 : decode cX10_isDark 17 = .ok (.goto 4, 3) := by decide +kernel
theorem dX10_isDark_20 : decode cX10_isDark 20 = .ok (.iconst 0, 1) := by decide +kernel
theorem dX10_isDark_21 : decode cX10_isDark 21 = .ok (.ireturn, 1) := by decide +kernel
theorem dX10_isCell_0 : decode cX10_isCell 0 = .ok (.iload_n 1, 1) := by decide +kernel
theorem dX10_isCell_1 : decode cX10_isCell 1 = .ok (.ifCond .lt 20, 3) := by decide +kernel
theorem dX10_isCell_4 : decode cX10_isCell 4 = .ok (.iload_n 1, 1) := by decide +kernel
theorem dX10_isCell_5 : decode cX10_isCell 5 = .ok (.aload_n 0, 1) := by decide +kernel
theorem dX10_isCell_6 : decode cX10_isCell 6 = .ok (.getfield 22, 3) := by decide +kernel
theorem dX10_isCell_9 : decode cX10_isCell 9 = .ok (.aload_n 0, 1) := by decide +kernel
theorem dX10_isCell_10 : decode cX10_isCell 10 = .ok (.getfield 26, 3) := by decide +kernel
theorem dX10_isCell_13 : decode cX10_isCell 13 = .ok (.imul, 1) := by decide +kernel
theorem dX10_isCell_14 : decode cX10_isCell 14 = .ok (.if_icmp .ge 7, 3) := by decide +kernel
theorem dX10_isCell_17 : decode cX10_isCell 17 = .ok (.iconst 1, 1) := by decide +kernel
theorem dX10_isCell_18 : decode cX10_isCell 18 = .ok (.goto 4, 3) := by decide +kernel
theorem dX10_isCell_21 : decode cX10_isCell 21 = .ok (.iconst 0, 1) := by decide +kernel
theorem dX10_isCell_22 : decode cX10_isCell 22 = .ok (.ireturn, 1) := by decide +kernel
theorem dX10_isOpen_0 : decode cX10_isOpen 0 = .ok (.aload_n 0, 1) := by decide +kernel
theorem dX10_isOpen_1 : decode cX10_isOpen 1 = .ok (.iload_n 1, 1) := by decide +kernel
theorem dX10_isOpen_2 : decode cX10_isOpen 2 = .ok (.invokevirtual 46, 3) := by decide +kernel
theorem dX10_isOpen_5 : decode cX10_isOpen 5 = .ok (.ifCond .eq 16, 3) := by decide +kernel
theorem dX10_isOpen_8 : decode cX10_isOpen 8 = .ok (.aload_n 0, 1) := by decide +kernel
theorem dX10_isOpen_9 : decode cX10_isOpen 9 = .ok (.getfield 9, 3) := by decide +kernel
theorem dX10_isOpen_12 : decode cX10_isOpen 12 = .ok (.iload_n 1, 1) := by decide +kernel
theorem dX10_isOpen_13 : decode cX10_isOpen 13 = .ok (.baload, 1) := by decide +kernel
theorem dX10_isOpen_14 : decode cX10_isOpen 14 = .ok (.ifCond .eq 7, 3) := by decide +kernel
theorem dX10_isOpen_17 : decode cX10_isOpen 17 = .ok (.iconst 1, 1) := by decide +kernel
theorem dX10_isOpen_18 : decode cX10_isOpen 18 = .ok (.goto 4, 3) := by decide +kernel
theorem dX10_isOpen_21 : decode cX10_isOpen 21 = .ok (.iconst 0, 1) := by decide +kernel
theorem dX10_isOpen_22 : decode cX10_isOpen 22 = .ok (.ireturn, 1) := by decide +kernel
theorem dX10_openAt_0 : decode cX10_openAt 0 = .ok (.iload_n 1, 1) := by decide +kernel
theorem dX10_openAt_1 : decode cX10_openAt 1 = .ok (.ifCond .lt 23, 3) := by decide +kernel
theorem dX10_openAt_4 : decode cX10_openAt 4 = .ok (.iload_n 1, 1) := by decide +kernel
theorem dX10_openAt_5 : decode cX10_openAt 5 = .ok (.aload_n 0, 1) := by decide +kernel
theorem dX10_openAt_6 : decode cX10_openAt 6 = .ok (.getfield 22, 3) := by decide +kernel
theorem dX10_openAt_9 : decode cX10_openAt 9 = .ok (.if_icmp .ge 15, 3) := by decide +kernel
theorem dX10_openAt_12 : decode cX10_openAt 12 = .ok (.iload_n 2, 1) := by decide +kernel
theorem dX10_openAt_13 : decode cX10_openAt 13 = .ok (.ifCond .lt 11, 3) := by decide +kernel
theorem dX10_openAt_16 : decode cX10_openAt 16 = .ok (.iload_n 2, 1) := by decide +kernel
theorem dX10_openAt_17 : decode cX10_openAt 17 = .ok (.aload_n 0, 1) := by decide +kernel
theorem dX10_openAt_18 : decode cX10_openAt 18 = .ok (.getfield 26, 3) := by decide +kernel
theorem dX10_openAt_21 : decode cX10_openAt 21 = .ok (.if_icmp .lt 5, 3) := by decide +kernel
theorem dX10_openAt_24 : decode cX10_openAt 24 = .ok (.iconst (-1), 1) := by decide +kernel
theorem dX10_openAt_25 : decode cX10_openAt 25 = .ok (.ireturn, 1) := by decide +kernel
theorem dX10_openAt_26 : decode cX10_openAt 26 = .ok (.iload_n 2, 1) := by decide +kernel
theorem dX10_openAt_27 : decode cX10_openAt 27 = .ok (.aload_n 0, 1) := by decide +kernel
theorem dX10_openAt_28 : decode cX10_openAt 28 = .ok (.getfield 22, 3) := by decide +kernel
theorem dX10_openAt_31 : decode cX10_openAt 31 = .ok (.imul, 1) := by decide +kernel
theorem dX10_openAt_32 : decode cX10_openAt 32 = .ok (.iload_n 1, 1) := by decide +kernel
theorem dX10_openAt_33 : decode cX10_openAt 33 = .ok (.iadd, 1) := by decide +kernel
theorem dX10_openAt_34 : decode cX10_openAt 34 = .ok (.istore_n 3, 1) := by decide +kernel
theorem dX10_openAt_35 : decode cX10_openAt 35 = .ok (.aload_n 0, 1) := by decide +kernel
theorem dX10_openAt_36 : decode cX10_openAt 36 = .ok (.getfield 9, 3) := by decide +kernel
theorem dX10_openAt_39 : decode cX10_openAt 39 = .ok (.iload_n 3, 1) := by decide +kernel
theorem dX10_openAt_40 : decode cX10_openAt 40 = .ok (.baload, 1) := by decide +kernel
theorem dX10_openAt_41 : decode cX10_openAt 41 = .ok (.ifCond .eq 7, 3) := by decide +kernel
theorem dX10_openAt_44 : decode cX10_openAt 44 = .ok (.iload_n 3, 1) := by decide +kernel
theorem dX10_openAt_45 : decode cX10_openAt 45 = .ok (.goto 4, 3) := by decide +kernel
theorem dX10_openAt_48 : decode cX10_openAt 48 = .ok (.iconst (-1), 1) := by decide +kernel
theorem dX10_openAt_49 : decode cX10_openAt 49 = .ok (.ireturn, 1) := by decide +kernel
theorem dX10_beside_0 : decode cX10_beside 0 = .ok (.aload_n 0, 1) := by decide +kernel
theorem dX10_beside_1 : decode cX10_beside 1 = .ok (.iload_n 1, 1) := by decide +kernel
theorem dX10_beside_2 : decode cX10_beside 2 = .ok (.invokevirtual 43, 3) := by decide +kernel
theorem dX10_beside_5 : decode cX10_beside 5 = .ok (.istore_n 3, 1) := by decide +kernel
theorem dX10_beside_6 : decode cX10_beside 6 = .ok (.aload_n 0, 1) := by decide +kernel
theorem dX10_beside_7 : decode cX10_beside 7 = .ok (.iload_n 1, 1) := by decide +kernel
theorem dX10_beside_8 : decode cX10_beside 8 = .ok (.invokevirtual 39, 3) := by decide +kernel
theorem dX10_beside_11 : decode cX10_beside 11 = .ok (.istore 4, 2) := by decide +kernel
theorem dX10_beside_13 : decode cX10_beside 13 = .ok (.iload_n 2, 1) := by decide +kernel
theorem dX10_beside_14 : decode cX10_beside 14 = .ok (.tableswitch 56 0 2 #[26, 36, 46], 26) := by decide +kernel
theorem dX10_beside_40 : decode cX10_beside 40 = .ok (.aload_n 0, 1) := by decide +kernel
theorem dX10_beside_41 : decode cX10_beside 41 = .ok (.iload_n 3, 1) := by decide +kernel
theorem dX10_beside_42 : decode cX10_beside 42 = .ok (.iload 4, 2) := by decide +kernel
theorem dX10_beside_44 : decode cX10_beside 44 = .ok (.iconst 1, 1) := by decide +kernel
theorem dX10_beside_45 : decode cX10_beside 45 = .ok (.isub, 1) := by decide +kernel
theorem dX10_beside_46 : decode cX10_beside 46 = .ok (.invokevirtual 50, 3) := by decide +kernel
theorem dX10_beside_49 : decode cX10_beside 49 = .ok (.ireturn, 1) := by decide +kernel
theorem dX10_beside_50 : decode cX10_beside 50 = .ok (.aload_n 0, 1) := by decide +kernel
theorem dX10_beside_51 : decode cX10_beside 51 = .ok (.iload_n 3, 1) := by decide +kernel
theorem dX10_beside_52 : decode cX10_beside 52 = .ok (.iconst 1, 1) := by decide +kernel
theorem dX10_beside_53 : decode cX10_beside 53 = .ok (.isub, 1) := by decide +kernel
theorem dX10_beside_54 : decode cX10_beside 54 = .ok (.iload 4, 2) := by decide +kernel
theorem dX10_beside_56 : decode cX10_beside 56 = .ok (.invokevirtual 50, 3) := by decide +kernel
theorem dX10_beside_59 : decode cX10_beside 59 = .ok (.ireturn, 1) := by decide +kernel
theorem dX10_beside_60 : decode cX10_beside 60 = .ok (.aload_n 0, 1) := by decide +kernel
theorem dX10_beside_61 : decode cX10_beside 61 = .ok (.iload_n 3, 1) := by decide +kernel
theorem dX10_beside_62 : decode cX10_beside 62 = .ok (.iconst 1, 1) := by decide +kernel
theorem dX10_beside_63 : decode cX10_beside 63 = .ok (.iadd, 1) := by decide +kernel
theorem dX10_beside_64 : decode cX10_beside 64 = .ok (.iload 4, 2) := by decide +kernel
theorem dX10_beside_66 : decode cX10_beside 66 = .ok (.invokevirtual 50, 3) := by decide +kernel
theorem dX10_beside_69 : decode cX10_beside 69 = .ok (.ireturn, 1) := by decide +kernel
theorem dX10_beside_70 : decode cX10_beside 70 = .ok (.aload_n 0, 1) := by decide +kernel
theorem dX10_beside_71 : decode cX10_beside 71 = .ok (.iload_n 3, 1) := by decide +kernel
theorem dX10_beside_72 : decode cX10_beside 72 = .ok (.iload 4, 2) := by decide +kernel
theorem dX10_beside_74 : decode cX10_beside 74 = .ok (.iconst 1, 1) := by decide +kernel
theorem dX10_beside_75 : decode cX10_beside 75 = .ok (.iadd, 1) := by decide +kernel
theorem dX10_beside_76 : decode cX10_beside 76 = .ok (.invokevirtual 50, 3) := by decide +kernel
theorem dX10_beside_79 : decode cX10_beside 79 = .ok (.ireturn, 1) := by decide +kernel
theorem dX10_secondCell_0 : decode cX10_secondCell 0 = .ok (.aload_n 0, 1) := by decide +kernel
theorem dX10_secondCell_1 : decode cX10_secondCell 1 = .ok (.iload_n 1, 1) := by decide +kernel
theorem dX10_secondCell_2 : decode cX10_secondCell 2 = .ok (.iconst 2, 1) := by decide +kernel
theorem dX10_secondCell_3 : decode cX10_secondCell 3 = .ok (.idiv, 1) := by decide +kernel
theorem dX10_secondCell_4 : decode cX10_secondCell 4 = .ok (.invokevirtual 43, 3) := by decide +kernel
theorem dX10_secondCell_7 : decode cX10_secondCell 7 = .ok (.istore_n 2, 1) := by decide +kernel
theorem dX10_secondCell_8 : decode cX10_secondCell 8 = .ok (.aload_n 0, 1) := by decide +kernel
theorem dX10_secondCell_9 : decode cX10_secondCell 9 = .ok (.iload_n 1, 1) := by decide +kernel
theorem dX10_secondCell_10 : decode cX10_secondCell 10 = .ok (.iconst 2, 1) := by decide +kernel
theorem dX10_secondCell_11 : decode cX10_secondCell 11 = .ok (.idiv, 1) := by decide +kernel
theorem dX10_secondCell_12 : decode cX10_secondCell 12 = .ok (.invokevirtual 39, 3) := by decide +kernel
theorem dX10_secondCell_15 : decode cX10_secondCell 15 = .ok (.istore_n 3, 1) := by decide +kernel
theorem dX10_secondCell_16 : decode cX10_secondCell 16 = .ok (.iload_n 1, 1) := by decide +kernel
theorem dX10_secondCell_17 : decode cX10_secondCell 17 = .ok (.iconst 2, 1) := by decide +kernel
theorem dX10_secondCell_18 : decode cX10_secondCell 18 = .ok (.irem, 1) := by decide +kernel
theorem dX10_secondCell_19 : decode cX10_secondCell 19 = .ok (.ifCond .ne 14, 3) := by decide +kernel
theorem dX10_secondCell_22 : decode cX10_secondCell 22 = .ok (.aload_n 0, 1) := by decide +kernel
theorem dX10_secondCell_23 : decode cX10_secondCell 23 = .ok (.iload_n 2, 1) := by decide +kernel
theorem dX10_secondCell_24 : decode cX10_secondCell 24 = .ok (.iconst 1, 1) := by decide +kernel
theorem dX10_secondCell_25 : decode cX10_secondCell 25 = .ok (.iadd, 1) := by decide +kernel
theorem dX10_secondCell_26 : decode cX10_secondCell 26 = .ok (.iload_n 3, 1) := by decide +kernel
theorem dX10_secondCell_27 : decode cX10_secondCell 27 = .ok (.invokevirtual 50, 3) := by decide +kernel
theorem dX10_secondCell_30 : decode cX10_secondCell 30 = .ok (.goto 11, 3) := by decide +kernel
theorem dX10_secondCell_33 : decode cX10_secondCell 33 = .ok (.aload_n 0, 1) := by decide +kernel
theorem dX10_secondCell_34 : decode cX10_secondCell 34 = .ok (.iload_n 2, 1) := by decide +kernel
theorem dX10_secondCell_35 : decode cX10_secondCell 35 = .ok (.iload_n 3, 1) := by decide +kernel
theorem dX10_secondCell_36 : decode cX10_secondCell 36 = .ok (.iconst 1, 1) := by decide +kernel
theorem dX10_secondCell_37 : decode cX10_secondCell 37 = .ok (.iadd, 1) := by decide +kernel
theorem dX10_secondCell_38 : decode cX10_secondCell 38 = .ok (.invokevirtual 50, 3) := by decide +kernel
theorem dX10_secondCell_41 : decode cX10_secondCell 41 = .ok (.ireturn, 1) := by decide +kernel
theorem dX10_stands_0 : decode cX10_stands 0 = .ok (.iload_n 1, 1) := by decide +kernel
theorem dX10_stands_1 : decode cX10_stands 1 = .ok (.ifCond .lt 41, 3) := by decide +kernel
theorem dX10_stands_4 : decode cX10_stands 4 = .ok (.iload_n 1, 1) := by decide +kernel
theorem dX10_stands_5 : decode cX10_stands 5 = .ok (.iconst 2, 1) := by decide +kernel
theorem dX10_stands_6 : decode cX10_stands 6 = .ok (.aload_n 0, 1) := by decide +kernel
theorem dX10_stands_7 : decode cX10_stands 7 = .ok (.getfield 22, 3) := by decide +kernel
theorem dX10_stands_10 : decode cX10_stands 10 = .ok (.imul, 1) := by decide +kernel
theorem dX10_stands_11 : decode cX10_stands 11 = .ok (.aload_n 0, 1) := by decide +kernel
theorem dX10_stands_12 : decode cX10_stands 12 = .ok (.getfield 26, 3) := by decide +kernel
theorem dX10_stands_15 : decode cX10_stands 15 = .ok (.imul, 1) := by decide +kernel
theorem dX10_stands_16 : decode cX10_stands 16 = .ok (.if_icmp .ge 26, 3) := by decide +kernel
theorem dX10_stands_19 : decode cX10_stands 19 = .ok (.aload_n 0, 1) := by decide +kernel
theorem dX10_stands_20 : decode cX10_stands 20 = .ok (.getfield 9, 3) := by decide +kernel
theorem dX10_stands_23 : decode cX10_stands 23 = .ok (.iload_n 1, 1) := by decide +kernel
theorem dX10_stands_24 : decode cX10_stands 24 = .ok (.iconst 2, 1) := by decide +kernel
theorem dX10_stands_25 : decode cX10_stands 25 = .ok (.idiv, 1) := by decide +kernel
theorem dX10_stands_26 : decode cX10_stands 26 = .ok (.baload, 1) := by decide +kernel
theorem dX10_stands_27 : decode cX10_stands 27 = .ok (.ifCond .eq 15, 3) := by decide +kernel
theorem dX10_stands_30 : decode cX10_stands 30 = .ok (.aload_n 0, 1) := by decide +kernel
theorem dX10_stands_31 : decode cX10_stands 31 = .ok (.iload_n 1, 1) := by decide +kernel
theorem dX10_stands_32 : decode cX10_stands 32 = .ok (.invokevirtual 53, 3) := by decide +kernel
theorem dX10_stands_35 : decode cX10_stands 35 = .ok (.ifCond .lt 7, 3) := by decide +kernel
theorem dX10_stands_38 : decode cX10_stands 38 = .ok (.iconst 1, 1) := by decide +kernel
theorem dX10_stands_39 : decode cX10_stands 39 = .ok (.goto 4, 3) := by decide +kernel
theorem dX10_stands_42 : decode cX10_stands 42 = .ok (.iconst 0, 1) := by decide +kernel
theorem dX10_stands_43 : decode cX10_stands 43 = .ok (.ireturn, 1) := by decide +kernel
theorem dX10_isCorner_0 : decode cX10_isCorner 0 = .ok (.aload_n 0, 1) := by decide +kernel
theorem dX10_isCorner_1 : decode cX10_isCorner 1 = .ok (.iload_n 1, 1) := by decide +kernel
theorem dX10_isCorner_2 : decode cX10_isCorner 2 = .ok (.iconst 1, 1) := by decide +kernel
theorem dX10_isCorner_3 : decode cX10_isCorner 3 = .ok (.isub, 1) := by decide +kernel
theorem dX10_isCorner_4 : decode cX10_isCorner 4 = .ok (.iload_n 2, 1) := by decide +kernel
theorem dX10_isCorner_5 : decode cX10_isCorner 5 = .ok (.iconst 1, 1) := by decide +kernel
theorem dX10_isCorner_6 : decode cX10_isCorner 6 = .ok (.isub, 1) := by decide +kernel
theorem dX10_isCorner_7 : decode cX10_isCorner 7 = .ok (.invokevirtual 50, 3) := by decide +kernel
theorem dX10_isCorner_10 : decode cX10_isCorner 10 = .ok (.ifCond .ge 34, 3) := by decide +kernel
theorem dX10_isCorner_13 : decode cX10_isCorner 13 = .ok (.aload_n 0, 1) := by decide +kernel
theorem dX10_isCorner_14 : decode cX10_isCorner 14 = .ok (.iload_n 1, 1) := by decide +kernel
theorem dX10_isCorner_15 : decode cX10_isCorner 15 = .ok (.iload_n 2, 1) := by decide +kernel
theorem dX10_isCorner_16 : decode cX10_isCorner 16 = .ok (.iconst 1, 1) := by decide +kernel
theorem dX10_isCorner_17 : decode cX10_isCorner 17 = .ok (.isub, 1) := by decide +kernel
theorem dX10_isCorner_18 : decode cX10_isCorner 18 = .ok (.invokevirtual 50, 3) := by decide +kernel
theorem dX10_isCorner_21 : decode cX10_isCorner 21 = .ok (.ifCond .ge 23, 3) := by decide +kernel
theorem dX10_isCorner_24 : decode cX10_isCorner 24 = .ok (.aload_n 0, 1) := by decide +kernel
theorem dX10_isCorner_25 : decode cX10_isCorner 25 = .ok (.iload_n 1, 1) := by decide +kernel
theorem dX10_isCorner_26 : decode cX10_isCorner 26 = .ok (.iconst 1, 1) := by decide +kernel
theorem dX10_isCorner_27 : decode cX10_isCorner 27 = .ok (.isub, 1) := by decide +kernel
theorem dX10_isCorner_28 : decode cX10_isCorner 28 = .ok (.iload_n 2, 1) := by decide +kernel
theorem dX10_isCorner_29 : decode cX10_isCorner 29 = .ok (.invokevirtual 50, 3) := by decide +kernel
theorem dX10_isCorner_32 : decode cX10_isCorner 32 = .ok (.ifCond .ge 12, 3) := by decide +kernel
theorem dX10_isCorner_35 : decode cX10_isCorner 35 = .ok (.aload_n 0, 1) := by decide +kernel
theorem dX10_isCorner_36 : decode cX10_isCorner 36 = .ok (.iload_n 1, 1) := by decide +kernel
theorem dX10_isCorner_37 : decode cX10_isCorner 37 = .ok (.iload_n 2, 1) := by decide +kernel
theorem dX10_isCorner_38 : decode cX10_isCorner 38 = .ok (.invokevirtual 50, 3) := by decide +kernel
theorem dX10_isCorner_41 : decode cX10_isCorner 41 = .ok (.ifCond .lt 7, 3) := by decide +kernel
theorem dX10_isCorner_44 : decode cX10_isCorner 44 = .ok (.iconst 1, 1) := by decide +kernel
theorem dX10_isCorner_45 : decode cX10_isCorner 45 = .ok (.goto 4, 3) := by decide +kernel
theorem dX10_isCorner_48 : decode cX10_isCorner 48 = .ok (.iconst 0, 1) := by decide +kernel
theorem dX10_isCorner_49 : decode cX10_isCorner 49 = .ok (.ireturn, 1) := by decide +kernel
theorem dX10_openCells_0 : decode cX10_openCells 0 = .ok (.iconst 0, 1) := by decide +kernel
theorem dX10_openCells_1 : decode cX10_openCells 1 = .ok (.istore_n 1, 1) := by decide +kernel
theorem dX10_openCells_2 : decode cX10_openCells 2 = .ok (.iconst 0, 1) := by decide +kernel
theorem dX10_openCells_3 : decode cX10_openCells 3 = .ok (.istore_n 2, 1) := by decide +kernel
theorem dX10_openCells_4 : decode cX10_openCells 4 = .ok (.iload_n 2, 1) := by decide +kernel
theorem dX10_openCells_5 : decode cX10_openCells 5 = .ok (.aload_n 0, 1) := by decide +kernel
theorem dX10_openCells_6 : decode cX10_openCells 6 = .ok (.getfield 22, 3) := by decide +kernel
theorem dX10_openCells_9 : decode cX10_openCells 9 = .ok (.aload_n 0, 1) := by decide +kernel
theorem dX10_openCells_10 : decode cX10_openCells 10 = .ok (.getfield 26, 3) := by decide +kernel
theorem dX10_openCells_13 : decode cX10_openCells 13 = .ok (.imul, 1) := by decide +kernel
theorem dX10_openCells_14 : decode cX10_openCells 14 = .ok (.if_icmp .ge 21, 3) := by decide +kernel
theorem dX10_openCells_17 : decode cX10_openCells 17 = .ok (.iload_n 1, 1) := by decide +kernel
theorem dX10_openCells_18 : decode cX10_openCells 18 = .ok (.aload_n 0, 1) := by decide +kernel
theorem dX10_openCells_19 : decode cX10_openCells 19 = .ok (.getfield 9, 3) := by decide +kernel
theorem dX10_openCells_22 : decode cX10_openCells 22 = .ok (.iload_n 2, 1) := by decide +kernel
theorem dX10_openCells_23 : decode cX10_openCells 23 = .ok (.baload, 1) := by decide +kernel
theorem dX10_openCells_24 : decode cX10_openCells 24 = .ok (.invokestatic 56, 3) := by decide +kernel
theorem dX10_openCells_27 : decode cX10_openCells 27 = .ok (.iadd, 1) := by decide +kernel
theorem dX10_openCells_28 : decode cX10_openCells 28 = .ok (.istore_n 1, 1) := by decide +kernel
theorem dX10_openCells_29 : decode cX10_openCells 29 = .ok (.iinc 2 1, 3) := by decide +kernel
theorem dX10_openCells_32 : decode cX10_openCells 32 = .ok (.goto (-28), 3) := by decide +kernel
theorem dX10_openCells_35 : decode cX10_openCells 35 = .ok (.iload_n 1, 1) := by decide +kernel
theorem dX10_openCells_36 : decode cX10_openCells 36 = .ok (.ireturn, 1) := by decide +kernel
theorem dX10_darkCells_0 : decode cX10_darkCells 0 = .ok (.iconst 0, 1) := by decide +kernel
theorem dX10_darkCells_1 : decode cX10_darkCells 1 = .ok (.istore_n 1, 1) := by decide +kernel
theorem dX10_darkCells_2 : decode cX10_darkCells 2 = .ok (.iconst 0, 1) := by decide +kernel
theorem dX10_darkCells_3 : decode cX10_darkCells 3 = .ok (.istore_n 2, 1) := by decide +kernel
theorem dX10_darkCells_4 : decode cX10_darkCells 4 = .ok (.iload_n 2, 1) := by decide +kernel
theorem dX10_darkCells_5 : decode cX10_darkCells 5 = .ok (.aload_n 0, 1) := by decide +kernel
theorem dX10_darkCells_6 : decode cX10_darkCells 6 = .ok (.getfield 22, 3) := by decide +kernel
theorem dX10_darkCells_9 : decode cX10_darkCells 9 = .ok (.aload_n 0, 1) := by decide +kernel
theorem dX10_darkCells_10 : decode cX10_darkCells 10 = .ok (.getfield 26, 3) := by decide +kernel
theorem dX10_darkCells_13 : decode cX10_darkCells 13 = .ok (.imul, 1) := by decide +kernel
theorem dX10_darkCells_14 : decode cX10_darkCells 14 = .ok (.if_icmp .ge 37, 3) := by decide +kernel
theorem dX10_darkCells_17 : decode cX10_darkCells 17 = .ok (.iload_n 1, 1) := by decide +kernel
theorem dX10_darkCells_18 : decode cX10_darkCells 18 = .ok (.aload_n 0, 1) := by decide +kernel
theorem dX10_darkCells_19 : decode cX10_darkCells 19 = .ok (.getfield 9, 3) := by decide +kernel
theorem dX10_darkCells_22 : decode cX10_darkCells 22 = .ok (.iload_n 2, 1) := by decide +kernel
theorem dX10_darkCells_23 : decode cX10_darkCells 23 = .ok (.baload, 1) := by decide +kernel
theorem dX10_darkCells_24 : decode cX10_darkCells 24 = .ok (.ifCond .eq 15, 3) := by decide +kernel
theorem dX10_darkCells_27 : decode cX10_darkCells 27 = .ok (.aload_n 0, 1) := by decide +kernel
theorem dX10_darkCells_28 : decode cX10_darkCells 28 = .ok (.iload_n 2, 1) := by decide +kernel
theorem dX10_darkCells_29 : decode cX10_darkCells 29 = .ok (.invokevirtual 60, 3) := by decide +kernel
theorem dX10_darkCells_32 : decode cX10_darkCells 32 = .ok (.ifCond .eq 7, 3) := by decide +kernel
theorem dX10_darkCells_35 : decode cX10_darkCells 35 = .ok (.iconst 1, 1) := by decide +kernel
theorem dX10_darkCells_36 : decode cX10_darkCells 36 = .ok (.goto 4, 3) := by decide +kernel
theorem dX10_darkCells_39 : decode cX10_darkCells 39 = .ok (.iconst 0, 1) := by decide +kernel
theorem dX10_darkCells_40 : decode cX10_darkCells 40 = .ok (.invokestatic 56, 3) := by decide +kernel
theorem dX10_darkCells_43 : decode cX10_darkCells 43 = .ok (.iadd, 1) := by decide +kernel
theorem dX10_darkCells_44 : decode cX10_darkCells 44 = .ok (.istore_n 1, 1) := by decide +kernel
theorem dX10_darkCells_45 : decode cX10_darkCells 45 = .ok (.iinc 2 1, 3) := by decide +kernel
theorem dX10_darkCells_48 : decode cX10_darkCells 48 = .ok (.goto (-44), 3) := by decide +kernel
theorem dX10_darkCells_51 : decode cX10_darkCells 51 = .ok (.iload_n 1, 1) := by decide +kernel
theorem dX10_darkCells_52 : decode cX10_darkCells 52 = .ok (.ireturn, 1) := by decide +kernel
theorem dX10_standingBricks_0 : decode cX10_standingBricks 0 = .ok (.iconst 0, 1) := by decide +kernel
theorem dX10_standingBricks_1 : decode cX10_standingBricks 1 = .ok (.istore_n 1, 1) := by decide +kernel
theorem dX10_standingBricks_2 : decode cX10_standingBricks 2 = .ok (.iconst 0, 1) := by decide +kernel
theorem dX10_standingBricks_3 : decode cX10_standingBricks 3 = .ok (.istore_n 2, 1) := by decide +kernel
theorem dX10_standingBricks_4 : decode cX10_standingBricks 4 = .ok (.iload_n 2, 1) := by decide +kernel
theorem dX10_standingBricks_5 : decode cX10_standingBricks 5 = .ok (.iconst 2, 1) := by decide +kernel
theorem dX10_standingBricks_6 : decode cX10_standingBricks 6 = .ok (.aload_n 0, 1) := by decide +kernel
theorem dX10_standingBricks_7 : decode cX10_standingBricks 7 = .ok (.getfield 22, 3) := by decide +kernel
theorem dX10_standingBricks_10 : decode cX10_standingBricks 10 = .ok (.imul, 1) := by decide +kernel
theorem dX10_standingBricks_11 : decode cX10_standingBricks 11 = .ok (.aload_n 0, 1) := by decide +kernel
theorem dX10_standingBricks_12 : decode cX10_standingBricks 12 = .ok (.getfield 26, 3) := by decide +kernel
theorem dX10_standingBricks_15 : decode cX10_standingBricks 15 = .ok (.imul, 1) := by decide +kernel
theorem dX10_standingBricks_16 : decode cX10_standingBricks 16 = .ok (.if_icmp .ge 20, 3) := by decide +kernel
theorem dX10_standingBricks_19 : decode cX10_standingBricks 19 = .ok (.iload_n 1, 1) := by decide +kernel
theorem dX10_standingBricks_20 : decode cX10_standingBricks 20 = .ok (.aload_n 0, 1) := by decide +kernel
theorem dX10_standingBricks_21 : decode cX10_standingBricks 21 = .ok (.iload_n 2, 1) := by decide +kernel
theorem dX10_standingBricks_22 : decode cX10_standingBricks 22 = .ok (.invokevirtual 63, 3) := by decide +kernel
theorem dX10_standingBricks_25 : decode cX10_standingBricks 25 = .ok (.invokestatic 56, 3) := by decide +kernel
theorem dX10_standingBricks_28 : decode cX10_standingBricks 28 = .ok (.iadd, 1) := by decide +kernel
theorem dX10_standingBricks_29 : decode cX10_standingBricks 29 = .ok (.istore_n 1, 1) := by decide +kernel
theorem dX10_standingBricks_30 : decode cX10_standingBricks 30 = .ok (.iinc 2 1, 3) := by decide +kernel
theorem dX10_standingBricks_33 : decode cX10_standingBricks 33 = .ok (.goto (-29), 3) := by decide +kernel
theorem dX10_standingBricks_36 : decode cX10_standingBricks 36 = .ok (.iload_n 1, 1) := by decide +kernel
theorem dX10_standingBricks_37 : decode cX10_standingBricks 37 = .ok (.ireturn, 1) := by decide +kernel
theorem dX10_wantedBricks_0 : decode cX10_wantedBricks 0 = .ok (.iconst 0, 1) := by decide +kernel
theorem dX10_wantedBricks_1 : decode cX10_wantedBricks 1 = .ok (.istore_n 2, 1) := by decide +kernel
theorem dX10_wantedBricks_2 : decode cX10_wantedBricks 2 = .ok (.iconst 0, 1) := by decide +kernel
theorem dX10_wantedBricks_3 : decode cX10_wantedBricks 3 = .ok (.istore_n 3, 1) := by decide +kernel
theorem dX10_wantedBricks_4 : decode cX10_wantedBricks 4 = .ok (.iload_n 3, 1) := by decide +kernel
theorem dX10_wantedBricks_5 : decode cX10_wantedBricks 5 = .ok (.iconst 2, 1) := by decide +kernel
theorem dX10_wantedBricks_6 : decode cX10_wantedBricks 6 = .ok (.aload_n 0, 1) := by decide +kernel
theorem dX10_wantedBricks_7 : decode cX10_wantedBricks 7 = .ok (.getfield 22, 3) := by decide +kernel
theorem dX10_wantedBricks_10 : decode cX10_wantedBricks 10 = .ok (.imul, 1) := by decide +kernel
theorem dX10_wantedBricks_11 : decode cX10_wantedBricks 11 = .ok (.aload_n 0, 1) := by decide +kernel
theorem dX10_wantedBricks_12 : decode cX10_wantedBricks 12 = .ok (.getfield 26, 3) := by decide +kernel
theorem dX10_wantedBricks_15 : decode cX10_wantedBricks 15 = .ok (.imul, 1) := by decide +kernel
theorem dX10_wantedBricks_16 : decode cX10_wantedBricks 16 = .ok (.if_icmp .ge 30, 3) := by decide +kernel
theorem dX10_wantedBricks_19 : decode cX10_wantedBricks 19 = .ok (.iload_n 2, 1) := by decide +kernel
theorem dX10_wantedBricks_20 : decode cX10_wantedBricks 20 = .ok (.aload_n 0, 1) := by decide +kernel
theorem dX10_wantedBricks_21 : decode cX10_wantedBricks 21 = .ok (.getfield 15, 3) := by decide +kernel
theorem dX10_wantedBricks_24 : decode cX10_wantedBricks 24 = .ok (.iload_n 3, 1) := by decide +kernel
theorem dX10_wantedBricks_25 : decode cX10_wantedBricks 25 = .ok (.iaload, 1) := by decide +kernel
theorem dX10_wantedBricks_26 : decode cX10_wantedBricks 26 = .ok (.iload_n 1, 1) := by decide +kernel
theorem dX10_wantedBricks_27 : decode cX10_wantedBricks 27 = .ok (.if_icmp .ne 7, 3) := by decide +kernel
theorem dX10_wantedBricks_30 : decode cX10_wantedBricks 30 = .ok (.iconst 1, 1) := by decide +kernel
theorem dX10_wantedBricks_31 : decode cX10_wantedBricks 31 = .ok (.goto 4, 3) := by decide +kernel
theorem dX10_wantedBricks_34 : decode cX10_wantedBricks 34 = .ok (.iconst 0, 1) := by decide +kernel
theorem dX10_wantedBricks_35 : decode cX10_wantedBricks 35 = .ok (.invokestatic 56, 3) := by decide +kernel
theorem dX10_wantedBricks_38 : decode cX10_wantedBricks 38 = .ok (.iadd, 1) := by decide +kernel
theorem dX10_wantedBricks_39 : decode cX10_wantedBricks 39 = .ok (.istore_n 2, 1) := by decide +kernel
theorem dX10_wantedBricks_40 : decode cX10_wantedBricks 40 = .ok (.iinc 3 1, 3) := by decide +kernel
theorem dX10_wantedBricks_43 : decode cX10_wantedBricks 43 = .ok (.goto (-39), 3) := by decide +kernel
theorem dX10_wantedBricks_46 : decode cX10_wantedBricks 46 = .ok (.iload_n 2, 1) := by decide +kernel
theorem dX10_wantedBricks_47 : decode cX10_wantedBricks 47 = .ok (.ireturn, 1) := by decide +kernel
theorem dX11_init_0 : decode cX11_init 0 = .ok (.aload_n 0, 1) := by decide +kernel
theorem dX11_init_1 : decode cX11_init 1 = .ok (.invokespecial 1, 3) := by decide +kernel
theorem dX11_init_4 : decode cX11_init 4 = .ok (.aload_n 0, 1) := by decide +kernel
theorem dX11_init_5 : decode cX11_init 5 = .ok (.new 7, 3) := by decide +kernel
theorem dX11_init_8 : decode cX11_init 8 = .ok (.dup, 1) := by decide +kernel
theorem dX11_init_9 : decode cX11_init 9 = .ok (.invokespecial 9, 3) := by decide +kernel
theorem dX11_init_12 : decode cX11_init 12 = .ok (.putfield 10, 3) := by decide +kernel
theorem dX11_init_15 : decode cX11_init 15 = .ok (.aload_n 0, 1) := by decide +kernel
theorem dX11_init_16 : decode cX11_init 16 = .ok (.new 16, 3) := by decide +kernel
theorem dX11_init_19 : decode cX11_init 19 = .ok (.dup, 1) := by decide +kernel
theorem dX11_init_20 : decode cX11_init 20 = .ok (.invokespecial 18, 3) := by decide +kernel
theorem dX11_init_23 : decode cX11_init 23 = .ok (.putfield 19, 3) := by decide +kernel
theorem dX11_init_26 : decode cX11_init 26 = .ok (.aload_n 0, 1) := by decide +kernel
theorem dX11_init_27 : decode cX11_init 27 = .ok (.new 23, 3) := by decide +kernel
theorem dX11_init_30 : decode cX11_init 30 = .ok (.dup, 1) := by decide +kernel
theorem dX11_init_31 : decode cX11_init 31 = .ok (.invokespecial 25, 3) := by decide +kernel
theorem dX11_init_34 : decode cX11_init 34 = .ok (.putfield 26, 3) := by decide +kernel
theorem dX11_init_37 : decode cX11_init 37 = .ok (.aload_n 0, 1) := by decide +kernel
theorem dX11_init_38 : decode cX11_init 38 = .ok (.new 30, 3) := by decide +kernel
theorem dX11_init_41 : decode cX11_init 41 = .ok (.dup, 1) := by decide +kernel
theorem dX11_init_42 : decode cX11_init 42 = .ok (.invokespecial 32, 3) := by decide +kernel
theorem dX11_init_45 : decode cX11_init 45 = .ok (.putfield 33, 3) := by decide +kernel
theorem dX11_init_48 : decode cX11_init 48 = .ok (.aload_n 0, 1) := by decide +kernel
theorem dX11_init_49 : decode cX11_init 49 = .ok (.new 37, 3) := by decide +kernel
theorem dX11_init_52 : decode cX11_init 52 = .ok (.dup, 1) := by decide +kernel
theorem dX11_init_53 : decode cX11_init 53 = .ok (.invokespecial 39, 3) := by decide +kernel
theorem dX11_init_56 : decode cX11_init 56 = .ok (.putfield 40, 3) := by decide +kernel
theorem dX11_init_59 : decode cX11_init 59 = .ok (.aload_n 0, 1) := by decide +kernel
theorem dX11_init_60 : decode cX11_init 60 = .ok (.new 44, 3) := by decide +kernel
theorem dX11_init_63 : decode cX11_init 63 = .ok (.dup, 1) := by decide +kernel
theorem dX11_init_64 : decode cX11_init 64 = .ok (.invokespecial 46, 3) := by decide +kernel
theorem dX11_init_67 : decode cX11_init 67 = .ok (.putfield 47, 3) := by decide +kernel
theorem dX11_init_70 : decode cX11_init 70 = .ok (.aload_n 0, 1) := by decide +kernel
theorem dX11_init_71 : decode cX11_init 71 = .ok (.new 51, 3) := by decide +kernel
theorem dX11_init_74 : decode cX11_init 74 = .ok (.dup, 1) := by decide +kernel
theorem dX11_init_75 : decode cX11_init 75 = .ok (.invokespecial 53, 3) := by decide +kernel
theorem dX11_init_78 : decode cX11_init 78 = .ok (.putfield 54, 3) := by decide +kernel
theorem dX11_init_81 : decode cX11_init 81 = .ok (.aload_n 0, 1) := by decide +kernel
theorem dX11_init_82 : decode cX11_init 82 = .ok (.new 58, 3) := by decide +kernel
theorem dX11_init_85 : decode cX11_init 85 = .ok (.dup, 1) := by decide +kernel
theorem dX11_init_86 : decode cX11_init 86 = .ok (.invokespecial 60, 3) := by decide +kernel
theorem dX11_init_89 : decode cX11_init 89 = .ok (.putfield 61, 3) := by decide +kernel
theorem dX11_init_92 : decode cX11_init 92 = .ok (.aload_n 0, 1) := by decide +kernel
theorem dX11_init_93 : decode cX11_init 93 = .ok (.iconst 4, 1) := by decide +kernel
theorem dX11_init_94 : decode cX11_init 94 = .ok (.anewarray 65, 3) := by decide +kernel
theorem dX11_init_97 : decode cX11_init 97 = .ok (.putfield 67, 3) := by decide +kernel
theorem dX11_init_100 : decode cX11_init 100 = .ok (.aload_n 0, 1) := by decide +kernel
theorem dX11_init_101 : decode cX11_init 101 = .ok (.iconst 4, 1) := by decide +kernel
theorem dX11_init_102 : decode cX11_init 102 = .ok (.anewarray 71, 3) := by decide +kernel
theorem dX11_init_105 : decode cX11_init 105 = .ok (.putfield 73, 3) := by decide +kernel
theorem dX11_init_108 : decode cX11_init 108 = .ok (.iconst 0, 1) := by decide +kernel
theorem dX11_init_109 : decode cX11_init 109 = .ok (.istore_n 1, 1) := by decide +kernel
theorem dX11_init_110 : decode cX11_init 110 = .ok (.iload_n 1, 1) := by decide +kernel
theorem dX11_init_111 : decode cX11_init 111 = .ok (.iconst 4, 1) := by decide +kernel
theorem dX11_init_112 : decode cX11_init 112 = .ok (.if_icmp .ge 22, 3) := by decide +kernel
theorem dX11_init_115 : decode cX11_init 115 = .ok (.aload_n 0, 1) := by decide +kernel
theorem dX11_init_116 : decode cX11_init 116 = .ok (.getfield 67, 3) := by decide +kernel
theorem dX11_init_119 : decode cX11_init 119 = .ok (.iload_n 1, 1) := by decide +kernel
theorem dX11_init_120 : decode cX11_init 120 = .ok (.new 65, 3) := by decide +kernel
theorem dX11_init_123 : decode cX11_init 123 = .ok (.dup, 1) := by decide +kernel
theorem dX11_init_124 : decode cX11_init 124 = .ok (.invokespecial 77, 3) := by decide +kernel
theorem dX11_init_127 : decode cX11_init 127 = .ok (.aastore, 1) := by decide +kernel
theorem dX11_init_128 : decode cX11_init 128 = .ok (.iinc 1 1, 3) := by decide +kernel
theorem dX11_init_131 : decode cX11_init 131 = .ok (.goto (-21), 3) := by decide +kernel
theorem dX11_init_134 : decode cX11_init 134 = .ok (.iconst 0, 1) := by decide +kernel
theorem dX11_init_135 : decode cX11_init 135 = .ok (.istore_n 1, 1) := by decide +kernel
theorem dX11_init_136 : decode cX11_init 136 = .ok (.iload_n 1, 1) := by decide +kernel
theorem dX11_init_137 : decode cX11_init 137 = .ok (.iconst 4, 1) := by decide +kernel
theorem dX11_init_138 : decode cX11_init 138 = .ok (.if_icmp .ge 22, 3) := by decide +kernel
theorem dX11_init_141 : decode cX11_init 141 = .ok (.aload_n 0, 1) := by decide +kernel
theorem dX11_init_142 : decode cX11_init 142 = .ok (.getfield 73, 3) := by decide +kernel
theorem dX11_init_145 : decode cX11_init 145 = .ok (.iload_n 1, 1) := by decide +kernel
theorem dX11_init_146 : decode cX11_init 146 = .ok (.new 71, 3) := by decide +kernel
theorem dX11_init_149 : decode cX11_init 149 = .ok (.dup, 1) := by decide +kernel
theorem dX11_init_150 : decode cX11_init 150 = .ok (.invokespecial 78, 3) := by decide +kernel
theorem dX11_init_153 : decode cX11_init 153 = .ok (.aastore, 1) := by decide +kernel
theorem dX11_init_154 : decode cX11_init 154 = .ok (.iinc 1 1, 3) := by decide +kernel
theorem dX11_init_157 : decode cX11_init 157 = .ok (.goto (-21), 3) := by decide +kernel
theorem dX11_init_160 : decode cX11_init 160 = .ok (.return_, 1) := by decide +kernel
theorem dX11_yard_0 : decode cX11_yard 0 = .ok (.iload_n 1, 1) := by decide +kernel
theorem dX11_yard_1 : decode cX11_yard 1 = .ok (.iconst 1, 1) := by decide +kernel
theorem dX11_yard_2 : decode cX11_yard 2 = .ok (.if_icmp .lt 20, 3) := by decide +kernel
theorem dX11_yard_5 : decode cX11_yard 5 = .ok (.iload_n 1, 1) := by decide +kernel
theorem dX11_yard_6 : decode cX11_yard 6 = .ok (.bipush 8, 2) := by decide +kernel
theorem dX11_yard_8 : decode cX11_yard 8 = .ok (.if_icmp .gt 14, 3) := by decide +kernel
theorem dX11_yard_11 : decode cX11_yard 11 = .ok (.iload_n 2, 1) := by decide +kernel
theorem dX11_yard_12 : decode cX11_yard 12 = .ok (.iconst 1, 1) := by decide +kernel
theorem dX11_yard_13 : decode cX11_yard 13 = .ok (.if_icmp .lt 9, 3) := by decide +kernel
theorem dX11_yard_16 : decode cX11_yard 16 = .ok (.iload_n 2, 1) := by decide +kernel
theorem dX11_yard_17 : decode cX11_yard 17 = .ok (.bipush 8, 2) := by decide +kernel
theorem dX11_yard_19 : decode cX11_yard 19 = .ok (.if_icmp .le 5, 3) := by decide +kernel
theorem dX11_yard_22 : decode cX11_yard 22 = .ok (.iconst (-1), 1) := by decide +kernel
theorem dX11_yard_23 : decode cX11_yard 23 = .ok (.ireturn, 1) := by decide +kernel
theorem dX11_yard_24 : decode cX11_yard 24 = .ok (.aload_n 0, 1) := by decide +kernel
theorem dX11_yard_25 : decode cX11_yard 25 = .ok (.iload_n 1, 1) := by decide +kernel
theorem dX11_yard_26 : decode cX11_yard 26 = .ok (.iload_n 2, 1) := by decide +kernel
theorem dX11_yard_27 : decode cX11_yard 27 = .ok (.invokevirtual 79, 3) := by decide +kernel
theorem dX11_yard_30 : decode cX11_yard 30 = .ok (.aload_n 0, 1) := by decide +kernel
theorem dX11_yard_31 : decode cX11_yard 31 = .ok (.getfield 10, 3) := by decide +kernel
theorem dX11_yard_34 : decode cX11_yard 34 = .ok (.invokevirtual 83, 3) := by decide +kernel
theorem dX11_yard_37 : decode cX11_yard 37 = .ok (.ireturn, 1) := by decide +kernel
theorem dX11_cell_0 : decode cX11_cell 0 = .ok (.aload_n 0, 1) := by decide +kernel
theorem dX11_cell_1 : decode cX11_cell 1 = .ok (.getfield 10, 3) := by decide +kernel
theorem dX11_cell_4 : decode cX11_cell 4 = .ok (.iload_n 1, 1) := by decide +kernel
theorem dX11_cell_5 : decode cX11_cell 5 = .ok (.invokevirtual 87, 3) := by decide +kernel
theorem dX11_cell_8 : decode cX11_cell 8 = .ok (.ifCond .ne 5, 3) := by decide +kernel
theorem dX11_cell_11 : decode cX11_cell 11 = .ok (.iconst (-1), 1) := by decide +kernel
theorem dX11_cell_12 : decode cX11_cell 12 = .ok (.ireturn, 1) := by decide +kernel
theorem dX11_cell_13 : decode cX11_cell 13 = .ok (.aload_n 0, 1) := by decide +kernel
theorem dX11_cell_14 : decode cX11_cell 14 = .ok (.iload_n 1, 1) := by decide +kernel
theorem dX11_cell_15 : decode cX11_cell 15 = .ok (.iload_n 2, 1) := by decide +kernel
theorem dX11_cell_16 : decode cX11_cell 16 = .ok (.invokevirtual 91, 3) := by decide +kernel
theorem dX11_cell_19 : decode cX11_cell 19 = .ok (.invokestatic 95, 3) := by decide +kernel
theorem dX11_cell_22 : decode cX11_cell 22 = .ok (.ireturn, 1) := by decide +kernel
theorem dX11_type_0 : decode cX11_type 0 = .ok (.iload_n 3, 1) := by decide +kernel
theorem dX11_type_1 : decode cX11_type 1 = .ok (.iconst 1, 1) := by decide +kernel
theorem dX11_type_2 : decode cX11_type 2 = .ok (.if_icmp .lt 21, 3) := by decide +kernel
theorem dX11_type_5 : decode cX11_type 5 = .ok (.iload_n 3, 1) := by decide +kernel
theorem dX11_type_6 : decode cX11_type 6 = .ok (.bipush 8, 2) := by decide +kernel
theorem dX11_type_8 : decode cX11_type 8 = .ok (.if_icmp .gt 15, 3) := by decide +kernel
theorem dX11_type_11 : decode cX11_type 11 = .ok (.aload_n 0, 1) := by decide +kernel
theorem dX11_type_12 : decode cX11_type 12 = .ok (.getfield 19, 3) := by decide +kernel
theorem dX11_type_15 : decode cX11_type 15 = .ok (.lload_n 1, 1) := by decide +kernel
theorem dX11_type_16 : decode cX11_type 16 = .ok (.iload_n 3, 1) := by decide +kernel
theorem dX11_type_17 : decode cX11_type 17 = .ok (.invokevirtual 99, 3) := by decide +kernel
theorem dX11_type_20 : decode cX11_type 20 = .ok (.ifCond .ne 5, 3) := by decide +kernel
theorem dX11_type_23 : decode cX11_type 23 = .ok (.iconst (-1), 1) := by decide +kernel
theorem dX11_type_24 : decode cX11_type 24 = .ok (.ireturn, 1) := by decide +kernel
theorem dX11_type_25 : decode cX11_type 25 = .ok (.aload_n 0, 1) := by decide +kernel
theorem dX11_type_26 : decode cX11_type 26 = .ok (.getfield 19, 3) := by decide +kernel
theorem dX11_type_29 : decode cX11_type 29 = .ok (.getfield 103, 3) := by decide +kernel
theorem dX11_type_32 : decode cX11_type 32 = .ok (.iload_n 3, 1) := by decide +kernel
theorem dX11_type_33 : decode cX11_type 33 = .ok (.iadd, 1) := by decide +kernel
theorem dX11_type_34 : decode cX11_type 34 = .ok (.bipush 90, 2) := by decide +kernel
theorem dX11_type_36 : decode cX11_type 36 = .ok (.if_icmp .le 6, 3) := by decide +kernel
theorem dX11_type_39 : decode cX11_type 39 = .ok (.bipush (-3), 2) := by decide +kernel
theorem dX11_type_41 : decode cX11_type 41 = .ok (.ireturn, 1) := by decide +kernel
theorem dX11_type_42 : decode cX11_type 42 = .ok (.aload_n 0, 1) := by decide +kernel
theorem dX11_type_43 : decode cX11_type 43 = .ok (.getfield 19, 3) := by decide +kernel
theorem dX11_type_46 : decode cX11_type 46 = .ok (.lload_n 1, 1) := by decide +kernel
theorem dX11_type_47 : decode cX11_type 47 = .ok (.iload_n 3, 1) := by decide +kernel
theorem dX11_type_48 : decode cX11_type 48 = .ok (.invokevirtual 107, 3) := by decide +kernel
theorem dX11_type_51 : decode cX11_type 51 = .ok (.ireturn, 1) := by decide +kernel
theorem dX11_read_0 : decode cX11_read 0 = .ok (.aload_n 0, 1) := by decide +kernel
theorem dX11_read_1 : decode cX11_read 1 = .ok (.getfield 19, 3) := by decide +kernel
theorem dX11_read_4 : decode cX11_read 4 = .ok (.invokevirtual 111, 3) := by decide +kernel
theorem dX11_read_7 : decode cX11_read 7 = .ok (.istore_n 1, 1) := by decide +kernel
theorem dX11_read_8 : decode cX11_read 8 = .ok (.aload_n 0, 1) := by decide +kernel
theorem dX11_read_9 : decode cX11_read 9 = .ok (.getfield 19, 3) := by decide +kernel
theorem dX11_read_12 : decode cX11_read 12 = .ok (.iconst 0, 1) := by decide +kernel
theorem dX11_read_13 : decode cX11_read 13 = .ok (.putfield 103, 3) := by decide +kernel
theorem dX11_read_16 : decode cX11_read 16 = .ok (.iload_n 1, 1) := by decide +kernel
theorem dX11_read_17 : decode cX11_read 17 = .ok (.ifCond .ge 5, 3) := by decide +kernel
theorem dX11_read_20 : decode cX11_read 20 = .ok (.iload_n 1, 1) := by decide +kernel
theorem dX11_read_21 : decode cX11_read 21 = .ok (.ireturn, 1) := by decide +kernel
theorem dX11_read_22 : decode cX11_read 22 = .ok (.aload_n 0, 1) := by decide +kernel
theorem dX11_read_23 : decode cX11_read 23 = .ok (.aload_n 0, 1) := by decide +kernel
theorem dX11_read_24 : decode cX11_read 24 = .ok (.getfield 19, 3) := by decide +kernel
theorem dX11_read_27 : decode cX11_read 27 = .ok (.getfield 114, 3) := by decide +kernel
theorem dX11_read_30 : decode cX11_read 30 = .ok (.aload_n 0, 1) := by decide +kernel
theorem dX11_read_31 : decode cX11_read 31 = .ok (.getfield 19, 3) := by decide +kernel
theorem dX11_read_34 : decode cX11_read 34 = .ok (.getfield 117, 3) := by decide +kernel
theorem dX11_read_37 : decode cX11_read 37 = .ok (.invokevirtual 79, 3) := by decide +kernel
theorem dX11_read_40 : decode cX11_read 40 = .ok (.iconst 0, 1) := by decide +kernel
theorem dX11_read_41 : decode cX11_read 41 = .ok (.istore_n 2, 1) := by decide +kernel
theorem dX11_read_42 : decode cX11_read 42 = .ok (.iload_n 2, 1) := by decide +kernel
theorem dX11_read_43 : decode cX11_read 43 = .ok (.aload_n 0, 1) := by decide +kernel
theorem dX11_read_44 : decode cX11_read 44 = .ok (.getfield 10, 3) := by decide +kernel
theorem dX11_read_47 : decode cX11_read 47 = .ok (.invokevirtual 83, 3) := by decide +kernel
theorem dX11_read_50 : decode cX11_read 50 = .ok (.if_icmp .ge 38, 3) := by decide +kernel
theorem dX11_read_53 : decode cX11_read 53 = .ok (.aload_n 0, 1) := by decide +kernel
theorem dX11_read_54 : decode cX11_read 54 = .ok (.iload_n 2, 1) := by decide +kernel
theorem dX11_read_55 : decode cX11_read 55 = .ok (.aload_n 0, 1) := by decide +kernel
theorem dX11_read_56 : decode cX11_read 56 = .ok (.getfield 19, 3) := by decide +kernel
theorem dX11_read_59 : decode cX11_read 59 = .ok (.aload_n 0, 1) := by decide +kernel
theorem dX11_read_60 : decode cX11_read 60 = .ok (.getfield 10, 3) := by decide +kernel
theorem dX11_read_63 : decode cX11_read 63 = .ok (.iload_n 2, 1) := by decide +kernel
theorem dX11_read_64 : decode cX11_read 64 = .ok (.invokevirtual 120, 3) := by decide +kernel
theorem dX11_read_67 : decode cX11_read 67 = .ok (.aload_n 0, 1) := by decide +kernel
theorem dX11_read_68 : decode cX11_read 68 = .ok (.getfield 10, 3) := by decide +kernel
theorem dX11_read_71 : decode cX11_read 71 = .ok (.iload_n 2, 1) := by decide +kernel
theorem dX11_read_72 : decode cX11_read 72 = .ok (.invokevirtual 124, 3) := by decide +kernel
theorem dX11_read_75 : decode cX11_read 75 = .ok (.invokevirtual 127, 3) := by decide +kernel
theorem dX11_read_78 : decode cX11_read 78 = .ok (.invokevirtual 91, 3) := by decide +kernel
theorem dX11_read_81 : decode cX11_read 81 = .ok (.pop, 1) := by decide +kernel
theorem dX11_read_82 : decode cX11_read 82 = .ok (.iinc 2 1, 3) := by decide +kernel
theorem dX11_read_85 : decode cX11_read 85 = .ok (.goto (-43), 3) := by decide +kernel
theorem dX11_read_88 : decode cX11_read 88 = .ok (.aload_n 0, 1) := by decide +kernel
theorem dX11_read_89 : decode cX11_read 89 = .ok (.getfield 10, 3) := by decide +kernel
theorem dX11_read_92 : decode cX11_read 92 = .ok (.invokevirtual 131, 3) := by decide +kernel
theorem dX11_read_95 : decode cX11_read 95 = .ok (.ireturn, 1) := by decide +kernel
theorem dX11_lay_0 : decode cX11_lay 0 = .ok (.iload_n 1, 1) := by decide +kernel
theorem dX11_lay_1 : decode cX11_lay 1 = .ok (.ifCond .lt 21, 3) := by decide +kernel
theorem dX11_lay_4 : decode cX11_lay 4 = .ok (.iload_n 1, 1) := by decide +kernel
theorem dX11_lay_5 : decode cX11_lay 5 = .ok (.aload_n 0, 1) := by decide +kernel
theorem dX11_lay_6 : decode cX11_lay 6 = .ok (.getfield 10, 3) := by decide +kernel
theorem dX11_lay_9 : decode cX11_lay 9 = .ok (.invokevirtual 83, 3) := by decide +kernel
theorem dX11_lay_12 : decode cX11_lay 12 = .ok (.if_icmp .gt 10, 3) := by decide +kernel
theorem dX11_lay_15 : decode cX11_lay 15 = .ok (.iload_n 2, 1) := by decide +kernel
theorem dX11_lay_16 : decode cX11_lay 16 = .ok (.invokestatic 134, 3) := by decide +kernel
theorem dX11_lay_19 : decode cX11_lay 19 = .ok (.ifCond .ne 5, 3) := by decide +kernel
theorem dX11_lay_22 : decode cX11_lay 22 = .ok (.iconst (-1), 1) := by decide +kernel
theorem dX11_lay_23 : decode cX11_lay 23 = .ok (.ireturn, 1) := by decide +kernel
theorem dX11_lay_24 : decode cX11_lay 24 = .ok (.aload_n 0, 1) := by decide +kernel
theorem dX11_lay_25 : decode cX11_lay 25 = .ok (.iload_n 2, 1) := by decide +kernel
theorem dX11_lay_26 : decode cX11_lay 26 = .ok (.iconst 0, 1) := by decide +kernel
theorem dX11_lay_27 : decode cX11_lay 27 = .ok (.invokevirtual 137, 3) := by decide +kernel
theorem dX11_lay_30 : decode cX11_lay 30 = .ok (.istore 4, 2) := by decide +kernel
theorem dX11_lay_32 : decode cX11_lay 32 = .ok (.iload 4, 2) := by decide +kernel
theorem dX11_lay_34 : decode cX11_lay 34 = .ok (.ifCond .ge 6, 3) := by decide +kernel
theorem dX11_lay_37 : decode cX11_lay 37 = .ok (.iload 4, 2) := by decide +kernel
theorem dX11_lay_39 : decode cX11_lay 39 = .ok (.ireturn, 1) := by decide +kernel
theorem dX11_lay_40 : decode cX11_lay 40 = .ok (.aload_n 0, 1) := by decide +kernel
theorem dX11_lay_41 : decode cX11_lay 41 = .ok (.getfield 73, 3) := by decide +kernel
theorem dX11_lay_44 : decode cX11_lay 44 = .ok (.iload_n 2, 1) := by decide +kernel
theorem dX11_lay_45 : decode cX11_lay 45 = .ok (.aaload, 1) := by decide +kernel
theorem dX11_lay_46 : decode cX11_lay 46 = .ok (.astore 5, 2) := by decide +kernel
theorem dX11_lay_48 : decode cX11_lay 48 = .ok (.iload_n 3, 1) := by decide +kernel
theorem dX11_lay_49 : decode cX11_lay 49 = .ok (.ifCond .lt 12, 3) := by decide +kernel
theorem dX11_lay_52 : decode cX11_lay 52 = .ok (.iload_n 3, 1) := by decide +kernel
theorem dX11_lay_53 : decode cX11_lay 53 = .ok (.aload 5, 2) := by decide +kernel
theorem dX11_lay_55 : decode cX11_lay 55 = .ok (.getfield 141, 3) := by decide +kernel
theorem dX11_lay_58 : decode cX11_lay 58 = .ok (.if_icmp .le 6, 3) := by decide +kernel
theorem dX11_lay_61 : decode cX11_lay 61 = .ok (.bipush (-13), 2) := by decide +kernel
theorem dX11_lay_63 : decode cX11_lay 63 = .ok (.ireturn, 1) := by decide +kernel
theorem dX11_lay_64 : decode cX11_lay 64 = .ok (.aload 5, 2) := by decide +kernel
theorem dX11_lay_66 : decode cX11_lay 66 = .ok (.getfield 141, 3) := by decide +kernel
theorem dX11_lay_69 : decode cX11_lay 69 = .ok (.iload_n 3, 1) := by decide +kernel
theorem dX11_lay_70 : decode cX11_lay 70 = .ok (.isub, 1) := by decide +kernel
theorem dX11_lay_71 : decode cX11_lay 71 = .ok (.istore 6, 2) := by decide +kernel
theorem dX11_lay_73 : decode cX11_lay 73 = .ok (.iload 6, 2) := by decide +kernel
theorem dX11_lay_75 : decode cX11_lay 75 = .ok (.aload_n 0, 1) := by decide +kernel
theorem dX11_lay_76 : decode cX11_lay 76 = .ok (.getfield 10, 3) := by decide +kernel
theorem dX11_lay_79 : decode cX11_lay 79 = .ok (.invokevirtual 83, 3) := by decide +kernel
theorem dX11_lay_82 : decode cX11_lay 82 = .ok (.iload_n 1, 1) := by decide +kernel
theorem dX11_lay_83 : decode cX11_lay 83 = .ok (.isub, 1) := by decide +kernel
theorem dX11_lay_84 : decode cX11_lay 84 = .ok (.if_icmp .le 5, 3) := by decide +kernel
theorem dX11_lay_87 : decode cX11_lay 87 = .ok (.iconst (-1), 1) := by decide +kernel
theorem dX11_lay_88 : decode cX11_lay 88 = .ok (.ireturn, 1) := by decide +kernel
theorem dX11_lay_89 : decode cX11_lay 89 = .ok (.iconst 0, 1) := by decide +kernel
theorem dX11_lay_90 : decode cX11_lay 90 = .ok (.istore 7, 2) := by decide +kernel
theorem dX11_lay_92 : decode cX11_lay 92 = .ok (.iload 7, 2) := by decide +kernel
theorem dX11_lay_94 : decode cX11_lay 94 = .ok (.iload 6, 2) := by decide +kernel
theorem dX11_lay_96 : decode cX11_lay 96 = .ok (.if_icmp .ge 36, 3) := by decide +kernel
theorem dX11_lay_99 : decode cX11_lay 99 = .ok (.aload_n 0, 1) := by decide +kernel
theorem dX11_lay_100 : decode cX11_lay 100 = .ok (.iload_n 1, 1) := by decide +kernel
theorem dX11_lay_101 : decode cX11_lay 101 = .ok (.iload 7, 2) := by decide +kernel
theorem dX11_lay_103 : decode cX11_lay 103 = .ok (.iadd, 1) := by decide +kernel
theorem dX11_lay_104 : decode cX11_lay 104 = .ok (.aload 5, 2) := by decide +kernel
theorem dX11_lay_106 : decode cX11_lay 106 = .ok (.getfield 142, 3) := by decide +kernel
theorem dX11_lay_109 : decode cX11_lay 109 = .ok (.iload_n 3, 1) := by decide +kernel
theorem dX11_lay_110 : decode cX11_lay 110 = .ok (.iload 7, 2) := by decide +kernel
theorem dX11_lay_112 : decode cX11_lay 112 = .ok (.iadd, 1) := by decide +kernel
theorem dX11_lay_113 : decode cX11_lay 113 = .ok (.iaload, 1) := by decide +kernel
theorem dX11_lay_114 : decode cX11_lay 114 = .ok (.ifCond .eq 7, 3) := by decide +kernel
theorem dX11_lay_117 : decode cX11_lay 117 = .ok (.iconst 1, 1) := by decide +kernel
theorem dX11_lay_118 : decode cX11_lay 118 = .ok (.goto 4, 3) := by decide +kernel
theorem dX11_lay_121 : decode cX11_lay 121 = .ok (.iconst 0, 1) := by decide +kernel
theorem dX11_lay_122 : decode cX11_lay 122 = .ok (.invokevirtual 91, 3) := by decide +kernel
theorem dX11_lay_125 : decode cX11_lay 125 = .ok (.pop, 1) := by decide +kernel
theorem dX11_lay_126 : decode cX11_lay 126 = .ok (.iinc 7 1, 3) := by decide +kernel
theorem dX11_lay_129 : decode cX11_lay 129 = .ok (.goto (-37), 3) := by decide +kernel
theorem dX11_lay_132 : decode cX11_lay 132 = .ok (.iload 6, 2) := by decide +kernel
theorem dX11_lay_134 : decode cX11_lay 134 = .ok (.ireturn, 1) := by decide +kernel
theorem dX11_count_0 : decode cX11_count 0 = .ok (.iload_n 1, 1) := by decide +kernel
theorem dX11_count_1 : decode cX11_count 1 = .ok (.tableswitch 110 0 7 #[47, 55, 63, 71, 79, 87, 96, 105], 47) := by decide +kernel
theorem dX11_count_48 : decode cX11_count 48 = .ok (.aload_n 0, 1) := by decide +kernel
theorem dX11_count_49 : decode cX11_count 49 = .ok (.getfield 10, 3) := by decide +kernel
theorem dX11_count_52 : decode cX11_count 52 = .ok (.getfield 146, 3) := by decide +kernel
theorem dX11_count_55 : decode cX11_count 55 = .ok (.ireturn, 1) := by decide +kernel
theorem dX11_count_56 : decode cX11_count 56 = .ok (.aload_n 0, 1) := by decide +kernel
theorem dX11_count_57 : decode cX11_count 57 = .ok (.getfield 10, 3) := by decide +kernel
theorem dX11_count_60 : decode cX11_count 60 = .ok (.getfield 149, 3) := by decide +kernel
theorem dX11_count_63 : decode cX11_count 63 = .ok (.ireturn, 1) := by decide +kernel
theorem dX11_count_64 : decode cX11_count 64 = .ok (.aload_n 0, 1) := by decide +kernel
theorem dX11_count_65 : decode cX11_count 65 = .ok (.getfield 10, 3) := by decide +kernel
theorem dX11_count_68 : decode cX11_count 68 = .ok (.invokevirtual 131, 3) := by decide +kernel
theorem dX11_count_71 : decode cX11_count 71 = .ok (.ireturn, 1) := by decide +kernel
theorem dX11_count_72 : decode cX11_count 72 = .ok (.aload_n 0, 1) := by decide +kernel
theorem dX11_count_73 : decode cX11_count 73 = .ok (.getfield 10, 3) := by decide +kernel
theorem dX11_count_76 : decode cX11_count 76 = .ok (.invokevirtual 152, 3) := by decide +kernel
theorem dX11_count_79 : decode cX11_count 79 = .ok (.ireturn, 1) := by decide +kernel
theorem dX11_count_80 : decode cX11_count 80 = .ok (.aload_n 0, 1) := by decide +kernel
theorem dX11_count_81 : decode cX11_count 81 = .ok (.getfield 10, 3) := by decide +kernel
theorem dX11_count_84 : decode cX11_count 84 = .ok (.invokevirtual 155, 3) := by decide +kernel
theorem dX11_count_87 : decode cX11_count 87 = .ok (.ireturn, 1) := by decide +kernel
theorem dX11_count_88 : decode cX11_count 88 = .ok (.aload_n 0, 1) := by decide +kernel
theorem dX11_count_89 : decode cX11_count 89 = .ok (.getfield 10, 3) := by decide +kernel
theorem dX11_count_92 : decode cX11_count 92 = .ok (.iconst 1, 1) := by decide +kernel
theorem dX11_count_93 : decode cX11_count 93 = .ok (.invokevirtual 158, 3) := by decide +kernel
theorem dX11_count_96 : decode cX11_count 96 = .ok (.ireturn, 1) := by decide +kernel
theorem dX11_count_97 : decode cX11_count 97 = .ok (.aload_n 0, 1) := by decide +kernel
theorem dX11_count_98 : decode cX11_count 98 = .ok (.getfield 10, 3) := by decide +kernel
theorem dX11_count_101 : decode cX11_count 101 = .ok (.iconst 2, 1) := by decide +kernel
theorem dX11_count_102 : decode cX11_count 102 = .ok (.invokevirtual 158, 3) := by decide +kernel
theorem dX11_count_105 : decode cX11_count 105 = .ok (.ireturn, 1) := by decide +kernel
theorem dX11_count_106 : decode cX11_count 106 = .ok (.aload_n 0, 1) := by decide +kernel
theorem dX11_count_107 : decode cX11_count 107 = .ok (.invokevirtual 161, 3) := by decide +kernel
theorem dX11_count_110 : decode cX11_count 110 = .ok (.ireturn, 1) := by decide +kernel
theorem dX11_count_111 : decode cX11_count 111 = .ok (.iconst (-1), 1) := by decide +kernel
theorem dX11_count_112 : decode cX11_count 112 = .ok (.ireturn, 1) := by decide +kernel
theorem dX11_want_0 : decode cX11_want 0 = .ok (.iload_n 2, 1) := by decide +kernel
theorem dX11_want_1 : decode cX11_want 1 = .ok (.ifCond .lt 19, 3) := by decide +kernel
theorem dX11_want_4 : decode cX11_want 4 = .ok (.iload_n 2, 1) := by decide +kernel
theorem dX11_want_5 : decode cX11_want 5 = .ok (.iconst 2, 1) := by decide +kernel
theorem dX11_want_6 : decode cX11_want 6 = .ok (.if_icmp .gt 14, 3) := by decide +kernel
theorem dX11_want_9 : decode cX11_want 9 = .ok (.aload_n 0, 1) := by decide +kernel
theorem dX11_want_10 : decode cX11_want 10 = .ok (.getfield 10, 3) := by decide +kernel
theorem dX11_want_13 : decode cX11_want 13 = .ok (.iload_n 1, 1) := by decide +kernel
theorem dX11_want_14 : decode cX11_want 14 = .ok (.invokevirtual 164, 3) := by decide +kernel
theorem dX11_want_17 : decode cX11_want 17 = .ok (.ifCond .ne 5, 3) := by decide +kernel
theorem dX11_want_20 : decode cX11_want 20 = .ok (.iconst (-1), 1) := by decide +kernel
theorem dX11_want_21 : decode cX11_want 21 = .ok (.ireturn, 1) := by decide +kernel
theorem dX11_want_22 : decode cX11_want 22 = .ok (.aload_n 0, 1) := by decide +kernel
theorem dX11_want_23 : decode cX11_want 23 = .ok (.getfield 10, 3) := by decide +kernel
theorem dX11_want_26 : decode cX11_want 26 = .ok (.getfield 167, 3) := by decide +kernel
theorem dX11_want_29 : decode cX11_want 29 = .ok (.iload_n 1, 1) := by decide +kernel
theorem dX11_want_30 : decode cX11_want 30 = .ok (.iaload, 1) := by decide +kernel
theorem dX11_want_31 : decode cX11_want 31 = .ok (.istore_n 3, 1) := by decide +kernel
theorem dX11_want_32 : decode cX11_want 32 = .ok (.aload_n 0, 1) := by decide +kernel
theorem dX11_want_33 : decode cX11_want 33 = .ok (.getfield 10, 3) := by decide +kernel
theorem dX11_want_36 : decode cX11_want 36 = .ok (.getfield 167, 3) := by decide +kernel
theorem dX11_want_39 : decode cX11_want 39 = .ok (.iload_n 1, 1) := by decide +kernel
theorem dX11_want_40 : decode cX11_want 40 = .ok (.iload_n 2, 1) := by decide +kernel
theorem dX11_want_41 : decode cX11_want 41 = .ok (.iastore, 1) := by decide +kernel
theorem dX11_want_42 : decode cX11_want 42 = .ok (.iload_n 3, 1) := by decide +kernel
theorem dX11_want_43 : decode cX11_want 43 = .ok (.iload_n 2, 1) := by decide +kernel
theorem dX11_want_44 : decode cX11_want 44 = .ok (.if_icmp .eq 10, 3) := by decide +kernel
theorem dX11_want_47 : decode cX11_want 47 = .ok (.aload_n 0, 1) := by decide +kernel
theorem dX11_want_48 : decode cX11_want 48 = .ok (.getfield 26, 3) := by decide +kernel
theorem dX11_want_51 : decode cX11_want 51 = .ok (.invokevirtual 170, 3) := by decide +kernel
theorem dX11_want_54 : decode cX11_want 54 = .ok (.iload_n 3, 1) := by decide +kernel
theorem dX11_want_55 : decode cX11_want 55 = .ok (.ireturn, 1) := by decide +kernel
theorem dX11_price_0 : decode cX11_price 0 = .ok (.iload_n 2, 1) := by decide +kernel
theorem dX11_price_1 : decode cX11_price 1 = .ok (.ifCond .lt 21, 3) := by decide +kernel
theorem dX11_price_4 : decode cX11_price 4 = .ok (.iload_n 2, 1) := by decide +kernel
theorem dX11_price_5 : decode cX11_price 5 = .ok (.sipush 999, 3) := by decide +kernel
theorem dX11_price_8 : decode cX11_price 8 = .ok (.if_icmp .gt 14, 3) := by decide +kernel
theorem dX11_price_11 : decode cX11_price 11 = .ok (.aload_n 0, 1) := by decide +kernel
theorem dX11_price_12 : decode cX11_price 12 = .ok (.getfield 10, 3) := by decide +kernel
theorem dX11_price_15 : decode cX11_price 15 = .ok (.iload_n 1, 1) := by decide +kernel
theorem dX11_price_16 : decode cX11_price 16 = .ok (.invokevirtual 164, 3) := by decide +kernel
theorem dX11_price_19 : decode cX11_price 19 = .ok (.ifCond .ne 5, 3) := by decide +kernel
theorem dX11_price_22 : decode cX11_price 22 = .ok (.iconst (-1), 1) := by decide +kernel
theorem dX11_price_23 : decode cX11_price 23 = .ok (.ireturn, 1) := by decide +kernel
theorem dX11_price_24 : decode cX11_price 24 = .ok (.aload_n 0, 1) := by decide +kernel
theorem dX11_price_25 : decode cX11_price 25 = .ok (.getfield 10, 3) := by decide +kernel
theorem dX11_price_28 : decode cX11_price 28 = .ok (.getfield 173, 3) := by decide +kernel
theorem dX11_price_31 : decode cX11_price 31 = .ok (.iload_n 1, 1) := by decide +kernel
theorem dX11_price_32 : decode cX11_price 32 = .ok (.iaload, 1) := by decide +kernel
theorem dX11_price_33 : decode cX11_price 33 = .ok (.istore_n 3, 1) := by decide +kernel
theorem dX11_price_34 : decode cX11_price 34 = .ok (.aload_n 0, 1) := by decide +kernel
theorem dX11_price_35 : decode cX11_price 35 = .ok (.getfield 10, 3) := by decide +kernel
theorem dX11_price_38 : decode cX11_price 38 = .ok (.getfield 173, 3) := by decide +kernel
theorem dX11_price_41 : decode cX11_price 41 = .ok (.iload_n 1, 1) := by decide +kernel
theorem dX11_price_42 : decode cX11_price 42 = .ok (.iload_n 2, 1) := by decide +kernel
theorem dX11_price_43 : decode cX11_price 43 = .ok (.iastore, 1) := by decide +kernel
theorem dX11_price_44 : decode cX11_price 44 = .ok (.iload_n 3, 1) := by decide +kernel
theorem dX11_price_45 : decode cX11_price 45 = .ok (.iload_n 2, 1) := by decide +kernel
theorem dX11_price_46 : decode cX11_price 46 = .ok (.if_icmp .eq 10, 3) := by decide +kernel
theorem dX11_price_49 : decode cX11_price 49 = .ok (.aload_n 0, 1) := by decide +kernel
theorem dX11_price_50 : decode cX11_price 50 = .ok (.getfield 26, 3) := by decide +kernel
theorem dX11_price_53 : decode cX11_price 53 = .ok (.invokevirtual 170, 3) := by decide +kernel
theorem dX11_price_56 : decode cX11_price 56 = .ok (.iload_n 3, 1) := by decide +kernel
theorem dX11_price_57 : decode cX11_price 57 = .ok (.ireturn, 1) := by decide +kernel
theorem dX11_pavings_0 : decode cX11_pavings 0 = .ok (.aload_n 0, 1) := by decide +kernel
theorem dX11_pavings_1 : decode cX11_pavings 1 = .ok (.getfield 26, 3) := by decide +kernel
theorem dX11_pavings_4 : decode cX11_pavings 4 = .ok (.aload_n 0, 1) := by decide +kernel
theorem dX11_pavings_5 : decode cX11_pavings 5 = .ok (.getfield 10, 3) := by decide +kernel
theorem dX11_pavings_8 : decode cX11_pavings 8 = .ok (.invokevirtual 176, 3) := by decide +kernel
theorem dX11_pavings_11 : decode cX11_pavings 11 = .ok (.lreturn, 1) := by decide +kernel
theorem dX11_share_0 : decode cX11_share 0 = .ok (.aload_n 0, 1) := by decide +kernel
theorem dX11_share_1 : decode cX11_share 1 = .ok (.getfield 10, 3) := by decide +kernel
theorem dX11_share_4 : decode cX11_share 4 = .ok (.iload_n 1, 1) := by decide +kernel
theorem dX11_share_5 : decode cX11_share 5 = .ok (.invokevirtual 164, 3) := by decide +kernel
theorem dX11_share_8 : decode cX11_share 8 = .ok (.ifCond .ne 7, 3) := by decide +kernel
theorem dX11_share_11 : decode cX11_share 11 = .ok (.ldc2_w 180, 3) := by decide +kernel
theorem dX11_share_14 : decode cX11_share 14 = .ok (.lreturn, 1) := by decide +kernel
theorem dX11_share_15 : decode cX11_share 15 = .ok (.aload_n 0, 1) := by decide +kernel
theorem dX11_share_16 : decode cX11_share 16 = .ok (.getfield 26, 3) := by decide +kernel
theorem dX11_share_19 : decode cX11_share 19 = .ok (.aload_n 0, 1) := by decide +kernel
theorem dX11_share_20 : decode cX11_share 20 = .ok (.getfield 10, 3) := by decide +kernel
theorem dX11_share_23 : decode cX11_share 23 = .ok (.invokevirtual 182, 3) := by decide +kernel
theorem dX11_share_26 : decode cX11_share 26 = .ok (.aload_n 0, 1) := by decide +kernel
theorem dX11_share_27 : decode cX11_share 27 = .ok (.getfield 26, 3) := by decide +kernel
theorem dX11_share_30 : decode cX11_share 30 = .ok (.getfield 186, 3) := by decide +kernel
theorem dX11_share_33 : decode cX11_share 33 = .ok (.iload_n 1, 1) := by decide +kernel
theorem dX11_share_34 : decode cX11_share 34 = .ok (.laload, 1) := by decide +kernel
theorem dX11_share_35 : decode cX11_share 35 = .ok (.lreturn, 1) := by decide +kernel
theorem dX11_sure_0 : decode cX11_sure 0 = .ok (.iload_n 1, 1) := by decide +kernel
theorem dX11_sure_1 : decode cX11_sure 1 = .ok (.ifCond .eq 10, 3) := by decide +kernel
theorem dX11_sure_4 : decode cX11_sure 4 = .ok (.iload_n 1, 1) := by decide +kernel
theorem dX11_sure_5 : decode cX11_sure 5 = .ok (.iconst 1, 1) := by decide +kernel
theorem dX11_sure_6 : decode cX11_sure 6 = .ok (.if_icmp .eq 5, 3) := by decide +kernel
theorem dX11_sure_9 : decode cX11_sure 9 = .ok (.iconst (-1), 1) := by decide +kernel
theorem dX11_sure_10 : decode cX11_sure 10 = .ok (.ireturn, 1) := by decide +kernel
theorem dX11_sure_11 : decode cX11_sure 11 = .ok (.aload_n 0, 1) := by decide +kernel
theorem dX11_sure_12 : decode cX11_sure 12 = .ok (.getfield 26, 3) := by decide +kernel
theorem dX11_sure_15 : decode cX11_sure 15 = .ok (.aload_n 0, 1) := by decide +kernel
theorem dX11_sure_16 : decode cX11_sure 16 = .ok (.getfield 10, 3) := by decide +kernel
theorem dX11_sure_19 : decode cX11_sure 19 = .ok (.invokevirtual 176, 3) := by decide +kernel
theorem dX11_sure_22 : decode cX11_sure 22 = .ok (.lstore_n 2, 1) := by decide +kernel
theorem dX11_sure_23 : decode cX11_sure 23 = .ok (.lload_n 2, 1) := by decide +kernel
theorem dX11_sure_24 : decode cX11_sure 24 = .ok (.lconst 0, 1) := by decide +kernel
theorem dX11_sure_25 : decode cX11_sure 25 = .ok (.lcmp, 1) := by decide +kernel
theorem dX11_sure_26 : decode cX11_sure 26 = .ok (.ifCond .ne 6, 3) := by decide +kernel
theorem dX11_sure_29 : decode cX11_sure 29 = .ok (.bipush (-4), 2) := by decide +kernel
theorem dX11_sure_31 : decode cX11_sure 31 = .ok (.ireturn, 1) := by decide +kernel
theorem dX11_sure_32 : decode cX11_sure 32 = .ok (.aload_n 0, 1) := by decide +kernel
theorem dX11_sure_33 : decode cX11_sure 33 = .ok (.getfield 26, 3) := by decide +kernel
theorem dX11_sure_36 : decode cX11_sure 36 = .ok (.aload_n 0, 1) := by decide +kernel
theorem dX11_sure_37 : decode cX11_sure 37 = .ok (.getfield 10, 3) := by decide +kernel
theorem dX11_sure_40 : decode cX11_sure 40 = .ok (.invokevirtual 182, 3) := by decide +kernel
theorem dX11_sure_43 : decode cX11_sure 43 = .ok (.aload_n 0, 1) := by decide +kernel
theorem dX11_sure_44 : decode cX11_sure 44 = .ok (.getfield 26, 3) := by decide +kernel
theorem dX11_sure_47 : decode cX11_sure 47 = .ok (.aload_n 0, 1) := by decide +kernel
theorem dX11_sure_48 : decode cX11_sure 48 = .ok (.getfield 10, 3) := by decide +kernel
theorem dX11_sure_51 : decode cX11_sure 51 = .ok (.iload_n 1, 1) := by decide +kernel
theorem dX11_sure_52 : decode cX11_sure 52 = .ok (.ifCond .ne 7, 3) := by decide +kernel
theorem dX11_sure_55 : decode cX11_sure 55 = .ok (.lload_n 2, 1) := by decide +kernel
theorem dX11_sure_56 : decode cX11_sure 56 = .ok (.goto 4, 3) := by decide +kernel
theorem dX11_sure_59 : decode cX11_sure 59 = .ok (.lconst 0, 1) := by decide +kernel
theorem dX11_sure_60 : decode cX11_sure 60 = .ok (.invokevirtual 190, 3) := by decide +kernel
theorem dX11_sure_63 : decode cX11_sure 63 = .ok (.ireturn, 1) := by decide +kernel
theorem dX11_place_0 : decode cX11_place 0 = .ok (.iload_n 1, 1) := by decide +kernel
theorem dX11_place_1 : decode cX11_place 1 = .ok (.invokestatic 194, 3) := by decide +kernel
theorem dX11_place_4 : decode cX11_place 4 = .ok (.ifCond .eq 25, 3) := by decide +kernel
theorem dX11_place_7 : decode cX11_place 7 = .ok (.lload_n 2, 1) := by decide +kernel
theorem dX11_place_8 : decode cX11_place 8 = .ok (.lconst 0, 1) := by decide +kernel
theorem dX11_place_9 : decode cX11_place 9 = .ok (.lcmp, 1) := by decide +kernel
theorem dX11_place_10 : decode cX11_place 10 = .ok (.ifCond .lt 19, 3) := by decide +kernel
theorem dX11_place_13 : decode cX11_place 13 = .ok (.lload_n 2, 1) := by decide +kernel
theorem dX11_place_14 : decode cX11_place 14 = .ok (.aload_n 0, 1) := by decide +kernel
theorem dX11_place_15 : decode cX11_place 15 = .ok (.getfield 26, 3) := by decide +kernel
theorem dX11_place_18 : decode cX11_place 18 = .ok (.aload_n 0, 1) := by decide +kernel
theorem dX11_place_19 : decode cX11_place 19 = .ok (.getfield 10, 3) := by decide +kernel
theorem dX11_place_22 : decode cX11_place 22 = .ok (.invokevirtual 176, 3) := by decide +kernel
theorem dX11_place_25 : decode cX11_place 25 = .ok (.lcmp, 1) := by decide +kernel
theorem dX11_place_26 : decode cX11_place 26 = .ok (.ifCond .lt 5, 3) := by decide +kernel
theorem dX11_place_29 : decode cX11_place 29 = .ok (.iconst (-1), 1) := by decide +kernel
theorem dX11_place_30 : decode cX11_place 30 = .ok (.ireturn, 1) := by decide +kernel
theorem dX11_place_31 : decode cX11_place 31 = .ok (.aload_n 0, 1) := by decide +kernel
theorem dX11_place_32 : decode cX11_place 32 = .ok (.getfield 26, 3) := by decide +kernel
theorem dX11_place_35 : decode cX11_place 35 = .ok (.aload_n 0, 1) := by decide +kernel
theorem dX11_place_36 : decode cX11_place 36 = .ok (.getfield 10, 3) := by decide +kernel
theorem dX11_place_39 : decode cX11_place 39 = .ok (.lload_n 2, 1) := by decide +kernel
theorem dX11_place_40 : decode cX11_place 40 = .ok (.aload_n 0, 1) := by decide +kernel
theorem dX11_place_41 : decode cX11_place 41 = .ok (.getfield 67, 3) := by decide +kernel
theorem dX11_place_44 : decode cX11_place 44 = .ok (.iload_n 1, 1) := by decide +kernel
theorem dX11_place_45 : decode cX11_place 45 = .ok (.aaload, 1) := by decide +kernel
theorem dX11_place_46 : decode cX11_place 46 = .ok (.invokevirtual 197, 3) := by decide +kernel
theorem dX11_place_49 : decode cX11_place 49 = .ok (.aload_n 0, 1) := by decide +kernel
theorem dX11_place_50 : decode cX11_place 50 = .ok (.getfield 10, 3) := by decide +kernel
theorem dX11_place_53 : decode cX11_place 53 = .ok (.invokevirtual 131, 3) := by decide +kernel
theorem dX11_place_56 : decode cX11_place 56 = .ok (.iconst 2, 1) := by decide +kernel
theorem dX11_place_57 : decode cX11_place 57 = .ok (.idiv, 1) := by decide +kernel
theorem dX11_place_58 : decode cX11_place 58 = .ok (.ireturn, 1) := by decide +kernel
theorem dX11_rank_0 : decode cX11_rank 0 = .ok (.aload_n 0, 1) := by decide +kernel
theorem dX11_rank_1 : decode cX11_rank 1 = .ok (.iload_n 1, 1) := by decide +kernel
theorem dX11_rank_2 : decode cX11_rank 2 = .ok (.invokevirtual 201, 3) := by decide +kernel
theorem dX11_rank_5 : decode cX11_rank 5 = .ok (.istore_n 2, 1) := by decide +kernel
theorem dX11_rank_6 : decode cX11_rank 6 = .ok (.iload_n 2, 1) := by decide +kernel
theorem dX11_rank_7 : decode cX11_rank 7 = .ok (.ifCond .ge 6, 3) := by decide +kernel
theorem dX11_rank_10 : decode cX11_rank 10 = .ok (.iload_n 2, 1) := by decide +kernel
theorem dX11_rank_11 : decode cX11_rank 11 = .ok (.i2l, 1) := by decide +kernel
theorem dX11_rank_12 : decode cX11_rank 12 = .ok (.lreturn, 1) := by decide +kernel
theorem dX11_rank_13 : decode cX11_rank 13 = .ok (.aload_n 0, 1) := by decide +kernel
theorem dX11_rank_14 : decode cX11_rank 14 = .ok (.getfield 26, 3) := by decide +kernel
theorem dX11_rank_17 : decode cX11_rank 17 = .ok (.aload_n 0, 1) := by decide +kernel
theorem dX11_rank_18 : decode cX11_rank 18 = .ok (.getfield 10, 3) := by decide +kernel
theorem dX11_rank_21 : decode cX11_rank 21 = .ok (.aload_n 0, 1) := by decide +kernel
theorem dX11_rank_22 : decode cX11_rank 22 = .ok (.getfield 67, 3) := by decide +kernel
theorem dX11_rank_25 : decode cX11_rank 25 = .ok (.iload_n 1, 1) := by decide +kernel
theorem dX11_rank_26 : decode cX11_rank 26 = .ok (.aaload, 1) := by decide +kernel
theorem dX11_rank_27 : decode cX11_rank 27 = .ok (.invokevirtual 204, 3) := by decide +kernel
theorem dX11_rank_30 : decode cX11_rank 30 = .ok (.lreturn, 1) := by decide +kernel
theorem dX11_brick_0 : decode cX11_brick 0 = .ok (.iload_n 1, 1) := by decide +kernel
theorem dX11_brick_1 : decode cX11_brick 1 = .ok (.invokestatic 194, 3) := by decide +kernel
theorem dX11_brick_4 : decode cX11_brick 4 = .ok (.ifCond .eq 14, 3) := by decide +kernel
theorem dX11_brick_7 : decode cX11_brick 7 = .ok (.aload_n 0, 1) := by decide +kernel
theorem dX11_brick_8 : decode cX11_brick 8 = .ok (.getfield 10, 3) := by decide +kernel
theorem dX11_brick_11 : decode cX11_brick 11 = .ok (.iload_n 2, 1) := by decide +kernel
theorem dX11_brick_12 : decode cX11_brick 12 = .ok (.invokevirtual 208, 3) := by decide +kernel
theorem dX11_brick_15 : decode cX11_brick 15 = .ok (.ifCond .ne 5, 3) := by decide +kernel
theorem dX11_brick_18 : decode cX11_brick 18 = .ok (.iconst (-1), 1) := by decide +kernel
theorem dX11_brick_19 : decode cX11_brick 19 = .ok (.ireturn, 1) := by decide +kernel
theorem dX11_brick_20 : decode cX11_brick 20 = .ok (.aload_n 0, 1) := by decide +kernel
theorem dX11_brick_21 : decode cX11_brick 21 = .ok (.getfield 67, 3) := by decide +kernel
theorem dX11_brick_24 : decode cX11_brick 24 = .ok (.iload_n 1, 1) := by decide +kernel
theorem dX11_brick_25 : decode cX11_brick 25 = .ok (.aaload, 1) := by decide +kernel
theorem dX11_brick_26 : decode cX11_brick 26 = .ok (.getfield 211, 3) := by decide +kernel
theorem dX11_brick_29 : decode cX11_brick 29 = .ok (.ifCond .eq 17, 3) := by decide +kernel
theorem dX11_brick_32 : decode cX11_brick 32 = .ok (.aload_n 0, 1) := by decide +kernel
theorem dX11_brick_33 : decode cX11_brick 33 = .ok (.getfield 67, 3) := by decide +kernel
theorem dX11_brick_36 : decode cX11_brick 36 = .ok (.iload_n 1, 1) := by decide +kernel
theorem dX11_brick_37 : decode cX11_brick 37 = .ok (.aaload, 1) := by decide +kernel
theorem dX11_brick_38 : decode cX11_brick 38 = .ok (.getfield 215, 3) := by decide +kernel
theorem dX11_brick_41 : decode cX11_brick 41 = .ok (.iload_n 2, 1) := by decide +kernel
theorem dX11_brick_42 : decode cX11_brick 42 = .ok (.iaload, 1) := by decide +kernel
theorem dX11_brick_43 : decode cX11_brick 43 = .ok (.goto 5, 3) := by decide +kernel
theorem dX11_brick_46 : decode cX11_brick 46 = .ok (.bipush (-4), 2) := by decide +kernel
theorem dX11_brick_48 : decode cX11_brick 48 = .ok (.ireturn, 1) := by decide +kernel
theorem dX11_cheapest_0 : decode cX11_cheapest 0 = .ok (.iload_n 1, 1) := by decide +kernel
theorem dX11_cheapest_1 : decode cX11_cheapest 1 = .ok (.invokestatic 194, 3) := by decide +kernel
theorem dX11_cheapest_4 : decode cX11_cheapest 4 = .ok (.ifCond .ne 5, 3) := by decide +kernel
theorem dX11_cheapest_7 : decode cX11_cheapest 7 = .ok (.iconst (-1), 1) := by decide +kernel
theorem dX11_cheapest_8 : decode cX11_cheapest 8 = .ok (.ireturn, 1) := by decide +kernel
theorem dX11_cheapest_9 : decode cX11_cheapest 9 = .ok (.aload_n 0, 1) := by decide +kernel
theorem dX11_cheapest_10 : decode cX11_cheapest 10 = .ok (.getfield 26, 3) := by decide +kernel
theorem dX11_cheapest_13 : decode cX11_cheapest 13 = .ok (.aload_n 0, 1) := by decide +kernel
theorem dX11_cheapest_14 : decode cX11_cheapest 14 = .ok (.getfield 10, 3) := by decide +kernel
theorem dX11_cheapest_17 : decode cX11_cheapest 17 = .ok (.invokevirtual 218, 3) := by decide +kernel
theorem dX11_cheapest_20 : decode cX11_cheapest 20 = .ok (.lstore_n 2, 1) := by decide +kernel
theorem dX11_cheapest_21 : decode cX11_cheapest 21 = .ok (.lload_n 2, 1) := by decide +kernel
theorem dX11_cheapest_22 : decode cX11_cheapest 22 = .ok (.ldc2_w 221, 3) := by decide +kernel
theorem dX11_cheapest_25 : decode cX11_cheapest 25 = .ok (.lcmp, 1) := by decide +kernel
theorem dX11_cheapest_26 : decode cX11_cheapest 26 = .ok (.ifCond .lt 6, 3) := by decide +kernel
theorem dX11_cheapest_29 : decode cX11_cheapest 29 = .ok (.bipush (-4), 2) := by decide +kernel
theorem dX11_cheapest_31 : decode cX11_cheapest 31 = .ok (.ireturn, 1) := by decide +kernel
theorem dX11_cheapest_32 : decode cX11_cheapest 32 = .ok (.aload_n 0, 1) := by decide +kernel
theorem dX11_cheapest_33 : decode cX11_cheapest 33 = .ok (.getfield 26, 3) := by decide +kernel
theorem dX11_cheapest_36 : decode cX11_cheapest 36 = .ok (.aload_n 0, 1) := by decide +kernel
theorem dX11_cheapest_37 : decode cX11_cheapest 37 = .ok (.getfield 10, 3) := by decide +kernel
theorem dX11_cheapest_40 : decode cX11_cheapest 40 = .ok (.aload_n 0, 1) := by decide +kernel
theorem dX11_cheapest_41 : decode cX11_cheapest 41 = .ok (.getfield 67, 3) := by decide +kernel
theorem dX11_cheapest_44 : decode cX11_cheapest 44 = .ok (.iload_n 1, 1) := by decide +kernel
theorem dX11_cheapest_45 : decode cX11_cheapest 45 = .ok (.aaload, 1) := by decide +kernel
theorem dX11_cheapest_46 : decode cX11_cheapest 46 = .ok (.invokevirtual 223, 3) := by decide +kernel
theorem dX11_cheapest_49 : decode cX11_cheapest 49 = .ok (.lload_n 2, 1) := by decide +kernel
theorem dX11_cheapest_50 : decode cX11_cheapest 50 = .ok (.l2i, 1) := by decide +kernel
theorem dX11_cheapest_51 : decode cX11_cheapest 51 = .ok (.ireturn, 1) := by decide +kernel
theorem dX11_cost_0 : decode cX11_cost 0 = .ok (.aload_n 0, 1) := by decide +kernel
theorem dX11_cost_1 : decode cX11_cost 1 = .ok (.iload_n 1, 1) := by decide +kernel
theorem dX11_cost_2 : decode cX11_cost 2 = .ok (.invokevirtual 201, 3) := by decide +kernel
theorem dX11_cost_5 : decode cX11_cost 5 = .ok (.istore_n 2, 1) := by decide +kernel
theorem dX11_cost_6 : decode cX11_cost 6 = .ok (.iload_n 2, 1) := by decide +kernel
theorem dX11_cost_7 : decode cX11_cost 7 = .ok (.ifCond .ge 7, 3) := by decide +kernel
theorem dX11_cost_10 : decode cX11_cost 10 = .ok (.iload_n 2, 1) := by decide +kernel
theorem dX11_cost_11 : decode cX11_cost 11 = .ok (.goto 16, 3) := by decide +kernel
theorem dX11_cost_14 : decode cX11_cost 14 = .ok (.aload_n 0, 1) := by decide +kernel
theorem dX11_cost_15 : decode cX11_cost 15 = .ok (.getfield 67, 3) := by decide +kernel
theorem dX11_cost_18 : decode cX11_cost 18 = .ok (.iload_n 1, 1) := by decide +kernel
theorem dX11_cost_19 : decode cX11_cost 19 = .ok (.aaload, 1) := by decide +kernel
theorem dX11_cost_20 : decode cX11_cost 20 = .ok (.aload_n 0, 1) := by decide +kernel
theorem dX11_cost_21 : decode cX11_cost 21 = .ok (.getfield 10, 3) := by decide +kernel
theorem dX11_cost_24 : decode cX11_cost 24 = .ok (.invokevirtual 227, 3) := by decide +kernel
theorem dX11_cost_27 : decode cX11_cost 27 = .ok (.ireturn, 1) := by decide +kernel
theorem dX11_keep_0 : decode cX11_keep 0 = .ok (.iload_n 1, 1) := by decide +kernel
theorem dX11_keep_1 : decode cX11_keep 1 = .ok (.invokestatic 194, 3) := by decide +kernel
theorem dX11_keep_4 : decode cX11_keep 4 = .ok (.ifCond .eq 10, 3) := by decide +kernel
theorem dX11_keep_7 : decode cX11_keep 7 = .ok (.iload_n 2, 1) := by decide +kernel
theorem dX11_keep_8 : decode cX11_keep 8 = .ok (.invokestatic 194, 3) := by decide +kernel
theorem dX11_keep_11 : decode cX11_keep 11 = .ok (.ifCond .ne 5, 3) := by decide +kernel
theorem dX11_keep_14 : decode cX11_keep 14 = .ok (.iconst (-1), 1) := by decide +kernel
theorem dX11_keep_15 : decode cX11_keep 15 = .ok (.ireturn, 1) := by decide +kernel
theorem dX11_keep_16 : decode cX11_keep 16 = .ok (.aload_n 0, 1) := by decide +kernel
theorem dX11_keep_17 : decode cX11_keep 17 = .ok (.getfield 67, 3) := by decide +kernel
theorem dX11_keep_20 : decode cX11_keep 20 = .ok (.iload_n 1, 1) := by decide +kernel
theorem dX11_keep_21 : decode cX11_keep 21 = .ok (.aaload, 1) := by decide +kernel
theorem dX11_keep_22 : decode cX11_keep 22 = .ok (.getfield 211, 3) := by decide +kernel
theorem dX11_keep_25 : decode cX11_keep 25 = .ok (.ifCond .ne 6, 3) := by decide +kernel
theorem dX11_keep_28 : decode cX11_keep 28 = .ok (.bipush (-4), 2) := by decide +kernel
theorem dX11_keep_30 : decode cX11_keep 30 = .ok (.ireturn, 1) := by decide +kernel
theorem dX11_keep_31 : decode cX11_keep 31 = .ok (.aload_n 0, 1) := by decide +kernel
theorem dX11_keep_32 : decode cX11_keep 32 = .ok (.getfield 67, 3) := by decide +kernel
theorem dX11_keep_35 : decode cX11_keep 35 = .ok (.iload_n 2, 1) := by decide +kernel
theorem dX11_keep_36 : decode cX11_keep 36 = .ok (.aaload, 1) := by decide +kernel
theorem dX11_keep_37 : decode cX11_keep 37 = .ok (.aload_n 0, 1) := by decide +kernel
theorem dX11_keep_38 : decode cX11_keep 38 = .ok (.getfield 67, 3) := by decide +kernel
theorem dX11_keep_41 : decode cX11_keep 41 = .ok (.iload_n 1, 1) := by decide +kernel
theorem dX11_keep_42 : decode cX11_keep 42 = .ok (.aaload, 1) := by decide +kernel
theorem dX11_keep_43 : decode cX11_keep 43 = .ok (.invokevirtual 231, 3) := by decide +kernel
theorem dX11_keep_46 : decode cX11_keep 46 = .ok (.iconst 1, 1) := by decide +kernel
theorem dX11_keep_47 : decode cX11_keep 47 = .ok (.ireturn, 1) := by decide +kernel
theorem dX11_bricks_0 : decode cX11_bricks 0 = .ok (.iload_n 1, 1) := by decide +kernel
theorem dX11_bricks_1 : decode cX11_bricks 1 = .ok (.invokestatic 194, 3) := by decide +kernel
theorem dX11_bricks_4 : decode cX11_bricks 4 = .ok (.ifCond .eq 20, 3) := by decide +kernel
theorem dX11_bricks_7 : decode cX11_bricks 7 = .ok (.iload_n 2, 1) := by decide +kernel
theorem dX11_bricks_8 : decode cX11_bricks 8 = .ok (.invokestatic 134, 3) := by decide +kernel
theorem dX11_bricks_11 : decode cX11_bricks 11 = .ok (.ifCond .eq 13, 3) := by decide +kernel
theorem dX11_bricks_14 : decode cX11_bricks 14 = .ok (.iload_n 3, 1) := by decide +kernel
theorem dX11_bricks_15 : decode cX11_bricks 15 = .ok (.iconst 1, 1) := by decide +kernel
theorem dX11_bricks_16 : decode cX11_bricks 16 = .ok (.if_icmp .eq 10, 3) := by decide +kernel
theorem dX11_bricks_19 : decode cX11_bricks 19 = .ok (.iload_n 3, 1) := by decide +kernel
theorem dX11_bricks_20 : decode cX11_bricks 20 = .ok (.iconst 2, 1) := by decide +kernel
theorem dX11_bricks_21 : decode cX11_bricks 21 = .ok (.if_icmp .eq 5, 3) := by decide +kernel
theorem dX11_bricks_24 : decode cX11_bricks 24 = .ok (.iconst (-1), 1) := by decide +kernel
theorem dX11_bricks_25 : decode cX11_bricks 25 = .ok (.ireturn, 1) := by decide +kernel
theorem dX11_bricks_26 : decode cX11_bricks 26 = .ok (.aload_n 0, 1) := by decide +kernel
theorem dX11_bricks_27 : decode cX11_bricks 27 = .ok (.iload_n 2, 1) := by decide +kernel
theorem dX11_bricks_28 : decode cX11_bricks 28 = .ok (.iload_n 3, 1) := by decide +kernel
theorem dX11_bricks_29 : decode cX11_bricks 29 = .ok (.invokevirtual 137, 3) := by decide +kernel
theorem dX11_bricks_32 : decode cX11_bricks 32 = .ok (.istore 4, 2) := by decide +kernel
theorem dX11_bricks_34 : decode cX11_bricks 34 = .ok (.iload 4, 2) := by decide +kernel
theorem dX11_bricks_36 : decode cX11_bricks 36 = .ok (.ifCond .ge 6, 3) := by decide +kernel
theorem dX11_bricks_39 : decode cX11_bricks 39 = .ok (.iload 4, 2) := by decide +kernel
theorem dX11_bricks_41 : decode cX11_bricks 41 = .ok (.ireturn, 1) := by decide +kernel
theorem dX11_bricks_42 : decode cX11_bricks 42 = .ok (.aload_n 0, 1) := by decide +kernel
theorem dX11_bricks_43 : decode cX11_bricks 43 = .ok (.getfield 67, 3) := by decide +kernel
