theorem dX12_share_1 : decode cX12_share 1 = .ok (.iload_n 1, 1) := by decide +kernel
theorem dX12_share_2 : decode cX12_share 2 = .ok (.invokevirtual 153, 3) := by decide +kernel
theorem dX12_share_5 : decode cX12_share 5 = .ok (.ifCond .eq 11, 3) := by decide +kernel
theorem dX12_share_8 : decode cX12_share 8 = .ok (.aload_n 0, 1) := by decide +kernel
theorem dX12_share_9 : decode cX12_share 9 = .ok (.iload_n 1, 1) := by decide +kernel
theorem dX12_share_10 : decode cX12_share 10 = .ok (.invokevirtual 177, 3) := by decide +kernel
theorem dX12_share_13 : decode cX12_share 13 = .ok (.goto 6, 3) := by decide +kernel
theorem dX12_share_16 : decode cX12_share 16 = .ok (.ldc2_w 181, 3) := by decide +kernel
theorem dX12_share_19 : decode cX12_share 19 = .ok (.lreturn, 1) := by decide +kernel
theorem dX12_sure_0 : decode cX12_sure 0 = .ok (.iload_n 1, 1) := by decide +kernel
theorem dX12_sure_1 : decode cX12_sure 1 = .ok (.i2l, 1) := by decide +kernel
theorem dX12_sure_2 : decode cX12_sure 2 = .ok (.lconst 0, 1) := by decide +kernel
theorem dX12_sure_3 : decode cX12_sure 3 = .ok (.lconst 1, 1) := by decide +kernel
theorem dX12_sure_4 : decode cX12_sure 4 = .ok (.invokestatic 100, 3) := by decide +kernel
theorem dX12_sure_7 : decode cX12_sure 7 = .ok (.ifCond .ne 5, 3) := by decide +kernel
theorem dX12_sure_10 : decode cX12_sure 10 = .ok (.iconst (-1), 1) := by decide +kernel
theorem dX12_sure_11 : decode cX12_sure 11 = .ok (.ireturn, 1) := by decide +kernel
theorem dX12_sure_12 : decode cX12_sure 12 = .ok (.aload_n 0, 1) := by decide +kernel
theorem dX12_sure_13 : decode cX12_sure 13 = .ok (.invokevirtual 183, 3) := by decide +kernel
theorem dX12_sure_16 : decode cX12_sure 16 = .ok (.lstore_n 2, 1) := by decide +kernel
theorem dX12_sure_17 : decode cX12_sure 17 = .ok (.lload_n 2, 1) := by decide +kernel
theorem dX12_sure_18 : decode cX12_sure 18 = .ok (.lconst 0, 1) := by decide +kernel
theorem dX12_sure_19 : decode cX12_sure 19 = .ok (.lcmp, 1) := by decide +kernel
theorem dX12_sure_20 : decode cX12_sure 20 = .ok (.ifCond .ne 6, 3) := by decide +kernel
theorem dX12_sure_23 : decode cX12_sure 23 = .ok (.bipush (-4), 2) := by decide +kernel
theorem dX12_sure_25 : decode cX12_sure 25 = .ok (.ireturn, 1) := by decide +kernel
theorem dX12_sure_26 : decode cX12_sure 26 = .ok (.iconst 0, 1) := by decide +kernel
theorem dX12_sure_27 : decode cX12_sure 27 = .ok (.istore 4, 2) := by decide +kernel
theorem dX12_sure_29 : decode cX12_sure 29 = .ok (.iconst 0, 1) := by decide +kernel
theorem dX12_sure_30 : decode cX12_sure 30 = .ok (.istore 5, 2) := by decide +kernel
theorem dX12_sure_32 : decode cX12_sure 32 = .ok (.iload 5, 2) := by decide +kernel
theorem dX12_sure_34 : decode cX12_sure 34 = .ok (.iconst 2, 1) := by decide +kernel
theorem dX12_sure_35 : decode cX12_sure 35 = .ok (.aload_n 0, 1) := by decide +kernel
theorem dX12_sure_36 : decode cX12_sure 36 = .ok (.getfield 88, 3) := by decide +kernel
theorem dX12_sure_39 : decode cX12_sure 39 = .ok (.imul, 1) := by decide +kernel
theorem dX12_sure_40 : decode cX12_sure 40 = .ok (.aload_n 0, 1) := by decide +kernel
theorem dX12_sure_41 : decode cX12_sure 41 = .ok (.getfield 92, 3) := by decide +kernel
theorem dX12_sure_44 : decode cX12_sure 44 = .ok (.imul, 1) := by decide +kernel
theorem dX12_sure_45 : decode cX12_sure 45 = .ok (.if_icmp .ge 47, 3) := by decide +kernel
theorem dX12_sure_48 : decode cX12_sure 48 = .ok (.iload 4, 2) := by decide +kernel
theorem dX12_sure_50 : decode cX12_sure 50 = .ok (.aload_n 0, 1) := by decide +kernel
theorem dX12_sure_51 : decode cX12_sure 51 = .ok (.iload 5, 2) := by decide +kernel
theorem dX12_sure_53 : decode cX12_sure 53 = .ok (.invokevirtual 153, 3) := by decide +kernel
theorem dX12_sure_56 : decode cX12_sure 56 = .ok (.ifCond .eq 26, 3) := by decide +kernel
theorem dX12_sure_59 : decode cX12_sure 59 = .ok (.aload_n 0, 1) := by decide +kernel
theorem dX12_sure_60 : decode cX12_sure 60 = .ok (.iload 5, 2) := by decide +kernel
theorem dX12_sure_62 : decode cX12_sure 62 = .ok (.invokevirtual 177, 3) := by decide +kernel
theorem dX12_sure_65 : decode cX12_sure 65 = .ok (.iload_n 1, 1) := by decide +kernel
theorem dX12_sure_66 : decode cX12_sure 66 = .ok (.ifCond .ne 7, 3) := by decide +kernel
theorem dX12_sure_69 : decode cX12_sure 69 = .ok (.lload_n 2, 1) := by decide +kernel
theorem dX12_sure_70 : decode cX12_sure 70 = .ok (.goto 4, 3) := by decide +kernel
theorem dX12_sure_73 : decode cX12_sure 73 = .ok (.lconst 0, 1) := by decide +kernel
theorem dX12_sure_74 : decode cX12_sure 74 = .ok (.lcmp, 1) := by decide +kernel
theorem dX12_sure_75 : decode cX12_sure 75 = .ok (.ifCond .ne 7, 3) := by decide +kernel
theorem dX12_sure_78 : decode cX12_sure 78 = .ok (.iconst 1, 1) := by decide +kernel
theorem dX12_sure_79 : decode cX12_sure 79 = .ok (.goto 4, 3) := by decide +kernel
theorem dX12_sure_82 : decode cX12_sure 82 = .ok (.iconst 0, 1) := by decide +kernel
theorem dX12_sure_83 : decode cX12_sure 83 = .ok (.iadd, 1) := by decide +kernel
theorem dX12_sure_84 : decode cX12_sure 84 = .ok (.istore 4, 2) := by decide +kernel
theorem dX12_sure_86 : decode cX12_sure 86 = .ok (.iinc 5 1, 3) := by decide +kernel
theorem dX12_sure_89 : decode cX12_sure 89 = .ok (.goto (-57), 3) := by decide +kernel
theorem dX12_sure_92 : decode cX12_sure 92 = .ok (.iload 4, 2) := by decide +kernel
theorem dX12_sure_94 : decode cX12_sure 94 = .ok (.ireturn, 1) := by decide +kernel
theorem dX12_isSlot_0 : decode cX12_isSlot 0 = .ok (.iload_n 0, 1) := by decide +kernel
theorem dX12_isSlot_1 : decode cX12_isSlot 1 = .ok (.i2l, 1) := by decide +kernel
theorem dX12_isSlot_2 : decode cX12_isSlot 2 = .ok (.lconst 0, 1) := by decide +kernel
theorem dX12_isSlot_3 : decode cX12_isSlot 3 = .ok (.ldc2_w 186, 3) := by decide +kernel
theorem dX12_isSlot_6 : decode cX12_isSlot 6 = .ok (.invokestatic 100, 3) := by decide +kernel
theorem dX12_isSlot_9 : decode cX12_isSlot 9 = .ok (.ireturn, 1) := by decide +kernel
theorem dX12_lays_0 : decode cX12_lays 0 = .ok (.aload_n 0, 1) := by decide +kernel
theorem dX12_lays_1 : decode cX12_lays 1 = .ok (.getfield 23, 3) := by decide +kernel
theorem dX12_lays_4 : decode cX12_lays 4 = .ok (.bipush 64, 2) := by decide +kernel
theorem dX12_lays_6 : decode cX12_lays 6 = .ok (.iload_n 1, 1) := by decide +kernel
theorem dX12_lays_7 : decode cX12_lays 7 = .ok (.imul, 1) := by decide +kernel
theorem dX12_lays_8 : decode cX12_lays 8 = .ok (.iload_n 2, 1) := by decide +kernel
theorem dX12_lays_9 : decode cX12_lays 9 = .ok (.iconst 2, 1) := by decide +kernel
theorem dX12_lays_10 : decode cX12_lays 10 = .ok (.idiv, 1) := by decide +kernel
theorem dX12_lays_11 : decode cX12_lays 11 = .ok (.iadd, 1) := by decide +kernel
theorem dX12_lays_12 : decode cX12_lays 12 = .ok (.iload_n 2, 1) := by decide +kernel
theorem dX12_lays_13 : decode cX12_lays 13 = .ok (.iastore, 1) := by decide +kernel
theorem dX12_lays_14 : decode cX12_lays 14 = .ok (.aload_n 0, 1) := by decide +kernel
theorem dX12_lays_15 : decode cX12_lays 15 = .ok (.getfield 23, 3) := by decide +kernel
theorem dX12_lays_18 : decode cX12_lays 18 = .ok (.bipush 64, 2) := by decide +kernel
theorem dX12_lays_20 : decode cX12_lays 20 = .ok (.iload_n 1, 1) := by decide +kernel
theorem dX12_lays_21 : decode cX12_lays 21 = .ok (.imul, 1) := by decide +kernel
theorem dX12_lays_22 : decode cX12_lays 22 = .ok (.aload_n 0, 1) := by decide +kernel
theorem dX12_lays_23 : decode cX12_lays 23 = .ok (.iload_n 2, 1) := by decide +kernel
theorem dX12_lays_24 : decode cX12_lays 24 = .ok (.invokevirtual 108, 3) := by decide +kernel
theorem dX12_lays_27 : decode cX12_lays 27 = .ok (.iadd, 1) := by decide +kernel
theorem dX12_lays_28 : decode cX12_lays 28 = .ok (.iload_n 2, 1) := by decide +kernel
theorem dX12_lays_29 : decode cX12_lays 29 = .ok (.iastore, 1) := by decide +kernel
theorem dX12_lays_30 : decode cX12_lays 30 = .ok (.return_, 1) := by decide +kernel
theorem dX12_place_0 : decode cX12_place 0 = .ok (.iload_n 1, 1) := by decide +kernel
theorem dX12_place_1 : decode cX12_place 1 = .ok (.invokestatic 188, 3) := by decide +kernel
theorem dX12_place_4 : decode cX12_place 4 = .ok (.ifCond .ne 5, 3) := by decide +kernel
theorem dX12_place_7 : decode cX12_place 7 = .ok (.iconst (-1), 1) := by decide +kernel
theorem dX12_place_8 : decode cX12_place 8 = .ok (.ireturn, 1) := by decide +kernel
theorem dX12_place_9 : decode cX12_place 9 = .ok (.aload_n 0, 1) := by decide +kernel
theorem dX12_place_10 : decode cX12_place 10 = .ok (.invokevirtual 183, 3) := by decide +kernel
theorem dX12_place_13 : decode cX12_place 13 = .ok (.lstore 4, 2) := by decide +kernel
theorem dX12_place_15 : decode cX12_place 15 = .ok (.lload_n 2, 1) := by decide +kernel
theorem dX12_place_16 : decode cX12_place 16 = .ok (.lconst 0, 1) := by decide +kernel
theorem dX12_place_17 : decode cX12_place 17 = .ok (.lcmp, 1) := by decide +kernel
theorem dX12_place_18 : decode cX12_place 18 = .ok (.ifCond .lt 10, 3) := by decide +kernel
theorem dX12_place_21 : decode cX12_place 21 = .ok (.lload_n 2, 1) := by decide +kernel
theorem dX12_place_22 : decode cX12_place 22 = .ok (.lload 4, 2) := by decide +kernel
theorem dX12_place_24 : decode cX12_place 24 = .ok (.lcmp, 1) := by decide +kernel
theorem dX12_place_25 : decode cX12_place 25 = .ok (.ifCond .lt 5, 3) := by decide +kernel
theorem dX12_place_28 : decode cX12_place 28 = .ok (.iconst (-1), 1) := by decide +kernel
theorem dX12_place_29 : decode cX12_place 29 = .ok (.ireturn, 1) := by decide +kernel
theorem dX12_place_30 : decode cX12_place 30 = .ok (.lload_n 2, 1) := by decide +kernel
theorem dX12_place_31 : decode cX12_place 31 = .ok (.lstore 6, 2) := by decide +kernel
theorem dX12_place_33 : decode cX12_place 33 = .ok (.iconst 0, 1) := by decide +kernel
theorem dX12_place_34 : decode cX12_place 34 = .ok (.istore 8, 2) := by decide +kernel
theorem dX12_place_36 : decode cX12_place 36 = .ok (.iconst 0, 1) := by decide +kernel
theorem dX12_place_37 : decode cX12_place 37 = .ok (.istore 9, 2) := by decide +kernel
theorem dX12_place_39 : decode cX12_place 39 = .ok (.iconst 0, 1) := by decide +kernel
theorem dX12_place_40 : decode cX12_place 40 = .ok (.istore 10, 2) := by decide +kernel
theorem dX12_place_42 : decode cX12_place 42 = .ok (.iload 10, 2) := by decide +kernel
theorem dX12_place_44 : decode cX12_place 44 = .ok (.aload_n 0, 1) := by decide +kernel
theorem dX12_place_45 : decode cX12_place 45 = .ok (.getfield 88, 3) := by decide +kernel
theorem dX12_place_48 : decode cX12_place 48 = .ok (.aload_n 0, 1) := by decide +kernel
theorem dX12_place_49 : decode cX12_place 49 = .ok (.getfield 92, 3) := by decide +kernel
theorem dX12_place_52 : decode cX12_place 52 = .ok (.imul, 1) := by decide +kernel
theorem dX12_place_53 : decode cX12_place 53 = .ok (.if_icmp .ge 146, 3) := by decide +kernel
theorem dX12_place_56 : decode cX12_place 56 = .ok (.aload_n 0, 1) := by decide +kernel
theorem dX12_place_57 : decode cX12_place 57 = .ok (.getfield 7, 3) := by decide +kernel
theorem dX12_place_60 : decode cX12_place 60 = .ok (.iload 10, 2) := by decide +kernel
theorem dX12_place_62 : decode cX12_place 62 = .ok (.baload, 1) := by decide +kernel
theorem dX12_place_63 : decode cX12_place 63 = .ok (.ifCond .eq 124, 3) := by decide +kernel
theorem dX12_place_66 : decode cX12_place 66 = .ok (.iload 8, 2) := by decide +kernel
theorem dX12_place_68 : decode cX12_place 68 = .ok (.iconst 1, 1) := by decide +kernel
theorem dX12_place_69 : decode cX12_place 69 = .ok (.iand, 1) := by decide +kernel
theorem dX12_place_70 : decode cX12_place 70 = .ok (.ifCond .ne 117, 3) := by decide +kernel
theorem dX12_place_73 : decode cX12_place 73 = .ok (.aload_n 0, 1) := by decide +kernel
theorem dX12_place_74 : decode cX12_place 74 = .ok (.iload 10, 2) := by decide +kernel
theorem dX12_place_76 : decode cX12_place 76 = .ok (.iload 8, 2) := by decide +kernel
theorem dX12_place_78 : decode cX12_place 78 = .ok (.invokevirtual 163, 3) := by decide +kernel
theorem dX12_place_81 : decode cX12_place 81 = .ok (.ifCond .eq 26, 3) := by decide +kernel
theorem dX12_place_84 : decode cX12_place 84 = .ok (.aload_n 0, 1) := by decide +kernel
theorem dX12_place_85 : decode cX12_place 85 = .ok (.getfield 35, 3) := by decide +kernel
theorem dX12_place_88 : decode cX12_place 88 = .ok (.sipush 256, 3) := by decide +kernel
theorem dX12_place_91 : decode cX12_place 91 = .ok (.iload 10, 2) := by decide +kernel
theorem dX12_place_93 : decode cX12_place 93 = .ok (.iconst 1, 1) := by decide +kernel
theorem dX12_place_94 : decode cX12_place 94 = .ok (.iadd, 1) := by decide +kernel
theorem dX12_place_95 : decode cX12_place 95 = .ok (.imul, 1) := by decide +kernel
theorem dX12_place_96 : decode cX12_place 96 = .ok (.iload 8, 2) := by decide +kernel
theorem dX12_place_98 : decode cX12_place 98 = .ok (.iconst 2, 1) := by decide +kernel
theorem dX12_place_99 : decode cX12_place 99 = .ok (.ior, 1) := by decide +kernel
theorem dX12_place_100 : decode cX12_place 100 = .ok (.iconst 1, 1) := by decide +kernel
theorem dX12_place_101 : decode cX12_place 101 = .ok (.ishr, 1) := by decide +kernel
theorem dX12_place_102 : decode cX12_place 102 = .ok (.iadd, 1) := by decide +kernel
theorem dX12_place_103 : decode cX12_place 103 = .ok (.laload, 1) := by decide +kernel
theorem dX12_place_104 : decode cX12_place 104 = .ok (.goto 4, 3) := by decide +kernel
theorem dX12_place_107 : decode cX12_place 107 = .ok (.lconst 0, 1) := by decide +kernel
theorem dX12_place_108 : decode cX12_place 108 = .ok (.lstore 11, 2) := by decide +kernel
theorem dX12_place_110 : decode cX12_place 110 = .ok (.lload 6, 2) := by decide +kernel
theorem dX12_place_112 : decode cX12_place 112 = .ok (.lload 11, 2) := by decide +kernel
theorem dX12_place_114 : decode cX12_place 114 = .ok (.lcmp, 1) := by decide +kernel
theorem dX12_place_115 : decode cX12_place 115 = .ok (.ifCond .ge 7, 3) := by decide +kernel
theorem dX12_place_118 : decode cX12_place 118 = .ok (.iconst 1, 1) := by decide +kernel
theorem dX12_place_119 : decode cX12_place 119 = .ok (.goto 4, 3) := by decide +kernel
theorem dX12_place_122 : decode cX12_place 122 = .ok (.iconst 0, 1) := by decide +kernel
theorem dX12_place_123 : decode cX12_place 123 = .ok (.istore 13, 2) := by decide +kernel
theorem dX12_place_125 : decode cX12_place 125 = .ok (.lload 6, 2) := by decide +kernel
theorem dX12_place_127 : decode cX12_place 127 = .ok (.iload 13, 2) := by decide +kernel
theorem dX12_place_129 : decode cX12_place 129 = .ok (.ifCond .eq 7, 3) := by decide +kernel
theorem dX12_place_132 : decode cX12_place 132 = .ok (.lconst 0, 1) := by decide +kernel
theorem dX12_place_133 : decode cX12_place 133 = .ok (.goto 5, 3) := by decide +kernel
theorem dX12_place_136 : decode cX12_place 136 = .ok (.lload 11, 2) := by decide +kernel
theorem dX12_place_138 : decode cX12_place 138 = .ok (.lsub, 1) := by decide +kernel
theorem dX12_place_139 : decode cX12_place 139 = .ok (.lstore 6, 2) := by decide +kernel
theorem dX12_place_141 : decode cX12_place 141 = .ok (.iload 8, 2) := by decide +kernel
theorem dX12_place_143 : decode cX12_place 143 = .ok (.iload 13, 2) := by decide +kernel
theorem dX12_place_145 : decode cX12_place 145 = .ok (.ifCond .eq 7, 3) := by decide +kernel
theorem dX12_place_148 : decode cX12_place 148 = .ok (.iconst 2, 1) := by decide +kernel
theorem dX12_place_149 : decode cX12_place 149 = .ok (.goto 9, 3) := by decide +kernel
theorem dX12_place_152 : decode cX12_place 152 = .ok (.iconst 1, 1) := by decide +kernel
theorem dX12_place_153 : decode cX12_place 153 = .ok (.aload_n 0, 1) := by decide +kernel
theorem dX12_place_154 : decode cX12_place 154 = .ok (.getfield 88, 3) := by decide +kernel
theorem dX12_place_157 : decode cX12_place 157 = .ok (.ishl, 1) := by decide +kernel
theorem dX12_place_158 : decode cX12_place 158 = .ok (.ior, 1) := by decide +kernel
theorem dX12_place_159 : decode cX12_place 159 = .ok (.istore 8, 2) := by decide +kernel
theorem dX12_place_161 : decode cX12_place 161 = .ok (.aload_n 0, 1) := by decide +kernel
theorem dX12_place_162 : decode cX12_place 162 = .ok (.iload_n 1, 1) := by decide +kernel
theorem dX12_place_163 : decode cX12_place 163 = .ok (.iload 13, 2) := by decide +kernel
theorem dX12_place_165 : decode cX12_place 165 = .ok (.ifCond .eq 10, 3) := by decide +kernel
theorem dX12_place_168 : decode cX12_place 168 = .ok (.iconst 2, 1) := by decide +kernel
theorem dX12_place_169 : decode cX12_place 169 = .ok (.iload 10, 2) := by decide +kernel
theorem dX12_place_171 : decode cX12_place 171 = .ok (.imul, 1) := by decide +kernel
theorem dX12_place_172 : decode cX12_place 172 = .ok (.goto 9, 3) := by decide +kernel
theorem dX12_place_175 : decode cX12_place 175 = .ok (.iconst 2, 1) := by decide +kernel
theorem dX12_place_176 : decode cX12_place 176 = .ok (.iload 10, 2) := by decide +kernel
theorem dX12_place_178 : decode cX12_place 178 = .ok (.imul, 1) := by decide +kernel
theorem dX12_place_179 : decode cX12_place 179 = .ok (.iconst 1, 1) := by decide +kernel
theorem dX12_place_180 : decode cX12_place 180 = .ok (.iadd, 1) := by decide +kernel
theorem dX12_place_181 : decode cX12_place 181 = .ok (.invokevirtual 191, 3) := by decide +kernel
theorem dX12_place_184 : decode cX12_place 184 = .ok (.iinc 9 1, 3) := by decide +kernel
theorem dX12_place_187 : decode cX12_place 187 = .ok (.iload 8, 2) := by decide +kernel
theorem dX12_place_189 : decode cX12_place 189 = .ok (.iconst 1, 1) := by decide +kernel
theorem dX12_place_190 : decode cX12_place 190 = .ok (.ishr, 1) := by decide +kernel
theorem dX12_place_191 : decode cX12_place 191 = .ok (.istore 8, 2) := by decide +kernel
theorem dX12_place_193 : decode cX12_place 193 = .ok (.iinc 10 1, 3) := by decide +kernel
theorem dX12_place_196 : decode cX12_place 196 = .ok (.goto (-154), 3) := by decide +kernel
theorem dX12_place_199 : decode cX12_place 199 = .ok (.aload_n 0, 1) := by decide +kernel
theorem dX12_place_200 : decode cX12_place 200 = .ok (.getfield 20, 3) := by decide +kernel
theorem dX12_place_203 : decode cX12_place 203 = .ok (.iload_n 1, 1) := by decide +kernel
theorem dX12_place_204 : decode cX12_place 204 = .ok (.iconst 1, 1) := by decide +kernel
theorem dX12_place_205 : decode cX12_place 205 = .ok (.bastore, 1) := by decide +kernel
theorem dX12_place_206 : decode cX12_place 206 = .ok (.iload 9, 2) := by decide +kernel
theorem dX12_place_208 : decode cX12_place 208 = .ok (.ireturn, 1) := by decide +kernel
theorem dX12_rank_0 : decode cX12_rank 0 = .ok (.iload_n 1, 1) := by decide +kernel
theorem dX12_rank_1 : decode cX12_rank 1 = .ok (.invokestatic 188, 3) := by decide +kernel
theorem dX12_rank_4 : decode cX12_rank 4 = .ok (.ifCond .ne 7, 3) := by decide +kernel
theorem dX12_rank_7 : decode cX12_rank 7 = .ok (.ldc2_w 181, 3) := by decide +kernel
theorem dX12_rank_10 : decode cX12_rank 10 = .ok (.lreturn, 1) := by decide +kernel
theorem dX12_rank_11 : decode cX12_rank 11 = .ok (.aload_n 0, 1) := by decide +kernel
theorem dX12_rank_12 : decode cX12_rank 12 = .ok (.getfield 20, 3) := by decide +kernel
theorem dX12_rank_15 : decode cX12_rank 15 = .ok (.iload_n 1, 1) := by decide +kernel
theorem dX12_rank_16 : decode cX12_rank 16 = .ok (.baload, 1) := by decide +kernel
theorem dX12_rank_17 : decode cX12_rank 17 = .ok (.ifCond .ne 7, 3) := by decide +kernel
theorem dX12_rank_20 : decode cX12_rank 20 = .ok (.ldc2_w 194, 3) := by decide +kernel
theorem dX12_rank_23 : decode cX12_rank 23 = .ok (.lreturn, 1) := by decide +kernel
theorem dX12_rank_24 : decode cX12_rank 24 = .ok (.aload_n 0, 1) := by decide +kernel
theorem dX12_rank_25 : decode cX12_rank 25 = .ok (.invokevirtual 183, 3) := by decide +kernel
theorem dX12_rank_28 : decode cX12_rank 28 = .ok (.lstore_n 2, 1) := by decide +kernel
theorem dX12_rank_29 : decode cX12_rank 29 = .ok (.lconst 0, 1) := by decide +kernel
theorem dX12_rank_30 : decode cX12_rank 30 = .ok (.lstore 4, 2) := by decide +kernel
theorem dX12_rank_32 : decode cX12_rank 32 = .ok (.iconst 0, 1) := by decide +kernel
theorem dX12_rank_33 : decode cX12_rank 33 = .ok (.istore 6, 2) := by decide +kernel
theorem dX12_rank_35 : decode cX12_rank 35 = .ok (.iconst 0, 1) := by decide +kernel
theorem dX12_rank_36 : decode cX12_rank 36 = .ok (.istore 7, 2) := by decide +kernel
theorem dX12_rank_38 : decode cX12_rank 38 = .ok (.iload 7, 2) := by decide +kernel
theorem dX12_rank_40 : decode cX12_rank 40 = .ok (.aload_n 0, 1) := by decide +kernel
theorem dX12_rank_41 : decode cX12_rank 41 = .ok (.getfield 88, 3) := by decide +kernel
theorem dX12_rank_44 : decode cX12_rank 44 = .ok (.aload_n 0, 1) := by decide +kernel
theorem dX12_rank_45 : decode cX12_rank 45 = .ok (.getfield 92, 3) := by decide +kernel
theorem dX12_rank_48 : decode cX12_rank 48 = .ok (.imul, 1) := by decide +kernel
theorem dX12_rank_49 : decode cX12_rank 49 = .ok (.if_icmp .ge 139, 3) := by decide +kernel
theorem dX12_rank_52 : decode cX12_rank 52 = .ok (.aload_n 0, 1) := by decide +kernel
theorem dX12_rank_53 : decode cX12_rank 53 = .ok (.getfield 7, 3) := by decide +kernel
theorem dX12_rank_56 : decode cX12_rank 56 = .ok (.iload 7, 2) := by decide +kernel
theorem dX12_rank_58 : decode cX12_rank 58 = .ok (.baload, 1) := by decide +kernel
theorem dX12_rank_59 : decode cX12_rank 59 = .ok (.ifCond .eq 117, 3) := by decide +kernel
theorem dX12_rank_62 : decode cX12_rank 62 = .ok (.iload 6, 2) := by decide +kernel
theorem dX12_rank_64 : decode cX12_rank 64 = .ok (.iconst 1, 1) := by decide +kernel
theorem dX12_rank_65 : decode cX12_rank 65 = .ok (.iand, 1) := by decide +kernel
theorem dX12_rank_66 : decode cX12_rank 66 = .ok (.ifCond .ne 110, 3) := by decide +kernel
theorem dX12_rank_69 : decode cX12_rank 69 = .ok (.aload_n 0, 1) := by decide +kernel
theorem dX12_rank_70 : decode cX12_rank 70 = .ok (.getfield 23, 3) := by decide +kernel
theorem dX12_rank_73 : decode cX12_rank 73 = .ok (.bipush 64, 2) := by decide +kernel
theorem dX12_rank_75 : decode cX12_rank 75 = .ok (.iload_n 1, 1) := by decide +kernel
theorem dX12_rank_76 : decode cX12_rank 76 = .ok (.imul, 1) := by decide +kernel
theorem dX12_rank_77 : decode cX12_rank 77 = .ok (.iload 7, 2) := by decide +kernel
theorem dX12_rank_79 : decode cX12_rank 79 = .ok (.iadd, 1) := by decide +kernel
theorem dX12_rank_80 : decode cX12_rank 80 = .ok (.iaload, 1) := by decide +kernel
theorem dX12_rank_81 : decode cX12_rank 81 = .ok (.istore 8, 2) := by decide +kernel
theorem dX12_rank_83 : decode cX12_rank 83 = .ok (.aload_n 0, 1) := by decide +kernel
theorem dX12_rank_84 : decode cX12_rank 84 = .ok (.getfield 32, 3) := by decide +kernel
theorem dX12_rank_87 : decode cX12_rank 87 = .ok (.iload 8, 2) := by decide +kernel
theorem dX12_rank_89 : decode cX12_rank 89 = .ok (.baload, 1) := by decide +kernel
theorem dX12_rank_90 : decode cX12_rank 90 = .ok (.ifCond .ne 7, 3) := by decide +kernel
theorem dX12_rank_93 : decode cX12_rank 93 = .ok (.ldc2_w 196, 3) := by decide +kernel
theorem dX12_rank_96 : decode cX12_rank 96 = .ok (.lreturn, 1) := by decide +kernel
theorem dX12_rank_97 : decode cX12_rank 97 = .ok (.iload 8, 2) := by decide +kernel
theorem dX12_rank_99 : decode cX12_rank 99 = .ok (.iconst 2, 1) := by decide +kernel
theorem dX12_rank_100 : decode cX12_rank 100 = .ok (.irem, 1) := by decide +kernel
theorem dX12_rank_101 : decode cX12_rank 101 = .ok (.ifCond .ne 7, 3) := by decide +kernel
theorem dX12_rank_104 : decode cX12_rank 104 = .ok (.iconst 1, 1) := by decide +kernel
theorem dX12_rank_105 : decode cX12_rank 105 = .ok (.goto 4, 3) := by decide +kernel
theorem dX12_rank_108 : decode cX12_rank 108 = .ok (.iconst 0, 1) := by decide +kernel
theorem dX12_rank_109 : decode cX12_rank 109 = .ok (.istore 9, 2) := by decide +kernel
theorem dX12_rank_111 : decode cX12_rank 111 = .ok (.lload 4, 2) := by decide +kernel
theorem dX12_rank_113 : decode cX12_rank 113 = .ok (.iload 9, 2) := by decide +kernel
theorem dX12_rank_115 : decode cX12_rank 115 = .ok (.ifCond .ne 37, 3) := by decide +kernel
theorem dX12_rank_118 : decode cX12_rank 118 = .ok (.aload_n 0, 1) := by decide +kernel
theorem dX12_rank_119 : decode cX12_rank 119 = .ok (.iload 7, 2) := by decide +kernel
theorem dX12_rank_121 : decode cX12_rank 121 = .ok (.iload 6, 2) := by decide +kernel
theorem dX12_rank_123 : decode cX12_rank 123 = .ok (.invokevirtual 163, 3) := by decide +kernel
theorem dX12_rank_126 : decode cX12_rank 126 = .ok (.ifCond .eq 26, 3) := by decide +kernel
theorem dX12_rank_129 : decode cX12_rank 129 = .ok (.aload_n 0, 1) := by decide +kernel
theorem dX12_rank_130 : decode cX12_rank 130 = .ok (.getfield 35, 3) := by decide +kernel
theorem dX12_rank_133 : decode cX12_rank 133 = .ok (.sipush 256, 3) := by decide +kernel
theorem dX12_rank_136 : decode cX12_rank 136 = .ok (.iload 7, 2) := by decide +kernel
theorem dX12_rank_138 : decode cX12_rank 138 = .ok (.iconst 1, 1) := by decide +kernel
theorem dX12_rank_139 : decode cX12_rank 139 = .ok (.iadd, 1) := by decide +kernel
theorem dX12_rank_140 : decode cX12_rank 140 = .ok (.imul, 1) := by decide +kernel
theorem dX12_rank_141 : decode cX12_rank 141 = .ok (.iload 6, 2) := by decide +kernel
theorem dX12_rank_143 : decode cX12_rank 143 = .ok (.iconst 2, 1) := by decide +kernel
theorem dX12_rank_144 : decode cX12_rank 144 = .ok (.ior, 1) := by decide +kernel
theorem dX12_rank_145 : decode cX12_rank 145 = .ok (.iconst 1, 1) := by decide +kernel
theorem dX12_rank_146 : decode cX12_rank 146 = .ok (.ishr, 1) := by decide +kernel
theorem dX12_rank_147 : decode cX12_rank 147 = .ok (.iadd, 1) := by decide +kernel
theorem dX12_rank_148 : decode cX12_rank 148 = .ok (.laload, 1) := by decide +kernel
theorem dX12_rank_149 : decode cX12_rank 149 = .ok (.goto 4, 3) := by decide +kernel
theorem dX12_rank_152 : decode cX12_rank 152 = .ok (.lconst 0, 1) := by decide +kernel
theorem dX12_rank_153 : decode cX12_rank 153 = .ok (.ladd, 1) := by decide +kernel
theorem dX12_rank_154 : decode cX12_rank 154 = .ok (.lstore 4, 2) := by decide +kernel
theorem dX12_rank_156 : decode cX12_rank 156 = .ok (.iload 6, 2) := by decide +kernel
theorem dX12_rank_158 : decode cX12_rank 158 = .ok (.iload 9, 2) := by decide +kernel
theorem dX12_rank_160 : decode cX12_rank 160 = .ok (.ifCond .eq 7, 3) := by decide +kernel
theorem dX12_rank_163 : decode cX12_rank 163 = .ok (.iconst 2, 1) := by decide +kernel
theorem dX12_rank_164 : decode cX12_rank 164 = .ok (.goto 9, 3) := by decide +kernel
theorem dX12_rank_167 : decode cX12_rank 167 = .ok (.iconst 1, 1) := by decide +kernel
theorem dX12_rank_168 : decode cX12_rank 168 = .ok (.aload_n 0, 1) := by decide +kernel
theorem dX12_rank_169 : decode cX12_rank 169 = .ok (.getfield 88, 3) := by decide +kernel
theorem dX12_rank_172 : decode cX12_rank 172 = .ok (.ishl, 1) := by decide +kernel
theorem dX12_rank_173 : decode cX12_rank 173 = .ok (.ior, 1) := by decide +kernel
theorem dX12_rank_174 : decode cX12_rank 174 = .ok (.istore 6, 2) := by decide +kernel
theorem dX12_rank_176 : decode cX12_rank 176 = .ok (.iload 6, 2) := by decide +kernel
theorem dX12_rank_178 : decode cX12_rank 178 = .ok (.iconst 1, 1) := by decide +kernel
theorem dX12_rank_179 : decode cX12_rank 179 = .ok (.ishr, 1) := by decide +kernel
theorem dX12_rank_180 : decode cX12_rank 180 = .ok (.istore 6, 2) := by decide +kernel
theorem dX12_rank_182 : decode cX12_rank 182 = .ok (.iinc 7 1, 3) := by decide +kernel
theorem dX12_rank_185 : decode cX12_rank 185 = .ok (.goto (-147), 3) := by decide +kernel
theorem dX12_rank_188 : decode cX12_rank 188 = .ok (.lload_n 2, 1) := by decide +kernel
theorem dX12_rank_189 : decode cX12_rank 189 = .ok (.lconst 0, 1) := by decide +kernel
theorem dX12_rank_190 : decode cX12_rank 190 = .ok (.lcmp, 1) := by decide +kernel
theorem dX12_rank_191 : decode cX12_rank 191 = .ok (.ifCond .le 8, 3) := by decide +kernel
theorem dX12_rank_194 : decode cX12_rank 194 = .ok (.lload 4, 2) := by decide +kernel
theorem dX12_rank_196 : decode cX12_rank 196 = .ok (.goto 6, 3) := by decide +kernel
theorem dX12_rank_199 : decode cX12_rank 199 = .ok (.ldc2_w 196, 3) := by decide +kernel
theorem dX12_rank_202 : decode cX12_rank 202 = .ok (.lreturn, 1) := by decide +kernel
theorem dX12_brick_0 : decode cX12_brick 0 = .ok (.iload_n 1, 1) := by decide +kernel
theorem dX12_brick_1 : decode cX12_brick 1 = .ok (.invokestatic 188, 3) := by decide +kernel
theorem dX12_brick_4 : decode cX12_brick 4 = .ok (.ifCond .eq 20, 3) := by decide +kernel
theorem dX12_brick_7 : decode cX12_brick 7 = .ok (.aload_n 0, 1) := by decide +kernel
theorem dX12_brick_8 : decode cX12_brick 8 = .ok (.iload_n 2, 1) := by decide +kernel
theorem dX12_brick_9 : decode cX12_brick 9 = .ok (.invokevirtual 116, 3) := by decide +kernel
theorem dX12_brick_12 : decode cX12_brick 12 = .ok (.ifCond .eq 12, 3) := by decide +kernel
theorem dX12_brick_15 : decode cX12_brick 15 = .ok (.aload_n 0, 1) := by decide +kernel
theorem dX12_brick_16 : decode cX12_brick 16 = .ok (.getfield 7, 3) := by decide +kernel
theorem dX12_brick_19 : decode cX12_brick 19 = .ok (.iload_n 2, 1) := by decide +kernel
theorem dX12_brick_20 : decode cX12_brick 20 = .ok (.baload, 1) := by decide +kernel
theorem dX12_brick_21 : decode cX12_brick 21 = .ok (.ifCond .ne 5, 3) := by decide +kernel
theorem dX12_brick_24 : decode cX12_brick 24 = .ok (.iconst (-1), 1) := by decide +kernel
theorem dX12_brick_25 : decode cX12_brick 25 = .ok (.ireturn, 1) := by decide +kernel
theorem dX12_brick_26 : decode cX12_brick 26 = .ok (.aload_n 0, 1) := by decide +kernel
theorem dX12_brick_27 : decode cX12_brick 27 = .ok (.getfield 20, 3) := by decide +kernel
theorem dX12_brick_30 : decode cX12_brick 30 = .ok (.iload_n 1, 1) := by decide +kernel
theorem dX12_brick_31 : decode cX12_brick 31 = .ok (.baload, 1) := by decide +kernel
theorem dX12_brick_32 : decode cX12_brick 32 = .ok (.ifCond .eq 17, 3) := by decide +kernel
theorem dX12_brick_35 : decode cX12_brick 35 = .ok (.aload_n 0, 1) := by decide +kernel
theorem dX12_brick_36 : decode cX12_brick 36 = .ok (.getfield 23, 3) := by decide +kernel
theorem dX12_brick_39 : decode cX12_brick 39 = .ok (.bipush 64, 2) := by decide +kernel
theorem dX12_brick_41 : decode cX12_brick 41 = .ok (.iload_n 1, 1) := by decide +kernel
theorem dX12_brick_42 : decode cX12_brick 42 = .ok (.imul, 1) := by decide +kernel
theorem dX12_brick_43 : decode cX12_brick 43 = .ok (.iload_n 2, 1) := by decide +kernel
theorem dX12_brick_44 : decode cX12_brick 44 = .ok (.iadd, 1) := by decide +kernel
theorem dX12_brick_45 : decode cX12_brick 45 = .ok (.iaload, 1) := by decide +kernel
theorem dX12_brick_46 : decode cX12_brick 46 = .ok (.goto 5, 3) := by decide +kernel
theorem dX12_brick_49 : decode cX12_brick 49 = .ok (.bipush (-4), 2) := by decide +kernel
theorem dX12_brick_51 : decode cX12_brick 51 = .ok (.ireturn, 1) := by decide +kernel
theorem dX12_sumBy_0 : decode cX12_sumBy 0 = .ok (.aload_n 0, 1) := by decide +kernel
theorem dX12_sumBy_1 : decode cX12_sumBy 1 = .ok (.getfield 39, 3) := by decide +kernel
theorem dX12_sumBy_4 : decode cX12_sumBy 4 = .ok (.sipush 256, 3) := by decide +kernel
theorem dX12_sumBy_7 : decode cX12_sumBy 7 = .ok (.iload_n 2, 1) := by decide +kernel
theorem dX12_sumBy_8 : decode cX12_sumBy 8 = .ok (.iconst 1, 1) := by decide +kernel
theorem dX12_sumBy_9 : decode cX12_sumBy 9 = .ok (.iadd, 1) := by decide +kernel
theorem dX12_sumBy_10 : decode cX12_sumBy 10 = .ok (.imul, 1) := by decide +kernel
theorem dX12_sumBy_11 : decode cX12_sumBy 11 = .ok (.iload_n 3, 1) := by decide +kernel
theorem dX12_sumBy_12 : decode cX12_sumBy 12 = .ok (.iconst 1, 1) := by decide +kernel
theorem dX12_sumBy_13 : decode cX12_sumBy 13 = .ok (.ishr, 1) := by decide +kernel
theorem dX12_sumBy_14 : decode cX12_sumBy 14 = .ok (.iadd, 1) := by decide +kernel
theorem dX12_sumBy_15 : decode cX12_sumBy 15 = .ok (.iaload, 1) := by decide +kernel
theorem dX12_sumBy_16 : decode cX12_sumBy 16 = .ok (.istore 4, 2) := by decide +kernel
theorem dX12_sumBy_18 : decode cX12_sumBy 18 = .ok (.aload_n 0, 1) := by decide +kernel
theorem dX12_sumBy_19 : decode cX12_sumBy 19 = .ok (.getfield 32, 3) := by decide +kernel
theorem dX12_sumBy_22 : decode cX12_sumBy 22 = .ok (.iload_n 1, 1) := by decide +kernel
theorem dX12_sumBy_23 : decode cX12_sumBy 23 = .ok (.baload, 1) := by decide +kernel
theorem dX12_sumBy_24 : decode cX12_sumBy 24 = .ok (.ifCond .eq 10, 3) := by decide +kernel
theorem dX12_sumBy_27 : decode cX12_sumBy 27 = .ok (.iload 4, 2) := by decide +kernel
theorem dX12_sumBy_29 : decode cX12_sumBy 29 = .ok (.ldc 198, 2) := by decide +kernel
theorem dX12_sumBy_31 : decode cX12_sumBy 31 = .ok (.if_icmp .lt 8, 3) := by decide +kernel
theorem dX12_sumBy_34 : decode cX12_sumBy 34 = .ok (.ldc 198, 2) := by decide +kernel
theorem dX12_sumBy_36 : decode cX12_sumBy 36 = .ok (.goto 12, 3) := by decide +kernel
theorem dX12_sumBy_39 : decode cX12_sumBy 39 = .ok (.aload_n 0, 1) := by decide +kernel
theorem dX12_sumBy_40 : decode cX12_sumBy 40 = .ok (.getfield 17, 3) := by decide +kernel
theorem dX12_sumBy_43 : decode cX12_sumBy 43 = .ok (.iload_n 1, 1) := by decide +kernel
theorem dX12_sumBy_44 : decode cX12_sumBy 44 = .ok (.iaload, 1) := by decide +kernel
theorem dX12_sumBy_45 : decode cX12_sumBy 45 = .ok (.iload 4, 2) := by decide +kernel
theorem dX12_sumBy_47 : decode cX12_sumBy 47 = .ok (.iadd, 1) := by decide +kernel
theorem dX12_sumBy_48 : decode cX12_sumBy 48 = .ok (.ireturn, 1) := by decide +kernel
theorem dX12_eastSum_0 : decode cX12_eastSum 0 = .ok (.iload_n 2, 1) := by decide +kernel
theorem dX12_eastSum_1 : decode cX12_eastSum 1 = .ok (.iconst 2, 1) := by decide +kernel
theorem dX12_eastSum_2 : decode cX12_eastSum 2 = .ok (.iand, 1) := by decide +kernel
theorem dX12_eastSum_3 : decode cX12_eastSum 3 = .ok (.ifCond .ne 17, 3) := by decide +kernel
theorem dX12_eastSum_6 : decode cX12_eastSum 6 = .ok (.aload_n 0, 1) := by decide +kernel
theorem dX12_eastSum_7 : decode cX12_eastSum 7 = .ok (.iconst 2, 1) := by decide +kernel
theorem dX12_eastSum_8 : decode cX12_eastSum 8 = .ok (.iload_n 1, 1) := by decide +kernel
theorem dX12_eastSum_9 : decode cX12_eastSum 9 = .ok (.imul, 1) := by decide +kernel
theorem dX12_eastSum_10 : decode cX12_eastSum 10 = .ok (.iload_n 1, 1) := by decide +kernel
theorem dX12_eastSum_11 : decode cX12_eastSum 11 = .ok (.iload_n 2, 1) := by decide +kernel
theorem dX12_eastSum_12 : decode cX12_eastSum 12 = .ok (.iconst 2, 1) := by decide +kernel
theorem dX12_eastSum_13 : decode cX12_eastSum 13 = .ok (.ior, 1) := by decide +kernel
theorem dX12_eastSum_14 : decode cX12_eastSum 14 = .ok (.invokevirtual 199, 3) := by decide +kernel
theorem dX12_eastSum_17 : decode cX12_eastSum 17 = .ok (.goto 5, 3) := by decide +kernel
theorem dX12_eastSum_20 : decode cX12_eastSum 20 = .ok (.ldc 198, 2) := by decide +kernel
theorem dX12_eastSum_22 : decode cX12_eastSum 22 = .ok (.ireturn, 1) := by decide +kernel
theorem dX12_sums_0 : decode cX12_sums 0 = .ok (.aload_n 0, 1) := by decide +kernel
theorem dX12_sums_1 : decode cX12_sums 1 = .ok (.getfield 88, 3) := by decide +kernel
theorem dX12_sums_4 : decode cX12_sums 4 = .ok (.aload_n 0, 1) := by decide +kernel
theorem dX12_sums_5 : decode cX12_sums 5 = .ok (.getfield 92, 3) := by decide +kernel
theorem dX12_sums_8 : decode cX12_sums 8 = .ok (.imul, 1) := by decide +kernel
theorem dX12_sums_9 : decode cX12_sums 9 = .ok (.istore_n 1, 1) := by decide +kernel
theorem dX12_sums_10 : decode cX12_sums 10 = .ok (.iconst 0, 1) := by decide +kernel
theorem dX12_sums_11 : decode cX12_sums 11 = .ok (.istore_n 2, 1) := by decide +kernel
theorem dX12_sums_12 : decode cX12_sums 12 = .ok (.iload_n 2, 1) := by decide +kernel
theorem dX12_sums_13 : decode cX12_sums 13 = .ok (.iconst 1, 1) := by decide +kernel
theorem dX12_sums_14 : decode cX12_sums 14 = .ok (.aload_n 0, 1) := by decide +kernel
theorem dX12_sums_15 : decode cX12_sums 15 = .ok (.getfield 88, 3) := by decide +kernel
theorem dX12_sums_18 : decode cX12_sums 18 = .ok (.ishl, 1) := by decide +kernel
theorem dX12_sums_19 : decode cX12_sums 19 = .ok (.if_icmp .ge 31, 3) := by decide +kernel
theorem dX12_sums_22 : decode cX12_sums 22 = .ok (.aload_n 0, 1) := by decide +kernel
theorem dX12_sums_23 : decode cX12_sums 23 = .ok (.getfield 39, 3) := by decide +kernel
theorem dX12_sums_26 : decode cX12_sums 26 = .ok (.sipush 256, 3) := by decide +kernel
theorem dX12_sums_29 : decode cX12_sums 29 = .ok (.iload_n 1, 1) := by decide +kernel
theorem dX12_sums_30 : decode cX12_sums 30 = .ok (.imul, 1) := by decide +kernel
theorem dX12_sums_31 : decode cX12_sums 31 = .ok (.iload_n 2, 1) := by decide +kernel
theorem dX12_sums_32 : decode cX12_sums 32 = .ok (.iadd, 1) := by decide +kernel
theorem dX12_sums_33 : decode cX12_sums 33 = .ok (.iload_n 2, 1) := by decide +kernel
theorem dX12_sums_34 : decode cX12_sums 34 = .ok (.ifCond .ne 7, 3) := by decide +kernel
theorem dX12_sums_37 : decode cX12_sums 37 = .ok (.iconst 0, 1) := by decide +kernel
theorem dX12_sums_38 : decode cX12_sums 38 = .ok (.goto 5, 3) := by decide +kernel
theorem dX12_sums_41 : decode cX12_sums 41 = .ok (.ldc 198, 2) := by decide +kernel
theorem dX12_sums_43 : decode cX12_sums 43 = .ok (.iastore, 1) := by decide +kernel
theorem dX12_sums_44 : decode cX12_sums 44 = .ok (.iinc 2 1, 3) := by decide +kernel
theorem dX12_sums_47 : decode cX12_sums 47 = .ok (.goto (-35), 3) := by decide +kernel
theorem dX12_sums_50 : decode cX12_sums 50 = .ok (.iload_n 1, 1) := by decide +kernel
theorem dX12_sums_51 : decode cX12_sums 51 = .ok (.iconst 1, 1) := by decide +kernel
theorem dX12_sums_52 : decode cX12_sums 52 = .ok (.isub, 1) := by decide +kernel
theorem dX12_sums_53 : decode cX12_sums 53 = .ok (.istore_n 2, 1) := by decide +kernel
theorem dX12_sums_54 : decode cX12_sums 54 = .ok (.iload_n 2, 1) := by decide +kernel
theorem dX12_sums_55 : decode cX12_sums 55 = .ok (.ifCond .lt 143, 3) := by decide +kernel
theorem dX12_sums_58 : decode cX12_sums 58 = .ok (.iconst 0, 1) := by decide +kernel
theorem dX12_sums_59 : decode cX12_sums 59 = .ok (.istore_n 3, 1) := by decide +kernel
theorem dX12_sums_60 : decode cX12_sums 60 = .ok (.iload_n 3, 1) := by decide +kernel
theorem dX12_sums_61 : decode cX12_sums 61 = .ok (.iconst 1, 1) := by decide +kernel
theorem dX12_sums_62 : decode cX12_sums 62 = .ok (.aload_n 0, 1) := by decide +kernel
theorem dX12_sums_63 : decode cX12_sums 63 = .ok (.getfield 88, 3) := by decide +kernel
theorem dX12_sums_66 : decode cX12_sums 66 = .ok (.ishl, 1) := by decide +kernel
theorem dX12_sums_67 : decode cX12_sums 67 = .ok (.if_icmp .ge 125, 3) := by decide +kernel
theorem dX12_sums_70 : decode cX12_sums 70 = .ok (.aload_n 0, 1) := by decide +kernel
theorem dX12_sums_71 : decode cX12_sums 71 = .ok (.getfield 7, 3) := by decide +kernel
theorem dX12_sums_74 : decode cX12_sums 74 = .ok (.iload_n 2, 1) := by decide +kernel
theorem dX12_sums_75 : decode cX12_sums 75 = .ok (.baload, 1) := by decide +kernel
theorem dX12_sums_76 : decode cX12_sums 76 = .ok (.ifCond .eq 10, 3) := by decide +kernel
theorem dX12_sums_79 : decode cX12_sums 79 = .ok (.iload_n 3, 1) := by decide +kernel
theorem dX12_sums_80 : decode cX12_sums 80 = .ok (.iconst 1, 1) := by decide +kernel
theorem dX12_sums_81 : decode cX12_sums 81 = .ok (.iand, 1) := by decide +kernel
theorem dX12_sums_82 : decode cX12_sums 82 = .ok (.iconst 1, 1) := by decide +kernel
theorem dX12_sums_83 : decode cX12_sums 83 = .ok (.if_icmp .ne 45, 3) := by decide +kernel
theorem dX12_sums_86 : decode cX12_sums 86 = .ok (.aload_n 0, 1) := by decide +kernel
theorem dX12_sums_87 : decode cX12_sums 87 = .ok (.getfield 7, 3) := by decide +kernel
theorem dX12_sums_90 : decode cX12_sums 90 = .ok (.iload_n 2, 1) := by decide +kernel
theorem dX12_sums_91 : decode cX12_sums 91 = .ok (.baload, 1) := by decide +kernel
theorem dX12_sums_92 : decode cX12_sums 92 = .ok (.ifCond .ne 15, 3) := by decide +kernel
theorem dX12_sums_95 : decode cX12_sums 95 = .ok (.iload_n 3, 1) := by decide +kernel
theorem dX12_sums_96 : decode cX12_sums 96 = .ok (.iconst 1, 1) := by decide +kernel
theorem dX12_sums_97 : decode cX12_sums 97 = .ok (.iand, 1) := by decide +kernel
theorem dX12_sums_98 : decode cX12_sums 98 = .ok (.iconst 1, 1) := by decide +kernel
theorem dX12_sums_99 : decode cX12_sums 99 = .ok (.if_icmp .ne 8, 3) := by decide +kernel
theorem dX12_sums_102 : decode cX12_sums 102 = .ok (.ldc 198, 2) := by decide +kernel
theorem dX12_sums_104 : decode cX12_sums 104 = .ok (.goto 19, 3) := by decide +kernel
theorem dX12_sums_107 : decode cX12_sums 107 = .ok (.aload_n 0, 1) := by decide +kernel
theorem dX12_sums_108 : decode cX12_sums 108 = .ok (.getfield 39, 3) := by decide +kernel
theorem dX12_sums_111 : decode cX12_sums 111 = .ok (.sipush 256, 3) := by decide +kernel
theorem dX12_sums_114 : decode cX12_sums 114 = .ok (.iload_n 2, 1) := by decide +kernel
theorem dX12_sums_115 : decode cX12_sums 115 = .ok (.iconst 1, 1) := by decide +kernel
theorem dX12_sums_116 : decode cX12_sums 116 = .ok (.iadd, 1) := by decide +kernel
theorem dX12_sums_117 : decode cX12_sums 117 = .ok (.imul, 1) := by decide +kernel
theorem dX12_sums_118 : decode cX12_sums 118 = .ok (.iload_n 3, 1) := by decide +kernel
theorem dX12_sums_119 : decode cX12_sums 119 = .ok (.iconst 1, 1) := by decide +kernel
theorem dX12_sums_120 : decode cX12_sums 120 = .ok (.ishr, 1) := by decide +kernel
theorem dX12_sums_121 : decode cX12_sums 121 = .ok (.iadd, 1) := by decide +kernel
theorem dX12_sums_122 : decode cX12_sums 122 = .ok (.iaload, 1) := by decide +kernel
theorem dX12_sums_123 : decode cX12_sums 123 = .ok (.istore 4, 2) := by decide +kernel
theorem dX12_sums_125 : decode cX12_sums 125 = .ok (.goto 47, 3) := by decide +kernel
theorem dX12_sums_128 : decode cX12_sums 128 = .ok (.aload_n 0, 1) := by decide +kernel
theorem dX12_sums_129 : decode cX12_sums 129 = .ok (.iload_n 2, 1) := by decide +kernel
theorem dX12_sums_130 : decode cX12_sums 130 = .ok (.iload_n 3, 1) := by decide +kernel
theorem dX12_sums_131 : decode cX12_sums 131 = .ok (.invokevirtual 203, 3) := by decide +kernel
theorem dX12_sums_134 : decode cX12_sums 134 = .ok (.istore 5, 2) := by decide +kernel
theorem dX12_sums_136 : decode cX12_sums 136 = .ok (.aload_n 0, 1) := by decide +kernel
theorem dX12_sums_137 : decode cX12_sums 137 = .ok (.iconst 2, 1) := by decide +kernel
theorem dX12_sums_138 : decode cX12_sums 138 = .ok (.iload_n 2, 1) := by decide +kernel
theorem dX12_sums_139 : decode cX12_sums 139 = .ok (.imul, 1) := by decide +kernel
theorem dX12_sums_140 : decode cX12_sums 140 = .ok (.iconst 1, 1) := by decide +kernel
theorem dX12_sums_141 : decode cX12_sums 141 = .ok (.iadd, 1) := by decide +kernel
theorem dX12_sums_142 : decode cX12_sums 142 = .ok (.iload_n 2, 1) := by decide +kernel
theorem dX12_sums_143 : decode cX12_sums 143 = .ok (.iload_n 3, 1) := by decide +kernel
theorem dX12_sums_144 : decode cX12_sums 144 = .ok (.iconst 1, 1) := by decide +kernel
theorem dX12_sums_145 : decode cX12_sums 145 = .ok (.aload_n 0, 1) := by decide +kernel
theorem dX12_sums_146 : decode cX12_sums 146 = .ok (.getfield 88, 3) := by decide +kernel
theorem dX12_sums_149 : decode cX12_sums 149 = .ok (.ishl, 1) := by decide +kernel
theorem dX12_sums_150 : decode cX12_sums 150 = .ok (.ior, 1) := by decide +kernel
theorem dX12_sums_151 : decode cX12_sums 151 = .ok (.invokevirtual 199, 3) := by decide +kernel
theorem dX12_sums_154 : decode cX12_sums 154 = .ok (.istore 6, 2) := by decide +kernel
theorem dX12_sums_156 : decode cX12_sums 156 = .ok (.iload 5, 2) := by decide +kernel
theorem dX12_sums_158 : decode cX12_sums 158 = .ok (.iload 6, 2) := by decide +kernel
theorem dX12_sums_160 : decode cX12_sums 160 = .ok (.if_icmp .gt 8, 3) := by decide +kernel
theorem dX12_sums_163 : decode cX12_sums 163 = .ok (.iload 5, 2) := by decide +kernel
theorem dX12_sums_165 : decode cX12_sums 165 = .ok (.goto 5, 3) := by decide +kernel
theorem dX12_sums_168 : decode cX12_sums 168 = .ok (.iload 6, 2) := by decide +kernel
theorem dX12_sums_170 : decode cX12_sums 170 = .ok (.istore 4, 2) := by decide +kernel
theorem dX12_sums_172 : decode cX12_sums 172 = .ok (.aload_n 0, 1) := by decide +kernel
theorem dX12_sums_173 : decode cX12_sums 173 = .ok (.getfield 39, 3) := by decide +kernel
theorem dX12_sums_176 : decode cX12_sums 176 = .ok (.sipush 256, 3) := by decide +kernel
theorem dX12_sums_179 : decode cX12_sums 179 = .ok (.iload_n 2, 1) := by decide +kernel
theorem dX12_sums_180 : decode cX12_sums 180 = .ok (.imul, 1) := by decide +kernel
theorem dX12_sums_181 : decode cX12_sums 181 = .ok (.iload_n 3, 1) := by decide +kernel
theorem dX12_sums_182 : decode cX12_sums 182 = .ok (.iadd, 1) := by decide +kernel
theorem dX12_sums_183 : decode cX12_sums 183 = .ok (.iload 4, 2) := by decide +kernel
theorem dX12_sums_185 : decode cX12_sums 185 = .ok (.iastore, 1) := by decide +kernel
theorem dX12_sums_186 : decode cX12_sums 186 = .ok (.iinc 3 1, 3) := by decide +kernel
theorem dX12_sums_189 : decode cX12_sums 189 = .ok (.goto (-129), 3) := by decide +kernel
theorem dX12_sums_192 : decode cX12_sums 192 = .ok (.iinc 2 (-1), 3) := by decide +kernel
theorem dX12_sums_195 : decode cX12_sums 195 = .ok (.goto (-141), 3) := by decide +kernel
theorem dX12_sums_198 : decode cX12_sums 198 = .ok (.return_, 1) := by decide +kernel
theorem dX12_cheapest_0 : decode cX12_cheapest 0 = .ok (.iload_n 1, 1) := by decide +kernel
theorem dX12_cheapest_1 : decode cX12_cheapest 1 = .ok (.invokestatic 188, 3) := by decide +kernel
theorem dX12_cheapest_4 : decode cX12_cheapest 4 = .ok (.ifCond .ne 5, 3) := by decide +kernel
theorem dX12_cheapest_7 : decode cX12_cheapest 7 = .ok (.iconst (-1), 1) := by decide +kernel
theorem dX12_cheapest_8 : decode cX12_cheapest 8 = .ok (.ireturn, 1) := by decide +kernel
theorem dX12_cheapest_9 : decode cX12_cheapest 9 = .ok (.aload_n 0, 1) := by decide +kernel
theorem dX12_cheapest_10 : decode cX12_cheapest 10 = .ok (.iconst 1, 1) := by decide +kernel
theorem dX12_cheapest_11 : decode cX12_cheapest 11 = .ok (.invokevirtual 169, 3) := by decide +kernel
theorem dX12_cheapest_14 : decode cX12_cheapest 14 = .ok (.aload_n 0, 1) := by decide +kernel
theorem dX12_cheapest_15 : decode cX12_cheapest 15 = .ok (.invokevirtual 207, 3) := by decide +kernel
theorem dX12_cheapest_18 : decode cX12_cheapest 18 = .ok (.aload_n 0, 1) := by decide +kernel
theorem dX12_cheapest_19 : decode cX12_cheapest 19 = .ok (.getfield 39, 3) := by decide +kernel
theorem dX12_cheapest_22 : decode cX12_cheapest 22 = .ok (.iconst 0, 1) := by decide +kernel
theorem dX12_cheapest_23 : decode cX12_cheapest 23 = .ok (.iaload, 1) := by decide +kernel
theorem dX12_cheapest_24 : decode cX12_cheapest 24 = .ok (.ldc 198, 2) := by decide +kernel
theorem dX12_cheapest_26 : decode cX12_cheapest 26 = .ok (.if_icmp .lt 6, 3) := by decide +kernel
theorem dX12_cheapest_29 : decode cX12_cheapest 29 = .ok (.bipush (-4), 2) := by decide +kernel
theorem dX12_cheapest_31 : decode cX12_cheapest 31 = .ok (.ireturn, 1) := by decide +kernel
theorem dX12_cheapest_32 : decode cX12_cheapest 32 = .ok (.iconst 0, 1) := by decide +kernel
theorem dX12_cheapest_33 : decode cX12_cheapest 33 = .ok (.istore_n 2, 1) := by decide +kernel
theorem dX12_cheapest_34 : decode cX12_cheapest 34 = .ok (.iconst 0, 1) := by decide +kernel
theorem dX12_cheapest_35 : decode cX12_cheapest 35 = .ok (.istore_n 3, 1) := by decide +kernel
theorem dX12_cheapest_36 : decode cX12_cheapest 36 = .ok (.iload_n 3, 1) := by decide +kernel
theorem dX12_cheapest_37 : decode cX12_cheapest 37 = .ok (.aload_n 0, 1) := by decide +kernel
theorem dX12_cheapest_38 : decode cX12_cheapest 38 = .ok (.getfield 88, 3) := by decide +kernel
theorem dX12_cheapest_41 : decode cX12_cheapest 41 = .ok (.aload_n 0, 1) := by decide +kernel
theorem dX12_cheapest_42 : decode cX12_cheapest 42 = .ok (.getfield 92, 3) := by decide +kernel
theorem dX12_cheapest_45 : decode cX12_cheapest 45 = .ok (.imul, 1) := by decide +kernel
theorem dX12_cheapest_46 : decode cX12_cheapest 46 = .ok (.if_icmp .ge 101, 3) := by decide +kernel
theorem dX12_cheapest_49 : decode cX12_cheapest 49 = .ok (.aload_n 0, 1) := by decide +kernel
theorem dX12_cheapest_50 : decode cX12_cheapest 50 = .ok (.getfield 7, 3) := by decide +kernel
theorem dX12_cheapest_53 : decode cX12_cheapest 53 = .ok (.iload_n 3, 1) := by decide +kernel
theorem dX12_cheapest_54 : decode cX12_cheapest 54 = .ok (.baload, 1) := by decide +kernel
theorem dX12_cheapest_55 : decode cX12_cheapest 55 = .ok (.ifCond .eq 82, 3) := by decide +kernel
theorem dX12_cheapest_58 : decode cX12_cheapest 58 = .ok (.iload_n 2, 1) := by decide +kernel
theorem dX12_cheapest_59 : decode cX12_cheapest 59 = .ok (.iconst 1, 1) := by decide +kernel
theorem dX12_cheapest_60 : decode cX12_cheapest 60 = .ok (.iand, 1) := by decide +kernel
theorem dX12_cheapest_61 : decode cX12_cheapest 61 = .ok (.ifCond .ne 76, 3) := by decide +kernel
theorem dX12_cheapest_64 : decode cX12_cheapest 64 = .ok (.aload_n 0, 1) := by decide +kernel
theorem dX12_cheapest_65 : decode cX12_cheapest 65 = .ok (.iload_n 3, 1) := by decide +kernel
theorem dX12_cheapest_66 : decode cX12_cheapest 66 = .ok (.iload_n 2, 1) := by decide +kernel
theorem dX12_cheapest_67 : decode cX12_cheapest 67 = .ok (.invokevirtual 203, 3) := by decide +kernel
theorem dX12_cheapest_70 : decode cX12_cheapest 70 = .ok (.aload_n 0, 1) := by decide +kernel
theorem dX12_cheapest_71 : decode cX12_cheapest 71 = .ok (.iconst 2, 1) := by decide +kernel
theorem dX12_cheapest_72 : decode cX12_cheapest 72 = .ok (.iload_n 3, 1) := by decide +kernel
theorem dX12_cheapest_73 : decode cX12_cheapest 73 = .ok (.imul, 1) := by decide +kernel
theorem dX12_cheapest_74 : decode cX12_cheapest 74 = .ok (.iconst 1, 1) := by decide +kernel
theorem dX12_cheapest_75 : decode cX12_cheapest 75 = .ok (.iadd, 1) := by decide +kernel
theorem dX12_cheapest_76 : decode cX12_cheapest 76 = .ok (.iload_n 3, 1) := by decide +kernel
theorem dX12_cheapest_77 : decode cX12_cheapest 77 = .ok (.iload_n 2, 1) := by decide +kernel
theorem dX12_cheapest_78 : decode cX12_cheapest 78 = .ok (.iconst 1, 1) := by decide +kernel
theorem dX12_cheapest_79 : decode cX12_cheapest 79 = .ok (.aload_n 0, 1) := by decide +kernel
theorem dX12_cheapest_80 : decode cX12_cheapest 80 = .ok (.getfield 88, 3) := by decide +kernel
theorem dX12_cheapest_83 : decode cX12_cheapest 83 = .ok (.ishl, 1) := by decide +kernel
theorem dX12_cheapest_84 : decode cX12_cheapest 84 = .ok (.ior, 1) := by decide +kernel
theorem dX12_cheapest_85 : decode cX12_cheapest 85 = .ok (.invokevirtual 199, 3) := by decide +kernel
theorem dX12_cheapest_88 : decode cX12_cheapest 88 = .ok (.if_icmp .gt 7, 3) := by decide +kernel
theorem dX12_cheapest_91 : decode cX12_cheapest 91 = .ok (.iconst 1, 1) := by decide +kernel
theorem dX12_cheapest_92 : decode cX12_cheapest 92 = .ok (.goto 4, 3) := by decide +kernel
theorem dX12_cheapest_95 : decode cX12_cheapest 95 = .ok (.iconst 0, 1) := by decide +kernel
theorem dX12_cheapest_96 : decode cX12_cheapest 96 = .ok (.istore 4, 2) := by decide +kernel
theorem dX12_cheapest_98 : decode cX12_cheapest 98 = .ok (.iload_n 2, 1) := by decide +kernel
theorem dX12_cheapest_99 : decode cX12_cheapest 99 = .ok (.iload 4, 2) := by decide +kernel
theorem dX12_cheapest_101 : decode cX12_cheapest 101 = .ok (.ifCond .eq 7, 3) := by decide +kernel
theorem dX12_cheapest_104 : decode cX12_cheapest 104 = .ok (.iconst 2, 1) := by decide +kernel
theorem dX12_cheapest_105 : decode cX12_cheapest 105 = .ok (.goto 9, 3) := by decide +kernel
theorem dX12_cheapest_108 : decode cX12_cheapest 108 = .ok (.iconst 1, 1) := by decide +kernel
theorem dX12_cheapest_109 : decode cX12_cheapest 109 = .ok (.aload_n 0, 1) := by decide +kernel
theorem dX12_cheapest_110 : decode cX12_cheapest 110 = .ok (.getfield 88, 3) := by decide +kernel
theorem dX12_cheapest_113 : decode cX12_cheapest 113 = .ok (.ishl, 1) := by decide +kernel
theorem dX12_cheapest_114 : decode cX12_cheapest 114 = .ok (.ior, 1) := by decide +kernel
theorem dX12_cheapest_115 : decode cX12_cheapest 115 = .ok (.istore_n 2, 1) := by decide +kernel
theorem dX12_cheapest_116 : decode cX12_cheapest 116 = .ok (.aload_n 0, 1) := by decide +kernel
theorem dX12_cheapest_117 : decode cX12_cheapest 117 = .ok (.iload_n 1, 1) := by decide +kernel
theorem dX12_cheapest_118 : decode cX12_cheapest 118 = .ok (.iload 4, 2) := by decide +kernel
theorem dX12_cheapest_120 : decode cX12_cheapest 120 = .ok (.ifCond .eq 9, 3) := by decide +kernel
theorem dX12_cheapest_123 : decode cX12_cheapest 123 = .ok (.iconst 2, 1) := by decide +kernel
theorem dX12_cheapest_124 : decode cX12_cheapest 124 = .ok (.iload_n 3, 1) := by decide +kernel
theorem dX12_cheapest_125 : decode cX12_cheapest 125 = .ok (.imul, 1) := by decide +kernel
theorem dX12_cheapest_126 : decode cX12_cheapest 126 = .ok (.goto 8, 3) := by decide +kernel
theorem dX12_cheapest_129 : decode cX12_cheapest 129 = .ok (.iconst 2, 1) := by decide +kernel
theorem dX12_cheapest_130 : decode cX12_cheapest 130 = .ok (.iload_n 3, 1) := by decide +kernel
theorem dX12_cheapest_131 : decode cX12_cheapest 131 = .ok (.imul, 1) := by decide +kernel
theorem dX12_cheapest_132 : decode cX12_cheapest 132 = .ok (.iconst 1, 1) := by decide +kernel
theorem dX12_cheapest_133 : decode cX12_cheapest 133 = .ok (.iadd, 1) := by decide +kernel
theorem dX12_cheapest_134 : decode cX12_cheapest 134 = .ok (.invokevirtual 191, 3) := by decide +kernel
theorem dX12_cheapest_137 : decode cX12_cheapest 137 = .ok (.iload_n 2, 1) := by decide +kernel
theorem dX12_cheapest_138 : decode cX12_cheapest 138 = .ok (.iconst 1, 1) := by decide +kernel
theorem dX12_cheapest_139 : decode cX12_cheapest 139 = .ok (.ishr, 1) := by decide +kernel
theorem dX12_cheapest_140 : decode cX12_cheapest 140 = .ok (.istore_n 2, 1) := by decide +kernel
theorem dX12_cheapest_141 : decode cX12_cheapest 141 = .ok (.iinc 3 1, 3) := by decide +kernel
theorem dX12_cheapest_144 : decode cX12_cheapest 144 = .ok (.goto (-108), 3) := by decide +kernel
theorem dX12_cheapest_147 : decode cX12_cheapest 147 = .ok (.aload_n 0, 1) := by decide +kernel
theorem dX12_cheapest_148 : decode cX12_cheapest 148 = .ok (.getfield 20, 3) := by decide +kernel
theorem dX12_cheapest_151 : decode cX12_cheapest 151 = .ok (.iload_n 1, 1) := by decide +kernel
theorem dX12_cheapest_152 : decode cX12_cheapest 152 = .ok (.iconst 1, 1) := by decide +kernel
theorem dX12_cheapest_153 : decode cX12_cheapest 153 = .ok (.bastore, 1) := by decide +kernel
theorem dX12_cheapest_154 : decode cX12_cheapest 154 = .ok (.aload_n 0, 1) := by decide +kernel
theorem dX12_cheapest_155 : decode cX12_cheapest 155 = .ok (.getfield 39, 3) := by decide +kernel
theorem dX12_cheapest_158 : decode cX12_cheapest 158 = .ok (.iconst 0, 1) := by decide +kernel
theorem dX12_cheapest_159 : decode cX12_cheapest 159 = .ok (.iaload, 1) := by decide +kernel
theorem dX12_cheapest_160 : decode cX12_cheapest 160 = .ok (.ireturn, 1) := by decide +kernel
theorem dX12_cost_0 : decode cX12_cost 0 = .ok (.iload_n 1, 1) := by decide +kernel
theorem dX12_cost_1 : decode cX12_cost 1 = .ok (.invokestatic 188, 3) := by decide +kernel
theorem dX12_cost_4 : decode cX12_cost 4 = .ok (.ifCond .ne 5, 3) := by decide +kernel
theorem dX12_cost_7 : decode cX12_cost 7 = .ok (.iconst (-1), 1) := by decide +kernel
theorem dX12_cost_8 : decode cX12_cost 8 = .ok (.ireturn, 1) := by decide +kernel
theorem dX12_cost_9 : decode cX12_cost 9 = .ok (.aload_n 0, 1) := by decide +kernel
theorem dX12_cost_10 : decode cX12_cost 10 = .ok (.getfield 20, 3) := by decide +kernel
theorem dX12_cost_13 : decode cX12_cost 13 = .ok (.iload_n 1, 1) := by decide +kernel
theorem dX12_cost_14 : decode cX12_cost 14 = .ok (.baload, 1) := by decide +kernel
theorem dX12_cost_15 : decode cX12_cost 15 = .ok (.ifCond .ne 6, 3) := by decide +kernel
theorem dX12_cost_18 : decode cX12_cost 18 = .ok (.bipush (-4), 2) := by decide +kernel
theorem dX12_cost_20 : decode cX12_cost 20 = .ok (.ireturn, 1) := by decide +kernel
theorem dX12_cost_21 : decode cX12_cost 21 = .ok (.iconst 0, 1) := by decide +kernel
theorem dX12_cost_22 : decode cX12_cost 22 = .ok (.istore_n 2, 1) := by decide +kernel
theorem dX12_cost_23 : decode cX12_cost 23 = .ok (.iconst 0, 1) := by decide +kernel
theorem dX12_cost_24 : decode cX12_cost 24 = .ok (.istore_n 3, 1) := by decide +kernel
theorem dX12_cost_25 : decode cX12_cost 25 = .ok (.iload_n 3, 1) := by decide +kernel
theorem dX12_cost_26 : decode cX12_cost 26 = .ok (.aload_n 0, 1) := by decide +kernel
theorem dX12_cost_27 : decode cX12_cost 27 = .ok (.getfield 88, 3) := by decide +kernel
theorem dX12_cost_30 : decode cX12_cost 30 = .ok (.aload_n 0, 1) := by decide +kernel
theorem dX12_cost_31 : decode cX12_cost 31 = .ok (.getfield 92, 3) := by decide +kernel
theorem dX12_cost_34 : decode cX12_cost 34 = .ok (.imul, 1) := by decide +kernel
theorem dX12_cost_35 : decode cX12_cost 35 = .ok (.if_icmp .ge 53, 3) := by decide +kernel
theorem dX12_cost_38 : decode cX12_cost 38 = .ok (.aload_n 0, 1) := by decide +kernel
theorem dX12_cost_39 : decode cX12_cost 39 = .ok (.getfield 23, 3) := by decide +kernel
theorem dX12_cost_42 : decode cX12_cost 42 = .ok (.bipush 64, 2) := by decide +kernel
theorem dX12_cost_44 : decode cX12_cost 44 = .ok (.iload_n 1, 1) := by decide +kernel
theorem dX12_cost_45 : decode cX12_cost 45 = .ok (.imul, 1) := by decide +kernel
theorem dX12_cost_46 : decode cX12_cost 46 = .ok (.iload_n 3, 1) := by decide +kernel
theorem dX12_cost_47 : decode cX12_cost 47 = .ok (.iadd, 1) := by decide +kernel
theorem dX12_cost_48 : decode cX12_cost 48 = .ok (.iaload, 1) := by decide +kernel
theorem dX12_cost_49 : decode cX12_cost 49 = .ok (.istore 4, 2) := by decide +kernel
theorem dX12_cost_51 : decode cX12_cost 51 = .ok (.iload_n 2, 1) := by decide +kernel
theorem dX12_cost_52 : decode cX12_cost 52 = .ok (.aload_n 0, 1) := by decide +kernel
theorem dX12_cost_53 : decode cX12_cost 53 = .ok (.getfield 7, 3) := by decide +kernel
theorem dX12_cost_56 : decode cX12_cost 56 = .ok (.iload_n 3, 1) := by decide +kernel
theorem dX12_cost_57 : decode cX12_cost 57 = .ok (.baload, 1) := by decide +kernel
theorem dX12_cost_58 : decode cX12_cost 58 = .ok (.ifCond .eq 21, 3) := by decide +kernel
theorem dX12_cost_61 : decode cX12_cost 61 = .ok (.iload 4, 2) := by decide +kernel
theorem dX12_cost_63 : decode cX12_cost 63 = .ok (.iconst 2, 1) := by decide +kernel
theorem dX12_cost_64 : decode cX12_cost 64 = .ok (.idiv, 1) := by decide +kernel
theorem dX12_cost_65 : decode cX12_cost 65 = .ok (.iload_n 3, 1) := by decide +kernel
theorem dX12_cost_66 : decode cX12_cost 66 = .ok (.if_icmp .ne 13, 3) := by decide +kernel
theorem dX12_cost_69 : decode cX12_cost 69 = .ok (.aload_n 0, 1) := by decide +kernel
theorem dX12_cost_70 : decode cX12_cost 70 = .ok (.getfield 17, 3) := by decide +kernel
theorem dX12_cost_73 : decode cX12_cost 73 = .ok (.iload 4, 2) := by decide +kernel
theorem dX12_cost_75 : decode cX12_cost 75 = .ok (.iaload, 1) := by decide +kernel
theorem dX12_cost_76 : decode cX12_cost 76 = .ok (.goto 4, 3) := by decide +kernel
theorem dX12_cost_79 : decode cX12_cost 79 = .ok (.iconst 0, 1) := by decide +kernel
theorem dX12_cost_80 : decode cX12_cost 80 = .ok (.iadd, 1) := by decide +kernel
theorem dX12_cost_81 : decode cX12_cost 81 = .ok (.istore_n 2, 1) := by decide +kernel
theorem dX12_cost_82 : decode cX12_cost 82 = .ok (.iinc 3 1, 3) := by decide +kernel
theorem dX12_cost_85 : decode cX12_cost 85 = .ok (.goto (-60), 3) := by decide +kernel
theorem dX12_cost_88 : decode cX12_cost 88 = .ok (.iload_n 2, 1) := by decide +kernel
theorem dX12_cost_89 : decode cX12_cost 89 = .ok (.ireturn, 1) := by decide +kernel
theorem dX12_keep_0 : decode cX12_keep 0 = .ok (.iload_n 1, 1) := by decide +kernel
theorem dX12_keep_1 : decode cX12_keep 1 = .ok (.invokestatic 188, 3) := by decide +kernel
theorem dX12_keep_4 : decode cX12_keep 4 = .ok (.ifCond .eq 10, 3) := by decide +kernel
theorem dX12_keep_7 : decode cX12_keep 7 = .ok (.iload_n 2, 1) := by decide +kernel
theorem dX12_keep_8 : decode cX12_keep 8 = .ok (.invokestatic 188, 3) := by decide +kernel
theorem dX12_keep_11 : decode cX12_keep 11 = .ok (.ifCond .ne 5, 3) := by decide +kernel
theorem dX12_keep_14 : decode cX12_keep 14 = .ok (.iconst (-1), 1) := by decide +kernel
theorem dX12_keep_15 : decode cX12_keep 15 = .ok (.ireturn, 1) := by decide +kernel
theorem dX12_keep_16 : decode cX12_keep 16 = .ok (.aload_n 0, 1) := by decide +kernel
theorem dX12_keep_17 : decode cX12_keep 17 = .ok (.getfield 20, 3) := by decide +kernel
theorem dX12_keep_20 : decode cX12_keep 20 = .ok (.iload_n 1, 1) := by decide +kernel
theorem dX12_keep_21 : decode cX12_keep 21 = .ok (.baload, 1) := by decide +kernel
theorem dX12_keep_22 : decode cX12_keep 22 = .ok (.ifCond .ne 6, 3) := by decide +kernel
theorem dX12_keep_25 : decode cX12_keep 25 = .ok (.bipush (-4), 2) := by decide +kernel
theorem dX12_keep_27 : decode cX12_keep 27 = .ok (.ireturn, 1) := by decide +kernel
theorem dX12_keep_28 : decode cX12_keep 28 = .ok (.iconst 0, 1) := by decide +kernel
theorem dX12_keep_29 : decode cX12_keep 29 = .ok (.istore_n 3, 1) := by decide +kernel
theorem dX12_keep_30 : decode cX12_keep 30 = .ok (.iload_n 3, 1) := by decide +kernel
theorem dX12_keep_31 : decode cX12_keep 31 = .ok (.bipush 64, 2) := by decide +kernel
theorem dX12_keep_33 : decode cX12_keep 33 = .ok (.if_icmp .ge 31, 3) := by decide +kernel
theorem dX12_keep_36 : decode cX12_keep 36 = .ok (.aload_n 0, 1) := by decide +kernel
theorem dX12_keep_37 : decode cX12_keep 37 = .ok (.getfield 23, 3) := by decide +kernel
theorem dX12_keep_40 : decode cX12_keep 40 = .ok (.bipush 64, 2) := by decide +kernel
theorem dX12_keep_42 : decode cX12_keep 42 = .ok (.iload_n 2, 1) := by decide +kernel
theorem dX12_keep_43 : decode cX12_keep 43 = .ok (.imul, 1) := by decide +kernel
theorem dX12_keep_44 : decode cX12_keep 44 = .ok (.iload_n 3, 1) := by decide +kernel
theorem dX12_keep_45 : decode cX12_keep 45 = .ok (.iadd, 1) := by decide +kernel
theorem dX12_keep_46 : decode cX12_keep 46 = .ok (.aload_n 0, 1) := by decide +kernel
theorem dX12_keep_47 : decode cX12_keep 47 = .ok (.getfield 23, 3) := by decide +kernel
theorem dX12_keep_50 : decode cX12_keep 50 = .ok (.bipush 64, 2) := by decide +kernel
theorem dX12_keep_52 : decode cX12_keep 52 = .ok (.iload_n 1, 1) := by decide +kernel
theorem dX12_keep_53 : decode cX12_keep 53 = .ok (.imul, 1) := by decide +kernel
theorem dX12_keep_54 : decode cX12_keep 54 = .ok (.iload_n 3, 1) := by decide +kernel
theorem dX12_keep_55 : decode cX12_keep 55 = .ok (.iadd, 1) := by decide +kernel
theorem dX12_keep_56 : decode cX12_keep 56 = .ok (.iaload, 1) := by decide +kernel
theorem dX12_keep_57 : decode cX12_keep 57 = .ok (.iastore, 1) := by decide +kernel
theorem dX12_keep_58 : decode cX12_keep 58 = .ok (.iinc 3 1, 3) := by decide +kernel
theorem dX12_keep_61 : decode cX12_keep 61 = .ok (.goto (-31), 3) := by decide +kernel
theorem dX12_keep_64 : decode cX12_keep 64 = .ok (.aload_n 0, 1) := by decide +kernel
theorem dX12_keep_65 : decode cX12_keep 65 = .ok (.getfield 20, 3) := by decide +kernel
theorem dX12_keep_68 : decode cX12_keep 68 = .ok (.iload_n 2, 1) := by decide +kernel
theorem dX12_keep_69 : decode cX12_keep 69 = .ok (.iconst 1, 1) := by decide +kernel
theorem dX12_keep_70 : decode cX12_keep 70 = .ok (.bastore, 1) := by decide +kernel
theorem dX12_keep_71 : decode cX12_keep 71 = .ok (.iconst 1, 1) := by decide +kernel
theorem dX12_keep_72 : decode cX12_keep 72 = .ok (.ireturn, 1) := by decide +kernel
theorem dX12_bricks_0 : decode cX12_bricks 0 = .ok (.iload_n 1, 1) := by decide +kernel
theorem dX12_bricks_1 : decode cX12_bricks 1 = .ok (.invokestatic 188, 3) := by decide +kernel
theorem dX12_bricks_4 : decode cX12_bricks 4 = .ok (.ifCond .eq 22, 3) := by decide +kernel
theorem dX12_bricks_7 : decode cX12_bricks 7 = .ok (.iload_n 2, 1) := by decide +kernel
theorem dX12_bricks_8 : decode cX12_bricks 8 = .ok (.invokestatic 143, 3) := by decide +kernel
theorem dX12_bricks_11 : decode cX12_bricks 11 = .ok (.ifCond .eq 15, 3) := by decide +kernel
theorem dX12_bricks_14 : decode cX12_bricks 14 = .ok (.iload_n 3, 1) := by decide +kernel
theorem dX12_bricks_15 : decode cX12_bricks 15 = .ok (.i2l, 1) := by decide +kernel
theorem dX12_bricks_16 : decode cX12_bricks 16 = .ok (.lconst 1, 1) := by decide +kernel
theorem dX12_bricks_17 : decode cX12_bricks 17 = .ok (.ldc2_w 156, 3) := by decide +kernel
theorem dX12_bricks_20 : decode cX12_bricks 20 = .ok (.invokestatic 100, 3) := by decide +kernel
theorem dX12_bricks_23 : decode cX12_bricks 23 = .ok (.ifCond .ne 5, 3) := by decide +kernel
theorem dX12_bricks_26 : decode cX12_bricks 26 = .ok (.iconst (-1), 1) := by decide +kernel
theorem dX12_bricks_27 : decode cX12_bricks 27 = .ok (.ireturn, 1) := by decide +kernel
theorem dX12_bricks_28 : decode cX12_bricks 28 = .ok (.aload_n 0, 1) := by decide +kernel
theorem dX12_bricks_29 : decode cX12_bricks 29 = .ok (.iload_n 2, 1) := by decide +kernel
theorem dX12_bricks_30 : decode cX12_bricks 30 = .ok (.iload_n 3, 1) := by decide +kernel
theorem dX12_bricks_31 : decode cX12_bricks 31 = .ok (.iconst 0, 1) := by decide +kernel
theorem dX12_bricks_32 : decode cX12_bricks 32 = .ok (.iconst 0, 1) := by decide +kernel
theorem dX12_bricks_33 : decode cX12_bricks 33 = .ok (.invokevirtual 146, 3) := by decide +kernel
theorem dX12_bricks_36 : decode cX12_bricks 36 = .ok (.istore 4, 2) := by decide +kernel
theorem dX12_bricks_38 : decode cX12_bricks 38 = .ok (.iload 4, 2) := by decide +kernel
theorem dX12_bricks_40 : decode cX12_bricks 40 = .ok (.ifCond .ge 6, 3) := by decide +kernel
theorem dX12_bricks_43 : decode cX12_bricks 43 = .ok (.iload 4, 2) := by decide +kernel
theorem dX12_bricks_45 : decode cX12_bricks 45 = .ok (.ireturn, 1) := by decide +kernel
theorem dX12_bricks_46 : decode cX12_bricks 46 = .ok (.iconst 0, 1) := by decide +kernel
theorem dX12_bricks_47 : decode cX12_bricks 47 = .ok (.istore 5, 2) := by decide +kernel
theorem dX12_bricks_49 : decode cX12_bricks 49 = .ok (.iload 5, 2) := by decide +kernel
theorem dX12_bricks_51 : decode cX12_bricks 51 = .ok (.bipush 64, 2) := by decide +kernel
theorem dX12_bricks_53 : decode cX12_bricks 53 = .ok (.if_icmp .ge 45, 3) := by decide +kernel
theorem dX12_bricks_56 : decode cX12_bricks 56 = .ok (.aload_n 0, 1) := by decide +kernel
theorem dX12_bricks_57 : decode cX12_bricks 57 = .ok (.getfield 42, 3) := by decide +kernel
theorem dX12_bricks_60 : decode cX12_bricks 60 = .ok (.iload 5, 2) := by decide +kernel
theorem dX12_bricks_62 : decode cX12_bricks 62 = .ok (.iload 5, 2) := by decide +kernel
theorem dX12_bricks_64 : decode cX12_bricks 64 = .ok (.aload_n 0, 1) := by decide +kernel
theorem dX12_bricks_65 : decode cX12_bricks 65 = .ok (.getfield 88, 3) := by decide +kernel
theorem dX12_bricks_68 : decode cX12_bricks 68 = .ok (.aload_n 0, 1) := by decide +kernel
theorem dX12_bricks_69 : decode cX12_bricks 69 = .ok (.getfield 92, 3) := by decide +kernel
theorem dX12_bricks_72 : decode cX12_bricks 72 = .ok (.imul, 1) := by decide +kernel
theorem dX12_bricks_73 : decode cX12_bricks 73 = .ok (.if_icmp .ge 13, 3) := by decide +kernel
theorem dX12_bricks_76 : decode cX12_bricks 76 = .ok (.aload_n 0, 1) := by decide +kernel
theorem dX12_bricks_77 : decode cX12_bricks 77 = .ok (.getfield 7, 3) := by decide +kernel
theorem dX12_bricks_80 : decode cX12_bricks 80 = .ok (.iload 5, 2) := by decide +kernel
theorem dX12_bricks_82 : decode cX12_bricks 82 = .ok (.baload, 1) := by decide +kernel
theorem dX12_bricks_83 : decode cX12_bricks 83 = .ok (.ifCond .ne 7, 3) := by decide +kernel
theorem dX12_bricks_86 : decode cX12_bricks 86 = .ok (.iconst 1, 1) := by decide +kernel
theorem dX12_bricks_87 : decode cX12_bricks 87 = .ok (.goto 4, 3) := by decide +kernel
theorem dX12_bricks_90 : decode cX12_bricks 90 = .ok (.iconst 0, 1) := by decide +kernel
theorem dX12_bricks_91 : decode cX12_bricks 91 = .ok (.bastore, 1) := by decide +kernel
theorem dX12_bricks_92 : decode cX12_bricks 92 = .ok (.iinc 5 1, 3) := by decide +kernel
theorem dX12_bricks_95 : decode cX12_bricks 95 = .ok (.goto (-46), 3) := by decide +kernel
theorem dX12_bricks_98 : decode cX12_bricks 98 = .ok (.iconst 0, 1) := by decide +kernel
theorem dX12_bricks_99 : decode cX12_bricks 99 = .ok (.istore 5, 2) := by decide +kernel
theorem dX12_bricks_101 : decode cX12_bricks 101 = .ok (.iload 5, 2) := by decide +kernel
theorem dX12_bricks_103 : decode cX12_bricks 103 = .ok (.aload_n 0, 1) := by decide +kernel
theorem dX12_bricks_104 : decode cX12_bricks 104 = .ok (.getfield 75, 3) := by decide +kernel
theorem dX12_bricks_107 : decode cX12_bricks 107 = .ok (.iload_n 2, 1) := by decide +kernel
theorem dX12_bricks_108 : decode cX12_bricks 108 = .ok (.iaload, 1) := by decide +kernel
theorem dX12_bricks_109 : decode cX12_bricks 109 = .ok (.if_icmp .ge 83, 3) := by decide +kernel
theorem dX12_bricks_112 : decode cX12_bricks 112 = .ok (.aload_n 0, 1) := by decide +kernel
theorem dX12_bricks_113 : decode cX12_bricks 113 = .ok (.getfield 78, 3) := by decide +kernel
theorem dX12_bricks_116 : decode cX12_bricks 116 = .ok (.bipush 64, 2) := by decide +kernel
theorem dX12_bricks_118 : decode cX12_bricks 118 = .ok (.iload_n 2, 1) := by decide +kernel
theorem dX12_bricks_119 : decode cX12_bricks 119 = .ok (.imul, 1) := by decide +kernel
theorem dX12_bricks_120 : decode cX12_bricks 120 = .ok (.iload 5, 2) := by decide +kernel
theorem dX12_bricks_122 : decode cX12_bricks 122 = .ok (.iadd, 1) := by decide +kernel
theorem dX12_bricks_123 : decode cX12_bricks 123 = .ok (.iaload, 1) := by decide +kernel
theorem dX12_bricks_124 : decode cX12_bricks 124 = .ok (.istore 6, 2) := by decide +kernel
theorem dX12_bricks_126 : decode cX12_bricks 126 = .ok (.aload_n 0, 1) := by decide +kernel
theorem dX12_bricks_127 : decode cX12_bricks 127 = .ok (.iload 6, 2) := by decide +kernel
theorem dX12_bricks_129 : decode cX12_bricks 129 = .ok (.invokevirtual 153, 3) := by decide +kernel
theorem dX12_bricks_132 : decode cX12_bricks 132 = .ok (.ifCond .eq 29, 3) := by decide +kernel
theorem dX12_bricks_135 : decode cX12_bricks 135 = .ok (.aload_n 0, 1) := by decide +kernel
theorem dX12_bricks_136 : decode cX12_bricks 136 = .ok (.getfield 42, 3) := by decide +kernel
theorem dX12_bricks_139 : decode cX12_bricks 139 = .ok (.iload 6, 2) := by decide +kernel
theorem dX12_bricks_141 : decode cX12_bricks 141 = .ok (.iconst 2, 1) := by decide +kernel
theorem dX12_bricks_142 : decode cX12_bricks 142 = .ok (.idiv, 1) := by decide +kernel
theorem dX12_bricks_143 : decode cX12_bricks 143 = .ok (.baload, 1) := by decide +kernel
theorem dX12_bricks_144 : decode cX12_bricks 144 = .ok (.ifCond .ne 17, 3) := by decide +kernel
theorem dX12_bricks_147 : decode cX12_bricks 147 = .ok (.aload_n 0, 1) := by decide +kernel
theorem dX12_bricks_148 : decode cX12_bricks 148 = .ok (.getfield 42, 3) := by decide +kernel
theorem dX12_bricks_151 : decode cX12_bricks 151 = .ok (.aload_n 0, 1) := by decide +kernel
theorem dX12_bricks_152 : decode cX12_bricks 152 = .ok (.iload 6, 2) := by decide +kernel
theorem dX12_bricks_154 : decode cX12_bricks 154 = .ok (.invokevirtual 108, 3) := by decide +kernel
theorem dX12_bricks_157 : decode cX12_bricks 157 = .ok (.baload, 1) := by decide +kernel
theorem dX12_bricks_158 : decode cX12_bricks 158 = .ok (.ifCond .eq 6, 3) := by decide +kernel
theorem dX12_bricks_161 : decode cX12_bricks 161 = .ok (.bipush (-2), 2) := by decide +kernel
theorem dX12_bricks_163 : decode cX12_bricks 163 = .ok (.ireturn, 1) := by decide +kernel
theorem dX12_bricks_164 : decode cX12_bricks 164 = .ok (.aload_n 0, 1) := by decide +kernel
theorem dX12_bricks_165 : decode cX12_bricks 165 = .ok (.getfield 42, 3) := by decide +kernel
theorem dX12_bricks_168 : decode cX12_bricks 168 = .ok (.iload 6, 2) := by decide +kernel
theorem dX12_bricks_170 : decode cX12_bricks 170 = .ok (.iconst 2, 1) := by decide +kernel
theorem dX12_bricks_171 : decode cX12_bricks 171 = .ok (.idiv, 1) := by decide +kernel
theorem dX12_bricks_172 : decode cX12_bricks 172 = .ok (.iconst 1, 1) := by decide +kernel
theorem dX12_bricks_173 : decode cX12_bricks 173 = .ok (.bastore, 1) := by decide +kernel
theorem dX12_bricks_174 : decode cX12_bricks 174 = .ok (.aload_n 0, 1) := by decide +kernel
theorem dX12_bricks_175 : decode cX12_bricks 175 = .ok (.getfield 42, 3) := by decide +kernel
theorem dX12_bricks_178 : decode cX12_bricks 178 = .ok (.aload_n 0, 1) := by decide +kernel
theorem dX12_bricks_179 : decode cX12_bricks 179 = .ok (.iload 6, 2) := by decide +kernel
theorem dX12_bricks_181 : decode cX12_bricks 181 = .ok (.invokevirtual 108, 3) := by decide +kernel
theorem dX12_bricks_184 : decode cX12_bricks 184 = .ok (.iconst 1, 1) := by decide +kernel
theorem dX12_bricks_185 : decode cX12_bricks 185 = .ok (.bastore, 1) := by decide +kernel
theorem dX12_bricks_186 : decode cX12_bricks 186 = .ok (.iinc 5 1, 3) := by decide +kernel
theorem dX12_bricks_189 : decode cX12_bricks 189 = .ok (.goto (-88), 3) := by decide +kernel
theorem dX12_bricks_192 : decode cX12_bricks 192 = .ok (.iconst 0, 1) := by decide +kernel
theorem dX12_bricks_193 : decode cX12_bricks 193 = .ok (.istore 5, 2) := by decide +kernel
theorem dX12_bricks_195 : decode cX12_bricks 195 = .ok (.iload 5, 2) := by decide +kernel
theorem dX12_bricks_197 : decode cX12_bricks 197 = .ok (.bipush 64, 2) := by decide +kernel
theorem dX12_bricks_199 : decode cX12_bricks 199 = .ok (.if_icmp .ge 22, 3) := by decide +kernel
theorem dX12_bricks_202 : decode cX12_bricks 202 = .ok (.aload_n 0, 1) := by decide +kernel
theorem dX12_bricks_203 : decode cX12_bricks 203 = .ok (.getfield 42, 3) := by decide +kernel
theorem dX12_bricks_206 : decode cX12_bricks 206 = .ok (.iload 5, 2) := by decide +kernel
theorem dX12_bricks_208 : decode cX12_bricks 208 = .ok (.baload, 1) := by decide +kernel
theorem dX12_bricks_209 : decode cX12_bricks 209 = .ok (.ifCond .ne 6, 3) := by decide +kernel
theorem dX12_bricks_212 : decode cX12_bricks 212 = .ok (.bipush (-2), 2) := by decide +kernel
theorem dX12_bricks_214 : decode cX12_bricks 214 = .ok (.ireturn, 1) := by decide +kernel
theorem dX12_bricks_215 : decode cX12_bricks 215 = .ok (.iinc 5 1, 3) := by decide +kernel
theorem dX12_bricks_218 : decode cX12_bricks 218 = .ok (.goto (-23), 3) := by decide +kernel
theorem dX12_bricks_221 : decode cX12_bricks 221 = .ok (.iconst 0, 1) := by decide +kernel
theorem dX12_bricks_222 : decode cX12_bricks 222 = .ok (.istore 5, 2) := by decide +kernel
theorem dX12_bricks_224 : decode cX12_bricks 224 = .ok (.iload 5, 2) := by decide +kernel
theorem dX12_bricks_226 : decode cX12_bricks 226 = .ok (.aload_n 0, 1) := by decide +kernel
theorem dX12_bricks_227 : decode cX12_bricks 227 = .ok (.getfield 75, 3) := by decide +kernel
theorem dX12_bricks_230 : decode cX12_bricks 230 = .ok (.iload_n 2, 1) := by decide +kernel
theorem dX12_bricks_231 : decode cX12_bricks 231 = .ok (.iaload, 1) := by decide +kernel
theorem dX12_bricks_232 : decode cX12_bricks 232 = .ok (.if_icmp .ge 26, 3) := by decide +kernel
theorem dX12_bricks_235 : decode cX12_bricks 235 = .ok (.aload_n 0, 1) := by decide +kernel
theorem dX12_bricks_236 : decode cX12_bricks 236 = .ok (.iload_n 1, 1) := by decide +kernel
theorem dX12_bricks_237 : decode cX12_bricks 237 = .ok (.aload_n 0, 1) := by decide +kernel
theorem dX12_bricks_238 : decode cX12_bricks 238 = .ok (.getfield 78, 3) := by decide +kernel
theorem dX12_bricks_241 : decode cX12_bricks 241 = .ok (.bipush 64, 2) := by decide +kernel
theorem dX12_bricks_243 : decode cX12_bricks 243 = .ok (.iload_n 2, 1) := by decide +kernel
theorem dX12_bricks_244 : decode cX12_bricks 244 = .ok (.imul, 1) := by decide +kernel
theorem dX12_bricks_245 : decode cX12_bricks 245 = .ok (.iload 5, 2) := by decide +kernel
theorem dX12_bricks_247 : decode cX12_bricks 247 = .ok (.iadd, 1) := by decide +kernel
theorem dX12_bricks_248 : decode cX12_bricks 248 = .ok (.iaload, 1) := by decide +kernel
theorem dX12_bricks_249 : decode cX12_bricks 249 = .ok (.invokevirtual 191, 3) := by decide +kernel
theorem dX12_bricks_252 : decode cX12_bricks 252 = .ok (.iinc 5 1, 3) := by decide +kernel
theorem dX12_bricks_255 : decode cX12_bricks 255 = .ok (.goto (-31), 3) := by decide +kernel
theorem dX12_bricks_258 : decode cX12_bricks 258 = .ok (.aload_n 0, 1) := by decide +kernel
theorem dX12_bricks_259 : decode cX12_bricks 259 = .ok (.getfield 20, 3) := by decide +kernel
theorem dX12_bricks_262 : decode cX12_bricks 262 = .ok (.iload_n 1, 1) := by decide +kernel
theorem dX12_bricks_263 : decode cX12_bricks 263 = .ok (.iconst 1, 1) := by decide +kernel
theorem dX12_bricks_264 : decode cX12_bricks 264 = .ok (.bastore, 1) := by decide +kernel
theorem dX12_bricks_265 : decode cX12_bricks 265 = .ok (.iconst 1, 1) := by decide +kernel
theorem dX12_bricks_266 : decode cX12_bricks 266 = .ok (.ireturn, 1) := by decide +kernel
theorem dX12_beside_0 : decode cX12_beside 0 = .ok (.iload_n 1, 1) := by decide +kernel
theorem dX12_beside_1 : decode cX12_beside 1 = .ok (.aload_n 0, 1) := by decide +kernel
theorem dX12_beside_2 : decode cX12_beside 2 = .ok (.getfield 88, 3) := by decide +kernel
theorem dX12_beside_5 : decode cX12_beside 5 = .ok (.irem, 1) := by decide +kernel
theorem dX12_beside_6 : decode cX12_beside 6 = .ok (.iload_n 2, 1) := by decide +kernel
theorem dX12_beside_7 : decode cX12_beside 7 = .ok (.ifCond .ne 7, 3) := by decide +kernel
theorem dX12_beside_10 : decode cX12_beside 10 = .ok (.iconst 1, 1) := by decide +kernel
theorem dX12_beside_11 : decode cX12_beside 11 = .ok (.goto 13, 3) := by decide +kernel
theorem dX12_beside_14 : decode cX12_beside 14 = .ok (.iload_n 2, 1) := by decide +kernel
theorem dX12_beside_15 : decode cX12_beside 15 = .ok (.iconst 2, 1) := by decide +kernel
theorem dX12_beside_16 : decode cX12_beside 16 = .ok (.if_icmp .ne 7, 3) := by decide +kernel
theorem dX12_beside_19 : decode cX12_beside 19 = .ok (.iconst (-1), 1) := by decide +kernel
theorem dX12_beside_20 : decode cX12_beside 20 = .ok (.goto 4, 3) := by decide +kernel
theorem dX12_beside_23 : decode cX12_beside 23 = .ok (.iconst 0, 1) := by decide +kernel
theorem dX12_beside_24 : decode cX12_beside 24 = .ok (.iadd, 1) := by decide +kernel
theorem dX12_beside_25 : decode cX12_beside 25 = .ok (.istore_n 3, 1) := by decide +kernel
theorem dX12_beside_26 : decode cX12_beside 26 = .ok (.iload_n 1, 1) := by decide +kernel
theorem dX12_beside_27 : decode cX12_beside 27 = .ok (.aload_n 0, 1) := by decide +kernel
theorem dX12_beside_28 : decode cX12_beside 28 = .ok (.getfield 88, 3) := by decide +kernel
theorem dX12_beside_31 : decode cX12_beside 31 = .ok (.idiv, 1) := by decide +kernel
theorem dX12_beside_32 : decode cX12_beside 32 = .ok (.iload_n 2, 1) := by decide +kernel
theorem dX12_beside_33 : decode cX12_beside 33 = .ok (.iconst 1, 1) := by decide +kernel
theorem dX12_beside_34 : decode cX12_beside 34 = .ok (.if_icmp .ne 7, 3) := by decide +kernel
theorem dX12_beside_37 : decode cX12_beside 37 = .ok (.iconst 1, 1) := by decide +kernel
theorem dX12_beside_38 : decode cX12_beside 38 = .ok (.goto 13, 3) := by decide +kernel
theorem dX12_beside_41 : decode cX12_beside 41 = .ok (.iload_n 2, 1) := by decide +kernel
theorem dX12_beside_42 : decode cX12_beside 42 = .ok (.iconst 3, 1) := by decide +kernel
theorem dX12_beside_43 : decode cX12_beside 43 = .ok (.if_icmp .ne 7, 3) := by decide +kernel
theorem dX12_beside_46 : decode cX12_beside 46 = .ok (.iconst (-1), 1) := by decide +kernel
theorem dX12_beside_47 : decode cX12_beside 47 = .ok (.goto 4, 3) := by decide +kernel
theorem dX12_beside_50 : decode cX12_beside 50 = .ok (.iconst 0, 1) := by decide +kernel
theorem dX12_beside_51 : decode cX12_beside 51 = .ok (.iadd, 1) := by decide +kernel
theorem dX12_beside_52 : decode cX12_beside 52 = .ok (.istore 4, 2) := by decide +kernel
theorem dX12_beside_54 : decode cX12_beside 54 = .ok (.aload_n 0, 1) := by decide +kernel
theorem dX12_beside_55 : decode cX12_beside 55 = .ok (.iload_n 3, 1) := by decide +kernel
theorem dX12_beside_56 : decode cX12_beside 56 = .ok (.iload 4, 2) := by decide +kernel
theorem dX12_beside_58 : decode cX12_beside 58 = .ok (.invokevirtual 210, 3) := by decide +kernel
theorem dX12_beside_61 : decode cX12_beside 61 = .ok (.ifCond .eq 15, 3) := by decide +kernel
theorem dX12_beside_64 : decode cX12_beside 64 = .ok (.aload_n 0, 1) := by decide +kernel
theorem dX12_beside_65 : decode cX12_beside 65 = .ok (.getfield 88, 3) := by decide +kernel
theorem dX12_beside_68 : decode cX12_beside 68 = .ok (.iload 4, 2) := by decide +kernel
theorem dX12_beside_70 : decode cX12_beside 70 = .ok (.imul, 1) := by decide +kernel
theorem dX12_beside_71 : decode cX12_beside 71 = .ok (.iload_n 3, 1) := by decide +kernel
theorem dX12_beside_72 : decode cX12_beside 72 = .ok (.iadd, 1) := by decide +kernel
theorem dX12_beside_73 : decode cX12_beside 73 = .ok (.goto 4, 3) := by decide +kernel
theorem dX12_beside_76 : decode cX12_beside 76 = .ok (.iconst (-1), 1) := by decide +kernel
theorem dX12_beside_77 : decode cX12_beside 77 = .ok (.ireturn, 1) := by decide +kernel
theorem dX12_searches_0 : decode cX12_searches 0 = .ok (.iconst 1, 1) := by decide +kernel
theorem dX12_searches_1 : decode cX12_searches 1 = .ok (.istore_n 2, 1) := by decide +kernel
theorem dX12_searches_2 : decode cX12_searches 2 = .ok (.aload_n 0, 1) := by decide +kernel
theorem dX12_searches_3 : decode cX12_searches 3 = .ok (.getfield 51, 3) := by decide +kernel
theorem dX12_searches_6 : decode cX12_searches 6 = .ok (.iconst 0, 1) := by decide +kernel
theorem dX12_searches_7 : decode cX12_searches 7 = .ok (.iload_n 1, 1) := by decide +kernel
theorem dX12_searches_8 : decode cX12_searches 8 = .ok (.iastore, 1) := by decide +kernel
theorem dX12_searches_9 : decode cX12_searches 9 = .ok (.aload_n 0, 1) := by decide +kernel
theorem dX12_searches_10 : decode cX12_searches 10 = .ok (.getfield 48, 3) := by decide +kernel
theorem dX12_searches_13 : decode cX12_searches 13 = .ok (.iload_n 1, 1) := by decide +kernel
theorem dX12_searches_14 : decode cX12_searches 14 = .ok (.iload_n 1, 1) := by decide +kernel
theorem dX12_searches_15 : decode cX12_searches 15 = .ok (.iastore, 1) := by decide +kernel
theorem dX12_searches_16 : decode cX12_searches 16 = .ok (.iconst 0, 1) := by decide +kernel
theorem dX12_searches_17 : decode cX12_searches 17 = .ok (.istore_n 3, 1) := by decide +kernel
theorem dX12_searches_18 : decode cX12_searches 18 = .ok (.iload_n 3, 1) := by decide +kernel
theorem dX12_searches_19 : decode cX12_searches 19 = .ok (.iload_n 2, 1) := by decide +kernel
theorem dX12_searches_20 : decode cX12_searches 20 = .ok (.if_icmp .ge 124, 3) := by decide +kernel
theorem dX12_searches_23 : decode cX12_searches 23 = .ok (.iconst 0, 1) := by decide +kernel
theorem dX12_searches_24 : decode cX12_searches 24 = .ok (.istore 4, 2) := by decide +kernel
theorem dX12_searches_26 : decode cX12_searches 26 = .ok (.iload 4, 2) := by decide +kernel
theorem dX12_searches_28 : decode cX12_searches 28 = .ok (.iconst 4, 1) := by decide +kernel
theorem dX12_searches_29 : decode cX12_searches 29 = .ok (.if_icmp .ge 109, 3) := by decide +kernel
theorem dX12_searches_32 : decode cX12_searches 32 = .ok (.aload_n 0, 1) := by decide +kernel
theorem dX12_searches_33 : decode cX12_searches 33 = .ok (.aload_n 0, 1) := by decide +kernel
theorem dX12_searches_34 : decode cX12_searches 34 = .ok (.getfield 51, 3) := by decide +kernel
theorem dX12_searches_37 : decode cX12_searches 37 = .ok (.iload_n 3, 1) := by decide +kernel
theorem dX12_searches_38 : decode cX12_searches 38 = .ok (.iaload, 1) := by decide +kernel
theorem dX12_searches_39 : decode cX12_searches 39 = .ok (.iload 4, 2) := by decide +kernel
theorem dX12_searches_41 : decode cX12_searches 41 = .ok (.invokevirtual 213, 3) := by decide +kernel
theorem dX12_searches_44 : decode cX12_searches 44 = .ok (.istore 5, 2) := by decide +kernel
theorem dX12_searches_46 : decode cX12_searches 46 = .ok (.iload 5, 2) := by decide +kernel
theorem dX12_searches_48 : decode cX12_searches 48 = .ok (.ifCond .lt 84, 3) := by decide +kernel
theorem dX12_searches_51 : decode cX12_searches 51 = .ok (.aload_n 0, 1) := by decide +kernel
theorem dX12_searches_52 : decode cX12_searches 52 = .ok (.getfield 48, 3) := by decide +kernel
theorem dX12_searches_55 : decode cX12_searches 55 = .ok (.iload 5, 2) := by decide +kernel
theorem dX12_searches_57 : decode cX12_searches 57 = .ok (.iaload, 1) := by decide +kernel
theorem dX12_searches_58 : decode cX12_searches 58 = .ok (.ifCond .ge 74, 3) := by decide +kernel
theorem dX12_searches_61 : decode cX12_searches 61 = .ok (.aload_n 0, 1) := by decide +kernel
theorem dX12_searches_62 : decode cX12_searches 62 = .ok (.getfield 48, 3) := by decide +kernel
theorem dX12_searches_65 : decode cX12_searches 65 = .ok (.iload 5, 2) := by decide +kernel
theorem dX12_searches_67 : decode cX12_searches 67 = .ok (.aload_n 0, 1) := by decide +kernel
theorem dX12_searches_68 : decode cX12_searches 68 = .ok (.getfield 51, 3) := by decide +kernel
theorem dX12_searches_71 : decode cX12_searches 71 = .ok (.iload_n 3, 1) := by decide +kernel
theorem dX12_searches_72 : decode cX12_searches 72 = .ok (.iaload, 1) := by decide +kernel
theorem dX12_searches_73 : decode cX12_searches 73 = .ok (.iastore, 1) := by decide +kernel
theorem dX12_searches_74 : decode cX12_searches 74 = .ok (.aload_n 0, 1) := by decide +kernel
theorem dX12_searches_75 : decode cX12_searches 75 = .ok (.getfield 45, 3) := by decide +kernel
theorem dX12_searches_78 : decode cX12_searches 78 = .ok (.iload 5, 2) := by decide +kernel
theorem dX12_searches_80 : decode cX12_searches 80 = .ok (.iaload, 1) := by decide +kernel
theorem dX12_searches_81 : decode cX12_searches 81 = .ok (.ifCond .ge 6, 3) := by decide +kernel
theorem dX12_searches_84 : decode cX12_searches 84 = .ok (.iload 5, 2) := by decide +kernel
theorem dX12_searches_86 : decode cX12_searches 86 = .ok (.ireturn, 1) := by decide +kernel
theorem dX12_searches_87 : decode cX12_searches 87 = .ok (.aload_n 0, 1) := by decide +kernel
theorem dX12_searches_88 : decode cX12_searches 88 = .ok (.getfield 48, 3) := by decide +kernel
theorem dX12_searches_91 : decode cX12_searches 91 = .ok (.aload_n 0, 1) := by decide +kernel
theorem dX12_searches_92 : decode cX12_searches 92 = .ok (.getfield 45, 3) := by decide +kernel
theorem dX12_searches_95 : decode cX12_searches 95 = .ok (.iload 5, 2) := by decide +kernel
theorem dX12_searches_97 : decode cX12_searches 97 = .ok (.iaload, 1) := by decide +kernel
theorem dX12_searches_98 : decode cX12_searches 98 = .ok (.iaload, 1) := by decide +kernel
theorem dX12_searches_99 : decode cX12_searches 99 = .ok (.ifCond .ge 33, 3) := by decide +kernel
theorem dX12_searches_102 : decode cX12_searches 102 = .ok (.aload_n 0, 1) := by decide +kernel
theorem dX12_searches_103 : decode cX12_searches 103 = .ok (.getfield 48, 3) := by decide +kernel
theorem dX12_searches_106 : decode cX12_searches 106 = .ok (.aload_n 0, 1) := by decide +kernel
theorem dX12_searches_107 : decode cX12_searches 107 = .ok (.getfield 45, 3) := by decide +kernel
theorem dX12_searches_110 : decode cX12_searches 110 = .ok (.iload 5, 2) := by decide +kernel
theorem dX12_searches_112 : decode cX12_searches 112 = .ok (.iaload, 1) := by decide +kernel
theorem dX12_searches_113 : decode cX12_searches 113 = .ok (.iload 5, 2) := by decide +kernel
theorem dX12_searches_115 : decode cX12_searches 115 = .ok (.iastore, 1) := by decide +kernel
theorem dX12_searches_116 : decode cX12_searches 116 = .ok (.aload_n 0, 1) := by decide +kernel
theorem dX12_searches_117 : decode cX12_searches 117 = .ok (.getfield 51, 3) := by decide +kernel
theorem dX12_searches_120 : decode cX12_searches 120 = .ok (.iload_n 2, 1) := by decide +kernel
theorem dX12_searches_121 : decode cX12_searches 121 = .ok (.aload_n 0, 1) := by decide +kernel
theorem dX12_searches_122 : decode cX12_searches 122 = .ok (.getfield 45, 3) := by decide +kernel
theorem dX12_searches_125 : decode cX12_searches 125 = .ok (.iload 5, 2) := by decide +kernel
theorem dX12_searches_127 : decode cX12_searches 127 = .ok (.iaload, 1) := by decide +kernel
theorem dX12_searches_128 : decode cX12_searches 128 = .ok (.iastore, 1) := by decide +kernel
theorem dX12_searches_129 : decode cX12_searches 129 = .ok (.iinc 2 1, 3) := by decide +kernel
theorem dX12_searches_132 : decode cX12_searches 132 = .ok (.iinc 4 1, 3) := by decide +kernel
theorem dX12_searches_135 : decode cX12_searches 135 = .ok (.goto (-109), 3) := by decide +kernel
theorem dX12_searches_138 : decode cX12_searches 138 = .ok (.iinc 3 1, 3) := by decide +kernel
theorem dX12_searches_141 : decode cX12_searches 141 = .ok (.goto (-123), 3) := by decide +kernel
theorem dX12_searches_144 : decode cX12_searches 144 = .ok (.iconst (-1), 1) := by decide +kernel
theorem dX12_searches_145 : decode cX12_searches 145 = .ok (.ireturn, 1) := by decide +kernel
theorem dX12_forgets_0 : decode cX12_forgets 0 = .ok (.iconst 0, 1) := by decide +kernel
theorem dX12_forgets_1 : decode cX12_forgets 1 = .ok (.istore_n 1, 1) := by decide +kernel
theorem dX12_forgets_2 : decode cX12_forgets 2 = .ok (.iload_n 1, 1) := by decide +kernel
theorem dX12_forgets_3 : decode cX12_forgets 3 = .ok (.bipush 64, 2) := by decide +kernel
theorem dX12_forgets_5 : decode cX12_forgets 5 = .ok (.if_icmp .ge 16, 3) := by decide +kernel
theorem dX12_forgets_8 : decode cX12_forgets 8 = .ok (.aload_n 0, 1) := by decide +kernel
theorem dX12_forgets_9 : decode cX12_forgets 9 = .ok (.getfield 48, 3) := by decide +kernel
theorem dX12_forgets_12 : decode cX12_forgets 12 = .ok (.iload_n 1, 1) := by decide +kernel
theorem dX12_forgets_13 : decode cX12_forgets 13 = .ok (.iconst (-1), 1) := by decide +kernel
theorem dX12_forgets_14 : decode cX12_forgets 14 = .ok (.iastore, 1) := by decide +kernel
theorem dX12_forgets_15 : decode cX12_forgets 15 = .ok (.iinc 1 1, 3) := by decide +kernel
theorem dX12_forgets_18 : decode cX12_forgets 18 = .ok (.goto (-16), 3) := by decide +kernel
theorem dX12_forgets_21 : decode cX12_forgets 21 = .ok (.return_, 1) := by decide +kernel
theorem dX12_matches_0 : decode cX12_matches 0 = .ok (.iconst 0, 1) := by decide +kernel
theorem dX12_matches_1 : decode cX12_matches 1 = .ok (.istore_n 1, 1) := by decide +kernel
theorem dX12_matches_2 : decode cX12_matches 2 = .ok (.iconst 0, 1) := by decide +kernel
theorem dX12_matches_3 : decode cX12_matches 3 = .ok (.istore_n 2, 1) := by decide +kernel
theorem dX12_matches_4 : decode cX12_matches 4 = .ok (.iload_n 2, 1) := by decide +kernel
theorem dX12_matches_5 : decode cX12_matches 5 = .ok (.bipush 64, 2) := by decide +kernel
theorem dX12_matches_7 : decode cX12_matches 7 = .ok (.if_icmp .ge 16, 3) := by decide +kernel
theorem dX12_matches_10 : decode cX12_matches 10 = .ok (.aload_n 0, 1) := by decide +kernel
theorem dX12_matches_11 : decode cX12_matches 11 = .ok (.getfield 45, 3) := by decide +kernel
theorem dX12_matches_14 : decode cX12_matches 14 = .ok (.iload_n 2, 1) := by decide +kernel
theorem dX12_matches_15 : decode cX12_matches 15 = .ok (.iconst (-1), 1) := by decide +kernel
theorem dX12_matches_16 : decode cX12_matches 16 = .ok (.iastore, 1) := by decide +kernel
theorem dX12_matches_17 : decode cX12_matches 17 = .ok (.iinc 2 1, 3) := by decide +kernel
theorem dX12_matches_20 : decode cX12_matches 20 = .ok (.goto (-16), 3) := by decide +kernel
theorem dX12_matches_23 : decode cX12_matches 23 = .ok (.iconst 0, 1) := by decide +kernel
theorem dX12_matches_24 : decode cX12_matches 24 = .ok (.istore_n 2, 1) := by decide +kernel
theorem dX12_matches_25 : decode cX12_matches 25 = .ok (.iload_n 2, 1) := by decide +kernel
theorem dX12_matches_26 : decode cX12_matches 26 = .ok (.aload_n 0, 1) := by decide +kernel
theorem dX12_matches_27 : decode cX12_matches 27 = .ok (.getfield 88, 3) := by decide +kernel
theorem dX12_matches_30 : decode cX12_matches 30 = .ok (.aload_n 0, 1) := by decide +kernel
theorem dX12_matches_31 : decode cX12_matches 31 = .ok (.getfield 92, 3) := by decide +kernel
theorem dX12_matches_34 : decode cX12_matches 34 = .ok (.imul, 1) := by decide +kernel
theorem dX12_matches_35 : decode cX12_matches 35 = .ok (.if_icmp .ge 101, 3) := by decide +kernel
theorem dX12_matches_38 : decode cX12_matches 38 = .ok (.aload_n 0, 1) := by decide +kernel
theorem dX12_matches_39 : decode cX12_matches 39 = .ok (.getfield 7, 3) := by decide +kernel
theorem dX12_matches_42 : decode cX12_matches 42 = .ok (.iload_n 2, 1) := by decide +kernel
theorem dX12_matches_43 : decode cX12_matches 43 = .ok (.baload, 1) := by decide +kernel
theorem dX12_matches_44 : decode cX12_matches 44 = .ok (.ifCond .eq 86, 3) := by decide +kernel
theorem dX12_matches_47 : decode cX12_matches 47 = .ok (.aload_n 0, 1) := by decide +kernel
theorem dX12_matches_48 : decode cX12_matches 48 = .ok (.iload_n 2, 1) := by decide +kernel
theorem dX12_matches_49 : decode cX12_matches 49 = .ok (.invokevirtual 150, 3) := by decide +kernel
theorem dX12_matches_52 : decode cX12_matches 52 = .ok (.ifCond .eq 78, 3) := by decide +kernel
theorem dX12_matches_55 : decode cX12_matches 55 = .ok (.aload_n 0, 1) := by decide +kernel
theorem dX12_matches_56 : decode cX12_matches 56 = .ok (.invokevirtual 216, 3) := by decide +kernel
theorem dX12_matches_59 : decode cX12_matches 59 = .ok (.aload_n 0, 1) := by decide +kernel
theorem dX12_matches_60 : decode cX12_matches 60 = .ok (.iload_n 2, 1) := by decide +kernel
theorem dX12_matches_61 : decode cX12_matches 61 = .ok (.invokevirtual 219, 3) := by decide +kernel
theorem dX12_matches_64 : decode cX12_matches 64 = .ok (.istore_n 3, 1) := by decide +kernel
theorem dX12_matches_65 : decode cX12_matches 65 = .ok (.iload_n 1, 1) := by decide +kernel
theorem dX12_matches_66 : decode cX12_matches 66 = .ok (.iload_n 3, 1) := by decide +kernel
theorem dX12_matches_67 : decode cX12_matches 67 = .ok (.ifCond .lt 7, 3) := by decide +kernel
theorem dX12_matches_70 : decode cX12_matches 70 = .ok (.iconst 1, 1) := by decide +kernel
theorem dX12_matches_71 : decode cX12_matches 71 = .ok (.goto 4, 3) := by decide +kernel
theorem dX12_matches_74 : decode cX12_matches 74 = .ok (.iconst 0, 1) := by decide +kernel
theorem dX12_matches_75 : decode cX12_matches 75 = .ok (.iadd, 1) := by decide +kernel
theorem dX12_matches_76 : decode cX12_matches 76 = .ok (.istore_n 1, 1) := by decide +kernel
theorem dX12_matches_77 : decode cX12_matches 77 = .ok (.iload_n 3, 1) := by decide +kernel
theorem dX12_matches_78 : decode cX12_matches 78 = .ok (.ifCond .lt 52, 3) := by decide +kernel
theorem dX12_matches_81 : decode cX12_matches 81 = .ok (.aload_n 0, 1) := by decide +kernel
theorem dX12_matches_82 : decode cX12_matches 82 = .ok (.getfield 48, 3) := by decide +kernel
theorem dX12_matches_85 : decode cX12_matches 85 = .ok (.iload_n 3, 1) := by decide +kernel
theorem dX12_matches_86 : decode cX12_matches 86 = .ok (.iaload, 1) := by decide +kernel
theorem dX12_matches_87 : decode cX12_matches 87 = .ok (.istore 4, 2) := by decide +kernel
theorem dX12_matches_89 : decode cX12_matches 89 = .ok (.aload_n 0, 1) := by decide +kernel
theorem dX12_matches_90 : decode cX12_matches 90 = .ok (.getfield 45, 3) := by decide +kernel
theorem dX12_matches_93 : decode cX12_matches 93 = .ok (.iload 4, 2) := by decide +kernel
theorem dX12_matches_95 : decode cX12_matches 95 = .ok (.iaload, 1) := by decide +kernel
theorem dX12_matches_96 : decode cX12_matches 96 = .ok (.istore 5, 2) := by decide +kernel
theorem dX12_matches_98 : decode cX12_matches 98 = .ok (.aload_n 0, 1) := by decide +kernel
theorem dX12_matches_99 : decode cX12_matches 99 = .ok (.getfield 45, 3) := by decide +kernel
theorem dX12_matches_102 : decode cX12_matches 102 = .ok (.iload_n 3, 1) := by decide +kernel
theorem dX12_matches_103 : decode cX12_matches 103 = .ok (.iload 4, 2) := by decide +kernel
theorem dX12_matches_105 : decode cX12_matches 105 = .ok (.iastore, 1) := by decide +kernel
theorem dX12_matches_106 : decode cX12_matches 106 = .ok (.aload_n 0, 1) := by decide +kernel
theorem dX12_matches_107 : decode cX12_matches 107 = .ok (.getfield 45, 3) := by decide +kernel
theorem dX12_matches_110 : decode cX12_matches 110 = .ok (.iload 4, 2) := by decide +kernel
theorem dX12_matches_112 : decode cX12_matches 112 = .ok (.iload_n 3, 1) := by decide +kernel
theorem dX12_matches_113 : decode cX12_matches 113 = .ok (.iastore, 1) := by decide +kernel
theorem dX12_matches_114 : decode cX12_matches 114 = .ok (.iload 4, 2) := by decide +kernel
theorem dX12_matches_116 : decode cX12_matches 116 = .ok (.iload_n 2, 1) := by decide +kernel
theorem dX12_matches_117 : decode cX12_matches 117 = .ok (.if_icmp .ne 7, 3) := by decide +kernel
theorem dX12_matches_120 : decode cX12_matches 120 = .ok (.iconst (-1), 1) := by decide +kernel
theorem dX12_matches_121 : decode cX12_matches 121 = .ok (.goto 5, 3) := by decide +kernel
theorem dX12_matches_124 : decode cX12_matches 124 = .ok (.iload 5, 2) := by decide +kernel
theorem dX12_matches_126 : decode cX12_matches 126 = .ok (.istore_n 3, 1) := by decide +kernel
theorem dX12_matches_127 : decode cX12_matches 127 = .ok (.goto (-50), 3) := by decide +kernel
theorem dX12_matches_130 : decode cX12_matches 130 = .ok (.iinc 2 1, 3) := by decide +kernel
theorem dX12_matches_133 : decode cX12_matches 133 = .ok (.goto (-108), 3) := by decide +kernel
theorem dX12_matches_136 : decode cX12_matches 136 = .ok (.iload_n 1, 1) := by decide +kernel
theorem dX12_matches_137 : decode cX12_matches 137 = .ok (.ireturn, 1) := by decide +kernel
theorem dX12_most_0 : decode cX12_most 0 = .ok (.aload_n 0, 1) := by decide +kernel
theorem dX12_most_1 : decode cX12_most 1 = .ok (.invokevirtual 222, 3) := by decide +kernel
theorem dX12_most_4 : decode cX12_most 4 = .ok (.ireturn, 1) := by decide +kernel
theorem dX12_doubtAll_0 : decode cX12_doubtAll 0 = .ok (.aload_n 0, 1) := by decide +kernel
theorem dX12_doubtAll_1 : decode cX12_doubtAll 1 = .ok (.invokevirtual 222, 3) := by decide +kernel
theorem dX12_doubtAll_4 : decode cX12_doubtAll 4 = .ok (.istore_n 2, 1) := by decide +kernel
theorem dX12_doubtAll_5 : decode cX12_doubtAll 5 = .ok (.iconst 0, 1) := by decide +kernel
theorem dX12_doubtAll_6 : decode cX12_doubtAll 6 = .ok (.istore_n 3, 1) := by decide +kernel
theorem dX12_doubtAll_7 : decode cX12_doubtAll 7 = .ok (.iload_n 3, 1) := by decide +kernel
theorem dX12_doubtAll_8 : decode cX12_doubtAll 8 = .ok (.bipush 64, 2) := by decide +kernel
theorem dX12_doubtAll_10 : decode cX12_doubtAll 10 = .ok (.if_icmp .ge 24, 3) := by decide +kernel
theorem dX12_doubtAll_13 : decode cX12_doubtAll 13 = .ok (.aload_n 0, 1) := by decide +kernel
theorem dX12_doubtAll_14 : decode cX12_doubtAll 14 = .ok (.getfield 54, 3) := by decide +kernel
theorem dX12_doubtAll_17 : decode cX12_doubtAll 17 = .ok (.iload_n 3, 1) := by decide +kernel
theorem dX12_doubtAll_18 : decode cX12_doubtAll 18 = .ok (.iload_n 2, 1) := by decide +kernel
theorem dX12_doubtAll_19 : decode cX12_doubtAll 19 = .ok (.ifCond .ge 7, 3) := by decide +kernel
theorem dX12_doubtAll_22 : decode cX12_doubtAll 22 = .ok (.iconst 1, 1) := by decide +kernel
theorem dX12_doubtAll_23 : decode cX12_doubtAll 23 = .ok (.goto 4, 3) := by decide +kernel
theorem dX12_doubtAll_26 : decode cX12_doubtAll 26 = .ok (.iconst 0, 1) := by decide +kernel
theorem dX12_doubtAll_27 : decode cX12_doubtAll 27 = .ok (.iastore, 1) := by decide +kernel
theorem dX12_doubtAll_28 : decode cX12_doubtAll 28 = .ok (.iinc 3 1, 3) := by decide +kernel
theorem dX12_doubtAll_31 : decode cX12_doubtAll 31 = .ok (.goto (-24), 3) := by decide +kernel
theorem dX12_doubtAll_34 : decode cX12_doubtAll 34 = .ok (.aload_n 0, 1) := by decide +kernel
theorem dX12_doubtAll_35 : decode cX12_doubtAll 35 = .ok (.invokevirtual 216, 3) := by decide +kernel
theorem dX12_doubtAll_38 : decode cX12_doubtAll 38 = .ok (.iconst 0, 1) := by decide +kernel
theorem dX12_doubtAll_39 : decode cX12_doubtAll 39 = .ok (.istore_n 3, 1) := by decide +kernel
theorem dX12_doubtAll_40 : decode cX12_doubtAll 40 = .ok (.iload_n 3, 1) := by decide +kernel
theorem dX12_doubtAll_41 : decode cX12_doubtAll 41 = .ok (.aload_n 0, 1) := by decide +kernel
theorem dX12_doubtAll_42 : decode cX12_doubtAll 42 = .ok (.getfield 88, 3) := by decide +kernel
theorem dX12_doubtAll_45 : decode cX12_doubtAll 45 = .ok (.aload_n 0, 1) := by decide +kernel
theorem dX12_doubtAll_46 : decode cX12_doubtAll 46 = .ok (.getfield 92, 3) := by decide +kernel
theorem dX12_doubtAll_49 : decode cX12_doubtAll 49 = .ok (.imul, 1) := by decide +kernel
theorem dX12_doubtAll_50 : decode cX12_doubtAll 50 = .ok (.if_icmp .ge 59, 3) := by decide +kernel
theorem dX12_doubtAll_53 : decode cX12_doubtAll 53 = .ok (.aload_n 0, 1) := by decide +kernel
theorem dX12_doubtAll_54 : decode cX12_doubtAll 54 = .ok (.getfield 7, 3) := by decide +kernel
theorem dX12_doubtAll_57 : decode cX12_doubtAll 57 = .ok (.iload_n 3, 1) := by decide +kernel
theorem dX12_doubtAll_58 : decode cX12_doubtAll 58 = .ok (.baload, 1) := by decide +kernel
theorem dX12_doubtAll_59 : decode cX12_doubtAll 59 = .ok (.ifCond .eq 44, 3) := by decide +kernel
theorem dX12_doubtAll_62 : decode cX12_doubtAll 62 = .ok (.aload_n 0, 1) := by decide +kernel
theorem dX12_doubtAll_63 : decode cX12_doubtAll 63 = .ok (.iload_n 3, 1) := by decide +kernel
theorem dX12_doubtAll_64 : decode cX12_doubtAll 64 = .ok (.invokevirtual 150, 3) := by decide +kernel
theorem dX12_doubtAll_67 : decode cX12_doubtAll 67 = .ok (.iload_n 1, 1) := by decide +kernel
theorem dX12_doubtAll_68 : decode cX12_doubtAll 68 = .ok (.ifCond .ne 7, 3) := by decide +kernel
theorem dX12_doubtAll_71 : decode cX12_doubtAll 71 = .ok (.iconst 1, 1) := by decide +kernel
theorem dX12_doubtAll_72 : decode cX12_doubtAll 72 = .ok (.goto 4, 3) := by decide +kernel
theorem dX12_doubtAll_75 : decode cX12_doubtAll 75 = .ok (.iconst 0, 1) := by decide +kernel
theorem dX12_doubtAll_76 : decode cX12_doubtAll 76 = .ok (.if_icmp .ne 27, 3) := by decide +kernel
theorem dX12_doubtAll_79 : decode cX12_doubtAll 79 = .ok (.aload_n 0, 1) := by decide +kernel
theorem dX12_doubtAll_80 : decode cX12_doubtAll 80 = .ok (.getfield 45, 3) := by decide +kernel
theorem dX12_doubtAll_83 : decode cX12_doubtAll 83 = .ok (.iload_n 3, 1) := by decide +kernel
theorem dX12_doubtAll_84 : decode cX12_doubtAll 84 = .ok (.iaload, 1) := by decide +kernel
theorem dX12_doubtAll_85 : decode cX12_doubtAll 85 = .ok (.ifCond .ge 18, 3) := by decide +kernel
theorem dX12_doubtAll_88 : decode cX12_doubtAll 88 = .ok (.aload_n 0, 1) := by decide +kernel
theorem dX12_doubtAll_89 : decode cX12_doubtAll 89 = .ok (.getfield 48, 3) := by decide +kernel
theorem dX12_doubtAll_92 : decode cX12_doubtAll 92 = .ok (.iload_n 3, 1) := by decide +kernel
theorem dX12_doubtAll_93 : decode cX12_doubtAll 93 = .ok (.iaload, 1) := by decide +kernel
theorem dX12_doubtAll_94 : decode cX12_doubtAll 94 = .ok (.ifCond .ge 9, 3) := by decide +kernel
theorem dX12_doubtAll_97 : decode cX12_doubtAll 97 = .ok (.aload_n 0, 1) := by decide +kernel
theorem dX12_doubtAll_98 : decode cX12_doubtAll 98 = .ok (.iload_n 3, 1) := by decide +kernel
theorem dX12_doubtAll_99 : decode cX12_doubtAll 99 = .ok (.invokevirtual 219, 3) := by decide +kernel
theorem dX12_doubtAll_102 : decode cX12_doubtAll 102 = .ok (.pop, 1) := by decide +kernel
theorem dX12_doubtAll_103 : decode cX12_doubtAll 103 = .ok (.iinc 3 1, 3) := by decide +kernel
theorem dX12_doubtAll_106 : decode cX12_doubtAll 106 = .ok (.goto (-66), 3) := by decide +kernel
theorem dX12_doubtAll_109 : decode cX12_doubtAll 109 = .ok (.iconst 0, 1) := by decide +kernel
theorem dX12_doubtAll_110 : decode cX12_doubtAll 110 = .ok (.istore_n 3, 1) := by decide +kernel
theorem dX12_doubtAll_111 : decode cX12_doubtAll 111 = .ok (.iload_n 3, 1) := by decide +kernel
theorem dX12_doubtAll_112 : decode cX12_doubtAll 112 = .ok (.aload_n 0, 1) := by decide +kernel
theorem dX12_doubtAll_113 : decode cX12_doubtAll 113 = .ok (.getfield 88, 3) := by decide +kernel
theorem dX12_doubtAll_116 : decode cX12_doubtAll 116 = .ok (.aload_n 0, 1) := by decide +kernel
theorem dX12_doubtAll_117 : decode cX12_doubtAll 117 = .ok (.getfield 92, 3) := by decide +kernel
theorem dX12_doubtAll_120 : decode cX12_doubtAll 120 = .ok (.imul, 1) := by decide +kernel
theorem dX12_doubtAll_121 : decode cX12_doubtAll 121 = .ok (.if_icmp .ge 55, 3) := by decide +kernel
theorem dX12_doubtAll_124 : decode cX12_doubtAll 124 = .ok (.aload_n 0, 1) := by decide +kernel
theorem dX12_doubtAll_125 : decode cX12_doubtAll 125 = .ok (.getfield 54, 3) := by decide +kernel
theorem dX12_doubtAll_128 : decode cX12_doubtAll 128 = .ok (.iload_n 3, 1) := by decide +kernel
theorem dX12_doubtAll_129 : decode cX12_doubtAll 129 = .ok (.aload_n 0, 1) := by decide +kernel
theorem dX12_doubtAll_130 : decode cX12_doubtAll 130 = .ok (.getfield 7, 3) := by decide +kernel
theorem dX12_doubtAll_133 : decode cX12_doubtAll 133 = .ok (.iload_n 3, 1) := by decide +kernel
theorem dX12_doubtAll_134 : decode cX12_doubtAll 134 = .ok (.baload, 1) := by decide +kernel
theorem dX12_doubtAll_135 : decode cX12_doubtAll 135 = .ok (.ifCond .eq 33, 3) := by decide +kernel
theorem dX12_doubtAll_138 : decode cX12_doubtAll 138 = .ok (.aload_n 0, 1) := by decide +kernel
theorem dX12_doubtAll_139 : decode cX12_doubtAll 139 = .ok (.getfield 48, 3) := by decide +kernel
theorem dX12_doubtAll_142 : decode cX12_doubtAll 142 = .ok (.iload_n 3, 1) := by decide +kernel
theorem dX12_doubtAll_143 : decode cX12_doubtAll 143 = .ok (.iaload, 1) := by decide +kernel
theorem dX12_doubtAll_144 : decode cX12_doubtAll 144 = .ok (.ifCond .lt 24, 3) := by decide +kernel
theorem dX12_doubtAll_147 : decode cX12_doubtAll 147 = .ok (.aload_n 0, 1) := by decide +kernel
theorem dX12_doubtAll_148 : decode cX12_doubtAll 148 = .ok (.iload_n 3, 1) := by decide +kernel
theorem dX12_doubtAll_149 : decode cX12_doubtAll 149 = .ok (.invokevirtual 150, 3) := by decide +kernel
theorem dX12_doubtAll_152 : decode cX12_doubtAll 152 = .ok (.iload_n 1, 1) := by decide +kernel
theorem dX12_doubtAll_153 : decode cX12_doubtAll 153 = .ok (.ifCond .ne 7, 3) := by decide +kernel
theorem dX12_doubtAll_156 : decode cX12_doubtAll 156 = .ok (.iconst 1, 1) := by decide +kernel
theorem dX12_doubtAll_157 : decode cX12_doubtAll 157 = .ok (.goto 4, 3) := by decide +kernel
theorem dX12_doubtAll_160 : decode cX12_doubtAll 160 = .ok (.iconst 0, 1) := by decide +kernel
theorem dX12_doubtAll_161 : decode cX12_doubtAll 161 = .ok (.if_icmp .ne 7, 3) := by decide +kernel
theorem dX12_doubtAll_164 : decode cX12_doubtAll 164 = .ok (.iconst 2, 1) := by decide +kernel
theorem dX12_doubtAll_165 : decode cX12_doubtAll 165 = .ok (.goto 4, 3) := by decide +kernel
theorem dX12_doubtAll_168 : decode cX12_doubtAll 168 = .ok (.iconst 0, 1) := by decide +kernel
theorem dX12_doubtAll_169 : decode cX12_doubtAll 169 = .ok (.iastore, 1) := by decide +kernel
theorem dX12_doubtAll_170 : decode cX12_doubtAll 170 = .ok (.iinc 3 1, 3) := by decide +kernel
theorem dX12_doubtAll_173 : decode cX12_doubtAll 173 = .ok (.goto (-62), 3) := by decide +kernel
theorem dX12_doubtAll_176 : decode cX12_doubtAll 176 = .ok (.iconst 0, 1) := by decide +kernel
theorem dX12_doubtAll_177 : decode cX12_doubtAll 177 = .ok (.istore_n 3, 1) := by decide +kernel
theorem dX12_doubtAll_178 : decode cX12_doubtAll 178 = .ok (.iload_n 3, 1) := by decide +kernel
theorem dX12_doubtAll_179 : decode cX12_doubtAll 179 = .ok (.aload_n 0, 1) := by decide +kernel
theorem dX12_doubtAll_180 : decode cX12_doubtAll 180 = .ok (.getfield 88, 3) := by decide +kernel
theorem dX12_doubtAll_183 : decode cX12_doubtAll 183 = .ok (.aload_n 0, 1) := by decide +kernel
theorem dX12_doubtAll_184 : decode cX12_doubtAll 184 = .ok (.getfield 92, 3) := by decide +kernel
theorem dX12_doubtAll_187 : decode cX12_doubtAll 187 = .ok (.imul, 1) := by decide +kernel
theorem dX12_doubtAll_188 : decode cX12_doubtAll 188 = .ok (.if_icmp .ge 78, 3) := by decide +kernel
theorem dX12_doubtAll_191 : decode cX12_doubtAll 191 = .ok (.iconst 0, 1) := by decide +kernel
theorem dX12_doubtAll_192 : decode cX12_doubtAll 192 = .ok (.istore 4, 2) := by decide +kernel
theorem dX12_doubtAll_194 : decode cX12_doubtAll 194 = .ok (.iload 4, 2) := by decide +kernel
theorem dX12_doubtAll_196 : decode cX12_doubtAll 196 = .ok (.iconst 4, 1) := by decide +kernel
theorem dX12_doubtAll_197 : decode cX12_doubtAll 197 = .ok (.if_icmp .ge 63, 3) := by decide +kernel
theorem dX12_doubtAll_200 : decode cX12_doubtAll 200 = .ok (.aload_n 0, 1) := by decide +kernel
theorem dX12_doubtAll_201 : decode cX12_doubtAll 201 = .ok (.getfield 7, 3) := by decide +kernel
theorem dX12_doubtAll_204 : decode cX12_doubtAll 204 = .ok (.iload_n 3, 1) := by decide +kernel
theorem dX12_doubtAll_205 : decode cX12_doubtAll 205 = .ok (.baload, 1) := by decide +kernel
theorem dX12_doubtAll_206 : decode cX12_doubtAll 206 = .ok (.ifCond .eq 54, 3) := by decide +kernel
theorem dX12_doubtAll_209 : decode cX12_doubtAll 209 = .ok (.aload_n 0, 1) := by decide +kernel
theorem dX12_doubtAll_210 : decode cX12_doubtAll 210 = .ok (.getfield 54, 3) := by decide +kernel
theorem dX12_doubtAll_213 : decode cX12_doubtAll 213 = .ok (.iload_n 3, 1) := by decide +kernel
theorem dX12_doubtAll_214 : decode cX12_doubtAll 214 = .ok (.iaload, 1) := by decide +kernel
theorem dX12_doubtAll_215 : decode cX12_doubtAll 215 = .ok (.ifCond .ne 45, 3) := by decide +kernel
theorem dX12_doubtAll_218 : decode cX12_doubtAll 218 = .ok (.aload_n 0, 1) := by decide +kernel
theorem dX12_doubtAll_219 : decode cX12_doubtAll 219 = .ok (.iload_n 3, 1) := by decide +kernel
theorem dX12_doubtAll_220 : decode cX12_doubtAll 220 = .ok (.iload 4, 2) := by decide +kernel
theorem dX12_doubtAll_222 : decode cX12_doubtAll 222 = .ok (.invokevirtual 213, 3) := by decide +kernel
theorem dX12_doubtAll_225 : decode cX12_doubtAll 225 = .ok (.istore 5, 2) := by decide +kernel
theorem dX12_doubtAll_227 : decode cX12_doubtAll 227 = .ok (.aload_n 0, 1) := by decide +kernel
theorem dX12_doubtAll_228 : decode cX12_doubtAll 228 = .ok (.getfield 54, 3) := by decide +kernel
theorem dX12_doubtAll_231 : decode cX12_doubtAll 231 = .ok (.iload_n 3, 1) := by decide +kernel
theorem dX12_doubtAll_232 : decode cX12_doubtAll 232 = .ok (.iload 5, 2) := by decide +kernel
theorem dX12_doubtAll_234 : decode cX12_doubtAll 234 = .ok (.ifCond .lt 18, 3) := by decide +kernel
theorem dX12_doubtAll_237 : decode cX12_doubtAll 237 = .ok (.aload_n 0, 1) := by decide +kernel
theorem dX12_doubtAll_238 : decode cX12_doubtAll 238 = .ok (.getfield 54, 3) := by decide +kernel
theorem dX12_doubtAll_241 : decode cX12_doubtAll 241 = .ok (.iload 5, 2) := by decide +kernel
theorem dX12_doubtAll_243 : decode cX12_doubtAll 243 = .ok (.iaload, 1) := by decide +kernel
theorem dX12_doubtAll_244 : decode cX12_doubtAll 244 = .ok (.iconst 2, 1) := by decide +kernel
theorem dX12_doubtAll_245 : decode cX12_doubtAll 245 = .ok (.if_icmp .ne 7, 3) := by decide +kernel
theorem dX12_doubtAll_248 : decode cX12_doubtAll 248 = .ok (.iconst 1, 1) := by decide +kernel
theorem dX12_doubtAll_249 : decode cX12_doubtAll 249 = .ok (.goto 4, 3) := by decide +kernel
theorem dX12_doubtAll_252 : decode cX12_doubtAll 252 = .ok (.iconst 0, 1) := by decide +kernel
theorem dX12_doubtAll_253 : decode cX12_doubtAll 253 = .ok (.iastore, 1) := by decide +kernel
theorem dX12_doubtAll_254 : decode cX12_doubtAll 254 = .ok (.iinc 4 1, 3) := by decide +kernel
theorem dX12_doubtAll_257 : decode cX12_doubtAll 257 = .ok (.goto (-63), 3) := by decide +kernel
theorem dX12_doubtAll_260 : decode cX12_doubtAll 260 = .ok (.iinc 3 1, 3) := by decide +kernel
theorem dX12_doubtAll_263 : decode cX12_doubtAll 263 = .ok (.goto (-85), 3) := by decide +kernel
theorem dX12_doubtAll_266 : decode cX12_doubtAll 266 = .ok (.return_, 1) := by decide +kernel
theorem dX12_bar_0 : decode cX12_bar 0 = .ok (.iload_n 1, 1) := by decide +kernel
theorem dX12_bar_1 : decode cX12_bar 1 = .ok (.i2l, 1) := by decide +kernel
theorem dX12_bar_2 : decode cX12_bar 2 = .ok (.lconst 0, 1) := by decide +kernel
theorem dX12_bar_3 : decode cX12_bar 3 = .ok (.lconst 1, 1) := by decide +kernel
theorem dX12_bar_4 : decode cX12_bar 4 = .ok (.invokestatic 100, 3) := by decide +kernel
theorem dX12_bar_7 : decode cX12_bar 7 = .ok (.ifCond .eq 13, 3) := by decide +kernel
theorem dX12_bar_10 : decode cX12_bar 10 = .ok (.iload_n 2, 1) := by decide +kernel
theorem dX12_bar_11 : decode cX12_bar 11 = .ok (.i2l, 1) := by decide +kernel
theorem dX12_bar_12 : decode cX12_bar 12 = .ok (.lconst 0, 1) := by decide +kernel
theorem dX12_bar_13 : decode cX12_bar 13 = .ok (.lconst 1, 1) := by decide +kernel
theorem dX12_bar_14 : decode cX12_bar 14 = .ok (.invokestatic 100, 3) := by decide +kernel
theorem dX12_bar_17 : decode cX12_bar 17 = .ok (.ifCond .ne 5, 3) := by decide +kernel
theorem dX12_bar_20 : decode cX12_bar 20 = .ok (.iconst (-1), 1) := by decide +kernel
theorem dX12_bar_21 : decode cX12_bar 21 = .ok (.ireturn, 1) := by decide +kernel
theorem dX12_bar_22 : decode cX12_bar 22 = .ok (.aload_n 0, 1) := by decide +kernel
theorem dX12_bar_23 : decode cX12_bar 23 = .ok (.iload_n 1, 1) := by decide +kernel
theorem dX12_bar_24 : decode cX12_bar 24 = .ok (.invokevirtual 225, 3) := by decide +kernel
theorem dX12_bar_27 : decode cX12_bar 27 = .ok (.iconst 0, 1) := by decide +kernel
theorem dX12_bar_28 : decode cX12_bar 28 = .ok (.istore_n 3, 1) := by decide +kernel
theorem dX12_bar_29 : decode cX12_bar 29 = .ok (.iconst 0, 1) := by decide +kernel
theorem dX12_bar_30 : decode cX12_bar 30 = .ok (.istore 4, 2) := by decide +kernel
theorem dX12_bar_32 : decode cX12_bar 32 = .ok (.iload 4, 2) := by decide +kernel
theorem dX12_bar_34 : decode cX12_bar 34 = .ok (.aload_n 0, 1) := by decide +kernel
theorem dX12_bar_35 : decode cX12_bar 35 = .ok (.getfield 88, 3) := by decide +kernel
theorem dX12_bar_38 : decode cX12_bar 38 = .ok (.aload_n 0, 1) := by decide +kernel
theorem dX12_bar_39 : decode cX12_bar 39 = .ok (.getfield 92, 3) := by decide +kernel
theorem dX12_bar_42 : decode cX12_bar 42 = .ok (.imul, 1) := by decide +kernel
theorem dX12_bar_43 : decode cX12_bar 43 = .ok (.if_icmp .ge 30, 3) := by decide +kernel
theorem dX12_bar_46 : decode cX12_bar 46 = .ok (.iload_n 3, 1) := by decide +kernel
theorem dX12_bar_47 : decode cX12_bar 47 = .ok (.aload_n 0, 1) := by decide +kernel
theorem dX12_bar_48 : decode cX12_bar 48 = .ok (.getfield 54, 3) := by decide +kernel
theorem dX12_bar_51 : decode cX12_bar 51 = .ok (.iload 4, 2) := by decide +kernel
theorem dX12_bar_53 : decode cX12_bar 53 = .ok (.iaload, 1) := by decide +kernel
theorem dX12_bar_54 : decode cX12_bar 54 = .ok (.iconst 2, 1) := by decide +kernel
theorem dX12_bar_55 : decode cX12_bar 55 = .ok (.iload_n 2, 1) := by decide +kernel
theorem dX12_bar_56 : decode cX12_bar 56 = .ok (.isub, 1) := by decide +kernel
theorem dX12_bar_57 : decode cX12_bar 57 = .ok (.if_icmp .ne 7, 3) := by decide +kernel
theorem dX12_bar_60 : decode cX12_bar 60 = .ok (.iconst 1, 1) := by decide +kernel
theorem dX12_bar_61 : decode cX12_bar 61 = .ok (.goto 4, 3) := by decide +kernel
theorem dX12_bar_64 : decode cX12_bar 64 = .ok (.iconst 0, 1) := by decide +kernel
theorem dX12_bar_65 : decode cX12_bar 65 = .ok (.iadd, 1) := by decide +kernel
theorem dX12_bar_66 : decode cX12_bar 66 = .ok (.istore_n 3, 1) := by decide +kernel
theorem dX12_bar_67 : decode cX12_bar 67 = .ok (.iinc 4 1, 3) := by decide +kernel
theorem dX12_bar_70 : decode cX12_bar 70 = .ok (.goto (-38), 3) := by decide +kernel
theorem dX12_bar_73 : decode cX12_bar 73 = .ok (.iload_n 3, 1) := by decide +kernel
theorem dX12_bar_74 : decode cX12_bar 74 = .ok (.ireturn, 1) := by decide +kernel
theorem dX12_bars_0 : decode cX12_bars 0 = .ok (.iload_n 1, 1) := by decide +kernel
theorem dX12_bars_1 : decode cX12_bars 1 = .ok (.i2l, 1) := by decide +kernel
theorem dX12_bars_2 : decode cX12_bars 2 = .ok (.lconst 0, 1) := by decide +kernel
theorem dX12_bars_3 : decode cX12_bars 3 = .ok (.lconst 1, 1) := by decide +kernel
theorem dX12_bars_4 : decode cX12_bars 4 = .ok (.invokestatic 100, 3) := by decide +kernel
theorem dX12_bars_7 : decode cX12_bars 7 = .ok (.ifCond .eq 20, 3) := by decide +kernel
theorem dX12_bars_10 : decode cX12_bars 10 = .ok (.aload_n 0, 1) := by decide +kernel
theorem dX12_bars_11 : decode cX12_bars 11 = .ok (.iload_n 2, 1) := by decide +kernel
theorem dX12_bars_12 : decode cX12_bars 12 = .ok (.invokevirtual 116, 3) := by decide +kernel
theorem dX12_bars_15 : decode cX12_bars 15 = .ok (.ifCond .eq 12, 3) := by decide +kernel
theorem dX12_bars_18 : decode cX12_bars 18 = .ok (.aload_n 0, 1) := by decide +kernel
theorem dX12_bars_19 : decode cX12_bars 19 = .ok (.getfield 7, 3) := by decide +kernel
theorem dX12_bars_22 : decode cX12_bars 22 = .ok (.iload_n 2, 1) := by decide +kernel
theorem dX12_bars_23 : decode cX12_bars 23 = .ok (.baload, 1) := by decide +kernel
theorem dX12_bars_24 : decode cX12_bars 24 = .ok (.ifCond .ne 5, 3) := by decide +kernel
theorem dX12_bars_27 : decode cX12_bars 27 = .ok (.iconst (-1), 1) := by decide +kernel
theorem dX12_bars_28 : decode cX12_bars 28 = .ok (.ireturn, 1) := by decide +kernel
theorem dX12_bars_29 : decode cX12_bars 29 = .ok (.aload_n 0, 1) := by decide +kernel
theorem dX12_bars_30 : decode cX12_bars 30 = .ok (.iload_n 1, 1) := by decide +kernel
theorem dX12_bars_31 : decode cX12_bars 31 = .ok (.invokevirtual 225, 3) := by decide +kernel
theorem dX12_bars_34 : decode cX12_bars 34 = .ok (.aload_n 0, 1) := by decide +kernel
theorem dX12_bars_35 : decode cX12_bars 35 = .ok (.getfield 54, 3) := by decide +kernel
theorem dX12_bars_38 : decode cX12_bars 38 = .ok (.iload_n 2, 1) := by decide +kernel
theorem dX12_bars_39 : decode cX12_bars 39 = .ok (.iaload, 1) := by decide +kernel
theorem dX12_bars_40 : decode cX12_bars 40 = .ok (.ireturn, 1) := by decide +kernel
theorem dX12_isOpenFrame_0 : decode cX12_isOpenFrame 0 = .ok (.aload_n 0, 1) := by decide +kernel
theorem dX12_isOpenFrame_1 : decode cX12_isOpenFrame 1 = .ok (.iload_n 1, 1) := by decide +kernel
theorem dX12_isOpenFrame_2 : decode cX12_isOpenFrame 2 = .ok (.bipush 10, 2) := by decide +kernel
theorem dX12_isOpenFrame_4 : decode cX12_isOpenFrame 4 = .ok (.irem, 1) := by decide +kernel
theorem dX12_isOpenFrame_5 : decode cX12_isOpenFrame 5 = .ok (.iconst 1, 1) := by decide +kernel
theorem dX12_isOpenFrame_6 : decode cX12_isOpenFrame 6 = .ok (.isub, 1) := by decide +kernel
theorem dX12_isOpenFrame_7 : decode cX12_isOpenFrame 7 = .ok (.iload_n 1, 1) := by decide +kernel
theorem dX12_isOpenFrame_8 : decode cX12_isOpenFrame 8 = .ok (.bipush 10, 2) := by decide +kernel
theorem dX12_isOpenFrame_10 : decode cX12_isOpenFrame 10 = .ok (.idiv, 1) := by decide +kernel
theorem dX12_isOpenFrame_11 : decode cX12_isOpenFrame 11 = .ok (.iconst 1, 1) := by decide +kernel
theorem dX12_isOpenFrame_12 : decode cX12_isOpenFrame 12 = .ok (.isub, 1) := by decide +kernel
theorem dX12_isOpenFrame_13 : decode cX12_isOpenFrame 13 = .ok (.invokevirtual 210, 3) := by decide +kernel
theorem dX12_isOpenFrame_16 : decode cX12_isOpenFrame 16 = .ok (.ireturn, 1) := by decide +kernel
theorem dX12_meets_0 : decode cX12_meets 0 = .ok (.aload_n 0, 1) := by decide +kernel
theorem dX12_meets_1 : decode cX12_meets 1 = .ok (.iload_n 1, 1) := by decide +kernel
theorem dX12_meets_2 : decode cX12_meets 2 = .ok (.invokevirtual 228, 3) := by decide +kernel
theorem dX12_meets_5 : decode cX12_meets 5 = .ok (.istore_n 3, 1) := by decide +kernel
theorem dX12_meets_6 : decode cX12_meets 6 = .ok (.iconst 0, 1) := by decide +kernel
theorem dX12_meets_7 : decode cX12_meets 7 = .ok (.istore 4, 2) := by decide +kernel
theorem dX12_meets_9 : decode cX12_meets 9 = .ok (.iload 4, 2) := by decide +kernel
theorem dX12_meets_11 : decode cX12_meets 11 = .ok (.bipush 100, 2) := by decide +kernel
theorem dX12_meets_13 : decode cX12_meets 13 = .ok (.if_icmp .ge 17, 3) := by decide +kernel
theorem dX12_meets_16 : decode cX12_meets 16 = .ok (.aload_n 0, 1) := by decide +kernel
theorem dX12_meets_17 : decode cX12_meets 17 = .ok (.getfield 57, 3) := by decide +kernel
theorem dX12_meets_20 : decode cX12_meets 20 = .ok (.iload 4, 2) := by decide +kernel
theorem dX12_meets_22 : decode cX12_meets 22 = .ok (.iconst 0, 1) := by decide +kernel
theorem dX12_meets_23 : decode cX12_meets 23 = .ok (.bastore, 1) := by decide +kernel
theorem dX12_meets_24 : decode cX12_meets 24 = .ok (.iinc 4 1, 3) := by decide +kernel
theorem dX12_meets_27 : decode cX12_meets 27 = .ok (.goto (-18), 3) := by decide +kernel
theorem dX12_meets_30 : decode cX12_meets 30 = .ok (.aload_n 0, 1) := by decide +kernel
theorem dX12_meets_31 : decode cX12_meets 31 = .ok (.getfield 57, 3) := by decide +kernel
theorem dX12_meets_34 : decode cX12_meets 34 = .ok (.iload_n 1, 1) := by decide +kernel
theorem dX12_meets_35 : decode cX12_meets 35 = .ok (.iconst 1, 1) := by decide +kernel
theorem dX12_meets_36 : decode cX12_meets 36 = .ok (.bastore, 1) := by decide +kernel
theorem dX12_meets_37 : decode cX12_meets 37 = .ok (.aload_n 0, 1) := by decide +kernel
theorem dX12_meets_38 : decode cX12_meets 38 = .ok (.getfield 60, 3) := by decide +kernel
theorem dX12_meets_41 : decode cX12_meets 41 = .ok (.iconst 0, 1) := by decide +kernel
theorem dX12_meets_42 : decode cX12_meets 42 = .ok (.iload_n 1, 1) := by decide +kernel
theorem dX12_meets_43 : decode cX12_meets 43 = .ok (.iastore, 1) := by decide +kernel
theorem dX12_meets_44 : decode cX12_meets 44 = .ok (.iconst 1, 1) := by decide +kernel
theorem dX12_meets_45 : decode cX12_meets 45 = .ok (.istore 4, 2) := by decide +kernel
theorem dX12_meets_47 : decode cX12_meets 47 = .ok (.iconst 0, 1) := by decide +kernel
theorem dX12_meets_48 : decode cX12_meets 48 = .ok (.istore 5, 2) := by decide +kernel
theorem dX12_meets_50 : decode cX12_meets 50 = .ok (.iload 5, 2) := by decide +kernel
theorem dX12_meets_52 : decode cX12_meets 52 = .ok (.iload 4, 2) := by decide +kernel
theorem dX12_meets_54 : decode cX12_meets 54 = .ok (.if_icmp .ge 195, 3) := by decide +kernel
theorem dX12_meets_57 : decode cX12_meets 57 = .ok (.iconst 0, 1) := by decide +kernel
theorem dX12_meets_58 : decode cX12_meets 58 = .ok (.istore 6, 2) := by decide +kernel
theorem dX12_meets_60 : decode cX12_meets 60 = .ok (.iload 6, 2) := by decide +kernel
theorem dX12_meets_62 : decode cX12_meets 62 = .ok (.bipush 9, 2) := by decide +kernel
theorem dX12_meets_64 : decode cX12_meets 64 = .ok (.if_icmp .ge 179, 3) := by decide +kernel
theorem dX12_meets_67 : decode cX12_meets 67 = .ok (.iload 6, 2) := by decide +kernel
theorem dX12_meets_69 : decode cX12_meets 69 = .ok (.iconst 3, 1) := by decide +kernel
theorem dX12_meets_70 : decode cX12_meets 70 = .ok (.irem, 1) := by decide +kernel
theorem dX12_meets_71 : decode cX12_meets 71 = .ok (.iconst 1, 1) := by decide +kernel
theorem dX12_meets_72 : decode cX12_meets 72 = .ok (.isub, 1) := by decide +kernel
theorem dX12_meets_73 : decode cX12_meets 73 = .ok (.istore 7, 2) := by decide +kernel
theorem dX12_meets_75 : decode cX12_meets 75 = .ok (.iload 6, 2) := by decide +kernel
theorem dX12_meets_77 : decode cX12_meets 77 = .ok (.iconst 3, 1) := by decide +kernel
theorem dX12_meets_78 : decode cX12_meets 78 = .ok (.idiv, 1) := by decide +kernel
theorem dX12_meets_79 : decode cX12_meets 79 = .ok (.iconst 1, 1) := by decide +kernel
theorem dX12_meets_80 : decode cX12_meets 80 = .ok (.isub, 1) := by decide +kernel
theorem dX12_meets_81 : decode cX12_meets 81 = .ok (.istore 8, 2) := by decide +kernel
theorem dX12_meets_83 : decode cX12_meets 83 = .ok (.aload_n 0, 1) := by decide +kernel
theorem dX12_meets_84 : decode cX12_meets 84 = .ok (.getfield 60, 3) := by decide +kernel
theorem dX12_meets_87 : decode cX12_meets 87 = .ok (.iload 5, 2) := by decide +kernel
theorem dX12_meets_89 : decode cX12_meets 89 = .ok (.iaload, 1) := by decide +kernel
theorem dX12_meets_90 : decode cX12_meets 90 = .ok (.bipush 10, 2) := by decide +kernel
theorem dX12_meets_92 : decode cX12_meets 92 = .ok (.irem, 1) := by decide +kernel
theorem dX12_meets_93 : decode cX12_meets 93 = .ok (.iload 7, 2) := by decide +kernel
theorem dX12_meets_95 : decode cX12_meets 95 = .ok (.iadd, 1) := by decide +kernel
theorem dX12_meets_96 : decode cX12_meets 96 = .ok (.istore 9, 2) := by decide +kernel
theorem dX12_meets_98 : decode cX12_meets 98 = .ok (.aload_n 0, 1) := by decide +kernel
theorem dX12_meets_99 : decode cX12_meets 99 = .ok (.getfield 60, 3) := by decide +kernel
theorem dX12_meets_102 : decode cX12_meets 102 = .ok (.iload 5, 2) := by decide +kernel
theorem dX12_meets_104 : decode cX12_meets 104 = .ok (.iaload, 1) := by decide +kernel
theorem dX12_meets_105 : decode cX12_meets 105 = .ok (.bipush 10, 2) := by decide +kernel
theorem dX12_meets_107 : decode cX12_meets 107 = .ok (.idiv, 1) := by decide +kernel
theorem dX12_meets_108 : decode cX12_meets 108 = .ok (.iload 8, 2) := by decide +kernel
theorem dX12_meets_110 : decode cX12_meets 110 = .ok (.iadd, 1) := by decide +kernel
theorem dX12_meets_111 : decode cX12_meets 111 = .ok (.istore 10, 2) := by decide +kernel
theorem dX12_meets_113 : decode cX12_meets 113 = .ok (.iload 9, 2) := by decide +kernel
theorem dX12_meets_115 : decode cX12_meets 115 = .ok (.i2l, 1) := by decide +kernel
theorem dX12_meets_116 : decode cX12_meets 116 = .ok (.lconst 0, 1) := by decide +kernel
theorem dX12_meets_117 : decode cX12_meets 117 = .ok (.aload_n 0, 1) := by decide +kernel
theorem dX12_meets_118 : decode cX12_meets 118 = .ok (.getfield 88, 3) := by decide +kernel
theorem dX12_meets_121 : decode cX12_meets 121 = .ok (.iconst 1, 1) := by decide +kernel
theorem dX12_meets_122 : decode cX12_meets 122 = .ok (.iadd, 1) := by decide +kernel
theorem dX12_meets_123 : decode cX12_meets 123 = .ok (.i2l, 1) := by decide +kernel
theorem dX12_meets_124 : decode cX12_meets 124 = .ok (.invokestatic 100, 3) := by decide +kernel
theorem dX12_meets_127 : decode cX12_meets 127 = .ok (.ifCond .eq 38, 3) := by decide +kernel
theorem dX12_meets_130 : decode cX12_meets 130 = .ok (.iload 10, 2) := by decide +kernel
theorem dX12_meets_132 : decode cX12_meets 132 = .ok (.i2l, 1) := by decide +kernel
theorem dX12_meets_133 : decode cX12_meets 133 = .ok (.lconst 0, 1) := by decide +kernel
theorem dX12_meets_134 : decode cX12_meets 134 = .ok (.aload_n 0, 1) := by decide +kernel
theorem dX12_meets_135 : decode cX12_meets 135 = .ok (.getfield 92, 3) := by decide +kernel
theorem dX12_meets_138 : decode cX12_meets 138 = .ok (.iconst 1, 1) := by decide +kernel
theorem dX12_meets_139 : decode cX12_meets 139 = .ok (.iadd, 1) := by decide +kernel
theorem dX12_meets_140 : decode cX12_meets 140 = .ok (.i2l, 1) := by decide +kernel
theorem dX12_meets_141 : decode cX12_meets 141 = .ok (.invokestatic 100, 3) := by decide +kernel
theorem dX12_meets_144 : decode cX12_meets 144 = .ok (.ifCond .eq 21, 3) := by decide +kernel
theorem dX12_meets_147 : decode cX12_meets 147 = .ok (.iload_n 2, 1) := by decide +kernel
theorem dX12_meets_148 : decode cX12_meets 148 = .ok (.ifCond .ne 13, 3) := by decide +kernel
theorem dX12_meets_151 : decode cX12_meets 151 = .ok (.iload 7, 2) := by decide +kernel
theorem dX12_meets_153 : decode cX12_meets 153 = .ok (.ifCond .eq 8, 3) := by decide +kernel
theorem dX12_meets_156 : decode cX12_meets 156 = .ok (.iload 8, 2) := by decide +kernel
theorem dX12_meets_158 : decode cX12_meets 158 = .ok (.ifCond .ne 7, 3) := by decide +kernel
theorem dX12_meets_161 : decode cX12_meets 161 = .ok (.iconst 1, 1) := by decide +kernel
theorem dX12_meets_162 : decode cX12_meets 162 = .ok (.goto 4, 3) := by decide +kernel
theorem dX12_meets_165 : decode cX12_meets 165 = .ok (.iconst 0, 1) := by decide +kernel
theorem dX12_meets_166 : decode cX12_meets 166 = .ok (.istore 11, 2) := by decide +kernel
theorem dX12_meets_168 : decode cX12_meets 168 = .ok (.iload 11, 2) := by decide +kernel
theorem dX12_meets_170 : decode cX12_meets 170 = .ok (.ifCond .eq 67, 3) := by decide +kernel
theorem dX12_meets_173 : decode cX12_meets 173 = .ok (.aload_n 0, 1) := by decide +kernel
theorem dX12_meets_174 : decode cX12_meets 174 = .ok (.getfield 57, 3) := by decide +kernel
theorem dX12_meets_177 : decode cX12_meets 177 = .ok (.bipush 10, 2) := by decide +kernel
theorem dX12_meets_179 : decode cX12_meets 179 = .ok (.iload 10, 2) := by decide +kernel
theorem dX12_meets_181 : decode cX12_meets 181 = .ok (.imul, 1) := by decide +kernel
theorem dX12_meets_182 : decode cX12_meets 182 = .ok (.iload 9, 2) := by decide +kernel
theorem dX12_meets_184 : decode cX12_meets 184 = .ok (.iadd, 1) := by decide +kernel
theorem dX12_meets_185 : decode cX12_meets 185 = .ok (.baload, 1) := by decide +kernel
theorem dX12_meets_186 : decode cX12_meets 186 = .ok (.ifCond .ne 51, 3) := by decide +kernel
theorem dX12_meets_189 : decode cX12_meets 189 = .ok (.aload_n 0, 1) := by decide +kernel
theorem dX12_meets_190 : decode cX12_meets 190 = .ok (.bipush 10, 2) := by decide +kernel
theorem dX12_meets_192 : decode cX12_meets 192 = .ok (.iload 10, 2) := by decide +kernel
theorem dX12_meets_194 : decode cX12_meets 194 = .ok (.imul, 1) := by decide +kernel
theorem dX12_meets_195 : decode cX12_meets 195 = .ok (.iload 9, 2) := by decide +kernel
theorem dX12_meets_197 : decode cX12_meets 197 = .ok (.iadd, 1) := by decide +kernel
theorem dX12_meets_198 : decode cX12_meets 198 = .ok (.invokevirtual 228, 3) := by decide +kernel
theorem dX12_meets_201 : decode cX12_meets 201 = .ok (.iload_n 3, 1) := by decide +kernel
theorem dX12_meets_202 : decode cX12_meets 202 = .ok (.if_icmp .ne 35, 3) := by decide +kernel
theorem dX12_meets_205 : decode cX12_meets 205 = .ok (.aload_n 0, 1) := by decide +kernel
theorem dX12_meets_206 : decode cX12_meets 206 = .ok (.getfield 57, 3) := by decide +kernel
theorem dX12_meets_209 : decode cX12_meets 209 = .ok (.bipush 10, 2) := by decide +kernel
theorem dX12_meets_211 : decode cX12_meets 211 = .ok (.iload 10, 2) := by decide +kernel
theorem dX12_meets_213 : decode cX12_meets 213 = .ok (.imul, 1) := by decide +kernel
theorem dX12_meets_214 : decode cX12_meets 214 = .ok (.iload 9, 2) := by decide +kernel
theorem dX12_meets_216 : decode cX12_meets 216 = .ok (.iadd, 1) := by decide +kernel
theorem dX12_meets_217 : decode cX12_meets 217 = .ok (.iconst 1, 1) := by decide +kernel
theorem dX12_meets_218 : decode cX12_meets 218 = .ok (.bastore, 1) := by decide +kernel
theorem dX12_meets_219 : decode cX12_meets 219 = .ok (.aload_n 0, 1) := by decide +kernel
theorem dX12_meets_220 : decode cX12_meets 220 = .ok (.getfield 60, 3) := by decide +kernel
theorem dX12_meets_223 : decode cX12_meets 223 = .ok (.iload 4, 2) := by decide +kernel
theorem dX12_meets_225 : decode cX12_meets 225 = .ok (.bipush 10, 2) := by decide +kernel
theorem dX12_meets_227 : decode cX12_meets 227 = .ok (.iload 10, 2) := by decide +kernel
theorem dX12_meets_229 : decode cX12_meets 229 = .ok (.imul, 1) := by decide +kernel
theorem dX12_meets_230 : decode cX12_meets 230 = .ok (.iload 9, 2) := by decide +kernel
theorem dX12_meets_232 : decode cX12_meets 232 = .ok (.iadd, 1) := by decide +kernel
theorem dX12_meets_233 : decode cX12_meets 233 = .ok (.iastore, 1) := by decide +kernel
theorem dX12_meets_234 : decode cX12_meets 234 = .ok (.iinc 4 1, 3) := by decide +kernel
theorem dX12_meets_237 : decode cX12_meets 237 = .ok (.iinc 6 1, 3) := by decide +kernel
theorem dX12_meets_240 : decode cX12_meets 240 = .ok (.goto (-180), 3) := by decide +kernel
theorem dX12_meets_243 : decode cX12_meets 243 = .ok (.iinc 5 1, 3) := by decide +kernel
theorem dX12_meets_246 : decode cX12_meets 246 = .ok (.goto (-196), 3) := by decide +kernel
theorem dX12_meets_249 : decode cX12_meets 249 = .ok (.iload 4, 2) := by decide +kernel
theorem dX12_meets_251 : decode cX12_meets 251 = .ok (.ireturn, 1) := by decide +kernel
theorem dX12_isWhole_0 : decode cX12_isWhole 0 = .ok (.aload_n 0, 1) := by decide +kernel
theorem dX12_isWhole_1 : decode cX12_isWhole 1 = .ok (.invokevirtual 140, 3) := by decide +kernel
theorem dX12_isWhole_4 : decode cX12_isWhole 4 = .ok (.istore_n 1, 1) := by decide +kernel
theorem dX12_isWhole_5 : decode cX12_isWhole 5 = .ok (.iload_n 1, 1) := by decide +kernel
theorem dX12_isWhole_6 : decode cX12_isWhole 6 = .ok (.ifCond .ne 5, 3) := by decide +kernel
theorem dX12_isWhole_9 : decode cX12_isWhole 9 = .ok (.iconst 0, 1) := by decide +kernel
theorem dX12_isWhole_10 : decode cX12_isWhole 10 = .ok (.ireturn, 1) := by decide +kernel
theorem dX12_isWhole_11 : decode cX12_isWhole 11 = .ok (.iconst 0, 1) := by decide +kernel
theorem dX12_isWhole_12 : decode cX12_isWhole 12 = .ok (.istore_n 2, 1) := by decide +kernel
theorem dX12_isWhole_13 : decode cX12_isWhole 13 = .ok (.aload_n 0, 1) := by decide +kernel
theorem dX12_isWhole_14 : decode cX12_isWhole 14 = .ok (.getfield 7, 3) := by decide +kernel
theorem dX12_isWhole_17 : decode cX12_isWhole 17 = .ok (.iload_n 2, 1) := by decide +kernel
theorem dX12_isWhole_18 : decode cX12_isWhole 18 = .ok (.baload, 1) := by decide +kernel
theorem dX12_isWhole_19 : decode cX12_isWhole 19 = .ok (.ifCond .ne 9, 3) := by decide +kernel
theorem dX12_isWhole_22 : decode cX12_isWhole 22 = .ok (.iinc 2 1, 3) := by decide +kernel
theorem dX12_isWhole_25 : decode cX12_isWhole 25 = .ok (.goto (-12), 3) := by decide +kernel
theorem dX12_isWhole_28 : decode cX12_isWhole 28 = .ok (.aload_n 0, 1) := by decide +kernel
theorem dX12_isWhole_29 : decode cX12_isWhole 29 = .ok (.bipush 10, 2) := by decide +kernel
theorem dX12_isWhole_31 : decode cX12_isWhole 31 = .ok (.iload_n 2, 1) := by decide +kernel
theorem dX12_isWhole_32 : decode cX12_isWhole 32 = .ok (.aload_n 0, 1) := by decide +kernel
theorem dX12_isWhole_33 : decode cX12_isWhole 33 = .ok (.getfield 88, 3) := by decide +kernel
theorem dX12_isWhole_36 : decode cX12_isWhole 36 = .ok (.idiv, 1) := by decide +kernel
theorem dX12_isWhole_37 : decode cX12_isWhole 37 = .ok (.iconst 1, 1) := by decide +kernel
theorem dX12_isWhole_38 : decode cX12_isWhole 38 = .ok (.iadd, 1) := by decide +kernel
theorem dX12_isWhole_39 : decode cX12_isWhole 39 = .ok (.imul, 1) := by decide +kernel
theorem dX12_isWhole_40 : decode cX12_isWhole 40 = .ok (.iload_n 2, 1) := by decide +kernel
theorem dX12_isWhole_41 : decode cX12_isWhole 41 = .ok (.aload_n 0, 1) := by decide +kernel
theorem dX12_isWhole_42 : decode cX12_isWhole 42 = .ok (.getfield 88, 3) := by decide +kernel
theorem dX12_isWhole_45 : decode cX12_isWhole 45 = .ok (.irem, 1) := by decide +kernel
theorem dX12_isWhole_46 : decode cX12_isWhole 46 = .ok (.iadd, 1) := by decide +kernel
theorem dX12_isWhole_47 : decode cX12_isWhole 47 = .ok (.iconst 1, 1) := by decide +kernel
theorem dX12_isWhole_48 : decode cX12_isWhole 48 = .ok (.iadd, 1) := by decide +kernel
theorem dX12_isWhole_49 : decode cX12_isWhole 49 = .ok (.iconst 0, 1) := by decide +kernel
theorem dX12_isWhole_50 : decode cX12_isWhole 50 = .ok (.invokevirtual 231, 3) := by decide +kernel
theorem dX12_isWhole_53 : decode cX12_isWhole 53 = .ok (.iload_n 1, 1) := by decide +kernel
theorem dX12_isWhole_54 : decode cX12_isWhole 54 = .ok (.if_icmp .ne 31, 3) := by decide +kernel
theorem dX12_isWhole_57 : decode cX12_isWhole 57 = .ok (.aload_n 0, 1) := by decide +kernel
theorem dX12_isWhole_58 : decode cX12_isWhole 58 = .ok (.iconst 0, 1) := by decide +kernel
theorem dX12_isWhole_59 : decode cX12_isWhole 59 = .ok (.iconst 1, 1) := by decide +kernel
theorem dX12_isWhole_60 : decode cX12_isWhole 60 = .ok (.invokevirtual 231, 3) := by decide +kernel
theorem dX12_isWhole_63 : decode cX12_isWhole 63 = .ok (.aload_n 0, 1) := by decide +kernel
theorem dX12_isWhole_64 : decode cX12_isWhole 64 = .ok (.getfield 88, 3) := by decide +kernel
theorem dX12_isWhole_67 : decode cX12_isWhole 67 = .ok (.iconst 2, 1) := by decide +kernel
theorem dX12_isWhole_68 : decode cX12_isWhole 68 = .ok (.iadd, 1) := by decide +kernel
theorem dX12_isWhole_69 : decode cX12_isWhole 69 = .ok (.aload_n 0, 1) := by decide +kernel
theorem dX12_isWhole_70 : decode cX12_isWhole 70 = .ok (.getfield 92, 3) := by decide +kernel
theorem dX12_isWhole_73 : decode cX12_isWhole 73 = .ok (.iconst 2, 1) := by decide +kernel
theorem dX12_isWhole_74 : decode cX12_isWhole 74 = .ok (.iadd, 1) := by decide +kernel
theorem dX12_isWhole_75 : decode cX12_isWhole 75 = .ok (.imul, 1) := by decide +kernel
theorem dX12_isWhole_76 : decode cX12_isWhole 76 = .ok (.iload_n 1, 1) := by decide +kernel
theorem dX12_isWhole_77 : decode cX12_isWhole 77 = .ok (.isub, 1) := by decide +kernel
theorem dX12_isWhole_78 : decode cX12_isWhole 78 = .ok (.if_icmp .ne 7, 3) := by decide +kernel
theorem dX12_isWhole_81 : decode cX12_isWhole 81 = .ok (.iconst 1, 1) := by decide +kernel
theorem dX12_isWhole_82 : decode cX12_isWhole 82 = .ok (.goto 4, 3) := by decide +kernel
theorem dX12_isWhole_85 : decode cX12_isWhole 85 = .ok (.iconst 0, 1) := by decide +kernel
theorem dX12_isWhole_86 : decode cX12_isWhole 86 = .ok (.istore_n 3, 1) := by decide +kernel
theorem dX12_isWhole_87 : decode cX12_isWhole 87 = .ok (.iconst 1, 1) := by decide +kernel
theorem dX12_isWhole_88 : decode cX12_isWhole 88 = .ok (.istore 4, 2) := by decide +kernel
theorem dX12_isWhole_90 : decode cX12_isWhole 90 = .ok (.iload 4, 2) := by decide +kernel
theorem dX12_isWhole_92 : decode cX12_isWhole 92 = .ok (.aload_n 0, 1) := by decide +kernel
theorem dX12_isWhole_93 : decode cX12_isWhole 93 = .ok (.getfield 92, 3) := by decide +kernel
theorem dX12_isWhole_96 : decode cX12_isWhole 96 = .ok (.if_icmp .ge 125, 3) := by decide +kernel
theorem dX12_isWhole_99 : decode cX12_isWhole 99 = .ok (.iconst 1, 1) := by decide +kernel
theorem dX12_isWhole_100 : decode cX12_isWhole 100 = .ok (.istore 5, 2) := by decide +kernel
theorem dX12_isWhole_102 : decode cX12_isWhole 102 = .ok (.iload 5, 2) := by decide +kernel
theorem dX12_isWhole_104 : decode cX12_isWhole 104 = .ok (.aload_n 0, 1) := by decide +kernel
theorem dX12_isWhole_105 : decode cX12_isWhole 105 = .ok (.getfield 88, 3) := by decide +kernel
theorem dX12_isWhole_108 : decode cX12_isWhole 108 = .ok (.if_icmp .ge 107, 3) := by decide +kernel
theorem dX12_isWhole_111 : decode cX12_isWhole 111 = .ok (.aload_n 0, 1) := by decide +kernel
theorem dX12_isWhole_112 : decode cX12_isWhole 112 = .ok (.iload 5, 2) := by decide +kernel
theorem dX12_isWhole_114 : decode cX12_isWhole 114 = .ok (.iconst 1, 1) := by decide +kernel
theorem dX12_isWhole_115 : decode cX12_isWhole 115 = .ok (.isub, 1) := by decide +kernel
theorem dX12_isWhole_116 : decode cX12_isWhole 116 = .ok (.iload 4, 2) := by decide +kernel
theorem dX12_isWhole_118 : decode cX12_isWhole 118 = .ok (.iconst 1, 1) := by decide +kernel
theorem dX12_isWhole_119 : decode cX12_isWhole 119 = .ok (.isub, 1) := by decide +kernel
theorem dX12_isWhole_120 : decode cX12_isWhole 120 = .ok (.invokevirtual 210, 3) := by decide +kernel
theorem dX12_isWhole_123 : decode cX12_isWhole 123 = .ok (.istore 6, 2) := by decide +kernel
theorem dX12_isWhole_125 : decode cX12_isWhole 125 = .ok (.aload_n 0, 1) := by decide +kernel
theorem dX12_isWhole_126 : decode cX12_isWhole 126 = .ok (.iload 5, 2) := by decide +kernel
theorem dX12_isWhole_128 : decode cX12_isWhole 128 = .ok (.iload 4, 2) := by decide +kernel
theorem dX12_isWhole_130 : decode cX12_isWhole 130 = .ok (.iconst 1, 1) := by decide +kernel
theorem dX12_isWhole_131 : decode cX12_isWhole 131 = .ok (.isub, 1) := by decide +kernel
theorem dX12_isWhole_132 : decode cX12_isWhole 132 = .ok (.invokevirtual 210, 3) := by decide +kernel
theorem dX12_isWhole_135 : decode cX12_isWhole 135 = .ok (.istore 7, 2) := by decide +kernel
theorem dX12_isWhole_137 : decode cX12_isWhole 137 = .ok (.aload_n 0, 1) := by decide +kernel
theorem dX12_isWhole_138 : decode cX12_isWhole 138 = .ok (.iload 5, 2) := by decide +kernel
theorem dX12_isWhole_140 : decode cX12_isWhole 140 = .ok (.iconst 1, 1) := by decide +kernel
theorem dX12_isWhole_141 : decode cX12_isWhole 141 = .ok (.isub, 1) := by decide +kernel
theorem dX12_isWhole_142 : decode cX12_isWhole 142 = .ok (.iload 4, 2) := by decide +kernel
theorem dX12_isWhole_144 : decode cX12_isWhole 144 = .ok (.invokevirtual 210, 3) := by decide +kernel
theorem dX12_isWhole_147 : decode cX12_isWhole 147 = .ok (.istore 8, 2) := by decide +kernel
theorem dX12_isWhole_149 : decode cX12_isWhole 149 = .ok (.aload_n 0, 1) := by decide +kernel
theorem dX12_isWhole_150 : decode cX12_isWhole 150 = .ok (.iload 5, 2) := by decide +kernel
theorem dX12_isWhole_152 : decode cX12_isWhole 152 = .ok (.iload 4, 2) := by decide +kernel
theorem dX12_isWhole_154 : decode cX12_isWhole 154 = .ok (.invokevirtual 210, 3) := by decide +kernel
theorem dX12_isWhole_157 : decode cX12_isWhole 157 = .ok (.istore 9, 2) := by decide +kernel
theorem dX12_isWhole_159 : decode cX12_isWhole 159 = .ok (.iload_n 3, 1) := by decide +kernel
theorem dX12_isWhole_160 : decode cX12_isWhole 160 = .ok (.ifCond .eq 47, 3) := by decide +kernel
theorem dX12_isWhole_163 : decode cX12_isWhole 163 = .ok (.iload 6, 2) := by decide +kernel
theorem dX12_isWhole_165 : decode cX12_isWhole 165 = .ok (.ifCond .eq 18, 3) := by decide +kernel
theorem dX12_isWhole_168 : decode cX12_isWhole 168 = .ok (.iload 9, 2) := by decide +kernel
theorem dX12_isWhole_170 : decode cX12_isWhole 170 = .ok (.ifCond .eq 13, 3) := by decide +kernel
theorem dX12_isWhole_173 : decode cX12_isWhole 173 = .ok (.iload 7, 2) := by decide +kernel
theorem dX12_isWhole_175 : decode cX12_isWhole 175 = .ok (.ifCond .ne 8, 3) := by decide +kernel
theorem dX12_isWhole_178 : decode cX12_isWhole 178 = .ok (.iload 8, 2) := by decide +kernel
theorem dX12_isWhole_180 : decode cX12_isWhole 180 = .ok (.ifCond .eq 27, 3) := by decide +kernel
theorem dX12_isWhole_183 : decode cX12_isWhole 183 = .ok (.iload 7, 2) := by decide +kernel
theorem dX12_isWhole_185 : decode cX12_isWhole 185 = .ok (.ifCond .eq 18, 3) := by decide +kernel
theorem dX12_isWhole_188 : decode cX12_isWhole 188 = .ok (.iload 8, 2) := by decide +kernel
theorem dX12_isWhole_190 : decode cX12_isWhole 190 = .ok (.ifCond .eq 13, 3) := by decide +kernel
theorem dX12_isWhole_193 : decode cX12_isWhole 193 = .ok (.iload 6, 2) := by decide +kernel
theorem dX12_isWhole_195 : decode cX12_isWhole 195 = .ok (.ifCond .ne 8, 3) := by decide +kernel
theorem dX12_isWhole_198 : decode cX12_isWhole 198 = .ok (.iload 9, 2) := by decide +kernel
theorem dX12_isWhole_200 : decode cX12_isWhole 200 = .ok (.ifCond .eq 7, 3) := by decide +kernel
theorem dX12_isWhole_203 : decode cX12_isWhole 203 = .ok (.iconst 1, 1) := by decide +kernel
theorem dX12_isWhole_204 : decode cX12_isWhole 204 = .ok (.goto 4, 3) := by decide +kernel
theorem dX12_isWhole_207 : decode cX12_isWhole 207 = .ok (.iconst 0, 1) := by decide +kernel
theorem dX12_isWhole_208 : decode cX12_isWhole 208 = .ok (.istore_n 3, 1) := by decide +kernel
theorem dX12_isWhole_209 : decode cX12_isWhole 209 = .ok (.iinc 5 1, 3) := by decide +kernel
theorem dX12_isWhole_212 : decode cX12_isWhole 212 = .ok (.goto (-110), 3) := by decide +kernel
theorem dX12_isWhole_215 : decode cX12_isWhole 215 = .ok (.iinc 4 1, 3) := by decide +kernel
theorem dX12_isWhole_218 : decode cX12_isWhole 218 = .ok (.goto (-128), 3) := by decide +kernel
theorem dX12_isWhole_221 : decode cX12_isWhole 221 = .ok (.iload_n 3, 1) := by decide +kernel
theorem dX12_isWhole_222 : decode cX12_isWhole 222 = .ok (.ireturn, 1) := by decide +kernel
theorem dX12_whole_0 : decode cX12_whole 0 = .ok (.aload_n 0, 1) := by decide +kernel
theorem dX12_whole_1 : decode cX12_whole 1 = .ok (.invokevirtual 235, 3) := by decide +kernel
theorem dX12_whole_4 : decode cX12_whole 4 = .ok (.ifCond .eq 7, 3) := by decide +kernel
theorem dX12_whole_7 : decode cX12_whole 7 = .ok (.iconst 1, 1) := by decide +kernel
theorem dX12_whole_8 : decode cX12_whole 8 = .ok (.goto 4, 3) := by decide +kernel
theorem dX12_whole_11 : decode cX12_whole 11 = .ok (.iconst 0, 1) := by decide +kernel
theorem dX12_whole_12 : decode cX12_whole 12 = .ok (.ireturn, 1) := by decide +kernel
theorem dX12_isCorner_0 : decode cX12_isCorner 0 = .ok (.iload_n 1, 1) := by decide +kernel
theorem dX12_isCorner_1 : decode cX12_isCorner 1 = .ok (.i2l, 1) := by decide +kernel
theorem dX12_isCorner_2 : decode cX12_isCorner 2 = .ok (.lconst 0, 1) := by decide +kernel
theorem dX12_isCorner_3 : decode cX12_isCorner 3 = .ok (.aload_n 0, 1) := by decide +kernel
theorem dX12_isCorner_4 : decode cX12_isCorner 4 = .ok (.getfield 88, 3) := by decide +kernel
theorem dX12_isCorner_7 : decode cX12_isCorner 7 = .ok (.i2l, 1) := by decide +kernel
theorem dX12_isCorner_8 : decode cX12_isCorner 8 = .ok (.invokestatic 100, 3) := by decide +kernel
theorem dX12_isCorner_11 : decode cX12_isCorner 11 = .ok (.ifCond .eq 65, 3) := by decide +kernel
theorem dX12_isCorner_14 : decode cX12_isCorner 14 = .ok (.iload_n 2, 1) := by decide +kernel
theorem dX12_isCorner_15 : decode cX12_isCorner 15 = .ok (.i2l, 1) := by decide +kernel
theorem dX12_isCorner_16 : decode cX12_isCorner 16 = .ok (.lconst 0, 1) := by decide +kernel
theorem dX12_isCorner_17 : decode cX12_isCorner 17 = .ok (.aload_n 0, 1) := by decide +kernel
theorem dX12_isCorner_18 : decode cX12_isCorner 18 = .ok (.getfield 92, 3) := by decide +kernel
theorem dX12_isCorner_21 : decode cX12_isCorner 21 = .ok (.i2l, 1) := by decide +kernel
theorem dX12_isCorner_22 : decode cX12_isCorner 22 = .ok (.invokestatic 100, 3) := by decide +kernel
theorem dX12_isCorner_25 : decode cX12_isCorner 25 = .ok (.ifCond .eq 51, 3) := by decide +kernel
theorem dX12_isCorner_28 : decode cX12_isCorner 28 = .ok (.aload_n 0, 1) := by decide +kernel
theorem dX12_isCorner_29 : decode cX12_isCorner 29 = .ok (.iload_n 1, 1) := by decide +kernel
theorem dX12_isCorner_30 : decode cX12_isCorner 30 = .ok (.iconst 1, 1) := by decide +kernel
theorem dX12_isCorner_31 : decode cX12_isCorner 31 = .ok (.isub, 1) := by decide +kernel
theorem dX12_isCorner_32 : decode cX12_isCorner 32 = .ok (.iload_n 2, 1) := by decide +kernel
theorem dX12_isCorner_33 : decode cX12_isCorner 33 = .ok (.iconst 1, 1) := by decide +kernel
theorem dX12_isCorner_34 : decode cX12_isCorner 34 = .ok (.isub, 1) := by decide +kernel
theorem dX12_isCorner_35 : decode cX12_isCorner 35 = .ok (.invokevirtual 210, 3) := by decide +kernel
theorem dX12_isCorner_38 : decode cX12_isCorner 38 = .ok (.ifCond .ne 34, 3) := by decide +kernel
theorem dX12_isCorner_41 : decode cX12_isCorner 41 = .ok (.aload_n 0, 1) := by decide +kernel
theorem dX12_isCorner_42 : decode cX12_isCorner 42 = .ok (.iload_n 1, 1) := by decide +kernel
theorem dX12_isCorner_43 : decode cX12_isCorner 43 = .ok (.iload_n 2, 1) := by decide +kernel
theorem dX12_isCorner_44 : decode cX12_isCorner 44 = .ok (.iconst 1, 1) := by decide +kernel
theorem dX12_isCorner_45 : decode cX12_isCorner 45 = .ok (.isub, 1) := by decide +kernel
theorem dX12_isCorner_46 : decode cX12_isCorner 46 = .ok (.invokevirtual 210, 3) := by decide +kernel
theorem dX12_isCorner_49 : decode cX12_isCorner 49 = .ok (.ifCond .ne 23, 3) := by decide +kernel
theorem dX12_isCorner_52 : decode cX12_isCorner 52 = .ok (.aload_n 0, 1) := by decide +kernel
theorem dX12_isCorner_53 : decode cX12_isCorner 53 = .ok (.iload_n 1, 1) := by decide +kernel
theorem dX12_isCorner_54 : decode cX12_isCorner 54 = .ok (.iconst 1, 1) := by decide +kernel
theorem dX12_isCorner_55 : decode cX12_isCorner 55 = .ok (.isub, 1) := by decide +kernel
theorem dX12_isCorner_56 : decode cX12_isCorner 56 = .ok (.iload_n 2, 1) := by decide +kernel
theorem dX12_isCorner_57 : decode cX12_isCorner 57 = .ok (.invokevirtual 210, 3) := by decide +kernel
theorem dX12_isCorner_60 : decode cX12_isCorner 60 = .ok (.ifCond .ne 12, 3) := by decide +kernel
theorem dX12_isCorner_63 : decode cX12_isCorner 63 = .ok (.aload_n 0, 1) := by decide +kernel
theorem dX12_isCorner_64 : decode cX12_isCorner 64 = .ok (.iload_n 1, 1) := by decide +kernel
theorem dX12_isCorner_65 : decode cX12_isCorner 65 = .ok (.iload_n 2, 1) := by decide +kernel
theorem dX12_isCorner_66 : decode cX12_isCorner 66 = .ok (.invokevirtual 210, 3) := by decide +kernel
theorem dX12_isCorner_69 : decode cX12_isCorner 69 = .ok (.ifCond .eq 7, 3) := by decide +kernel
theorem dX12_isCorner_72 : decode cX12_isCorner 72 = .ok (.iconst 1, 1) := by decide +kernel
theorem dX12_isCorner_73 : decode cX12_isCorner 73 = .ok (.goto 4, 3) := by decide +kernel
theorem dX12_isCorner_76 : decode cX12_isCorner 76 = .ok (.iconst 0, 1) := by decide +kernel
theorem dX12_isCorner_77 : decode cX12_isCorner 77 = .ok (.ireturn, 1) := by decide +kernel
theorem dX12_isBarred_0 : decode cX12_isBarred 0 = .ok (.aload_n 0, 1) := by decide +kernel
theorem dX12_isBarred_1 : decode cX12_isBarred 1 = .ok (.iload_n 2, 1) := by decide +kernel
theorem dX12_isBarred_2 : decode cX12_isBarred 2 = .ok (.iload_n 3, 1) := by decide +kernel
theorem dX12_isBarred_3 : decode cX12_isBarred 3 = .ok (.invokevirtual 210, 3) := by decide +kernel
theorem dX12_isBarred_6 : decode cX12_isBarred 6 = .ok (.istore 6, 2) := by decide +kernel
theorem dX12_isBarred_8 : decode cX12_isBarred 8 = .ok (.aload_n 0, 1) := by decide +kernel
theorem dX12_isBarred_9 : decode cX12_isBarred 9 = .ok (.iload 4, 2) := by decide +kernel
theorem dX12_isBarred_11 : decode cX12_isBarred 11 = .ok (.iload 5, 2) := by decide +kernel
theorem dX12_isBarred_13 : decode cX12_isBarred 13 = .ok (.invokevirtual 210, 3) := by decide +kernel
theorem dX12_isBarred_16 : decode cX12_isBarred 16 = .ok (.istore 7, 2) := by decide +kernel
theorem dX12_isBarred_18 : decode cX12_isBarred 18 = .ok (.iload 6, 2) := by decide +kernel
theorem dX12_isBarred_20 : decode cX12_isBarred 20 = .ok (.ifCond .ne 8, 3) := by decide +kernel
theorem dX12_isBarred_23 : decode cX12_isBarred 23 = .ok (.iload 7, 2) := by decide +kernel
theorem dX12_isBarred_25 : decode cX12_isBarred 25 = .ok (.ifCond .eq 54, 3) := by decide +kernel
theorem dX12_isBarred_28 : decode cX12_isBarred 28 = .ok (.iload 6, 2) := by decide +kernel
theorem dX12_isBarred_30 : decode cX12_isBarred 30 = .ok (.ifCond .eq 53, 3) := by decide +kernel
theorem dX12_isBarred_33 : decode cX12_isBarred 33 = .ok (.iload 7, 2) := by decide +kernel
theorem dX12_isBarred_35 : decode cX12_isBarred 35 = .ok (.ifCond .eq 48, 3) := by decide +kernel
theorem dX12_isBarred_38 : decode cX12_isBarred 38 = .ok (.aload_n 0, 1) := by decide +kernel
theorem dX12_isBarred_39 : decode cX12_isBarred 39 = .ok (.getfield 23, 3) := by decide +kernel
theorem dX12_isBarred_42 : decode cX12_isBarred 42 = .ok (.bipush 64, 2) := by decide +kernel
theorem dX12_isBarred_44 : decode cX12_isBarred 44 = .ok (.iload_n 1, 1) := by decide +kernel
theorem dX12_isBarred_45 : decode cX12_isBarred 45 = .ok (.imul, 1) := by decide +kernel
theorem dX12_isBarred_46 : decode cX12_isBarred 46 = .ok (.aload_n 0, 1) := by decide +kernel
theorem dX12_isBarred_47 : decode cX12_isBarred 47 = .ok (.getfield 88, 3) := by decide +kernel
theorem dX12_isBarred_50 : decode cX12_isBarred 50 = .ok (.iload_n 3, 1) := by decide +kernel
theorem dX12_isBarred_51 : decode cX12_isBarred 51 = .ok (.imul, 1) := by decide +kernel
theorem dX12_isBarred_52 : decode cX12_isBarred 52 = .ok (.iadd, 1) := by decide +kernel
theorem dX12_isBarred_53 : decode cX12_isBarred 53 = .ok (.iload_n 2, 1) := by decide +kernel
theorem dX12_isBarred_54 : decode cX12_isBarred 54 = .ok (.iadd, 1) := by decide +kernel
theorem dX12_isBarred_55 : decode cX12_isBarred 55 = .ok (.iaload, 1) := by decide +kernel
theorem dX12_isBarred_56 : decode cX12_isBarred 56 = .ok (.aload_n 0, 1) := by decide +kernel
theorem dX12_isBarred_57 : decode cX12_isBarred 57 = .ok (.getfield 23, 3) := by decide +kernel
theorem dX12_isBarred_60 : decode cX12_isBarred 60 = .ok (.bipush 64, 2) := by decide +kernel
theorem dX12_isBarred_62 : decode cX12_isBarred 62 = .ok (.iload_n 1, 1) := by decide +kernel
theorem dX12_isBarred_63 : decode cX12_isBarred 63 = .ok (.imul, 1) := by decide +kernel
theorem dX12_isBarred_64 : decode cX12_isBarred 64 = .ok (.aload_n 0, 1) := by decide +kernel
theorem dX12_isBarred_65 : decode cX12_isBarred 65 = .ok (.getfield 88, 3) := by decide +kernel
theorem dX12_isBarred_68 : decode cX12_isBarred 68 = .ok (.iload 5, 2) := by decide +kernel
theorem dX12_isBarred_70 : decode cX12_isBarred 70 = .ok (.imul, 1) := by decide +kernel
theorem dX12_isBarred_71 : decode cX12_isBarred 71 = .ok (.iadd, 1) := by decide +kernel
theorem dX12_isBarred_72 : decode cX12_isBarred 72 = .ok (.iload 4, 2) := by decide +kernel
theorem dX12_isBarred_74 : decode cX12_isBarred 74 = .ok (.iadd, 1) := by decide +kernel
theorem dX12_isBarred_75 : decode cX12_isBarred 75 = .ok (.iaload, 1) := by decide +kernel
theorem dX12_isBarred_76 : decode cX12_isBarred 76 = .ok (.if_icmp .ne 7, 3) := by decide +kernel
theorem dX12_isBarred_79 : decode cX12_isBarred 79 = .ok (.iconst 1, 1) := by decide +kernel
theorem dX12_isBarred_80 : decode cX12_isBarred 80 = .ok (.goto 4, 3) := by decide +kernel
theorem dX12_isBarred_83 : decode cX12_isBarred 83 = .ok (.iconst 0, 1) := by decide +kernel
theorem dX12_isBarred_84 : decode cX12_isBarred 84 = .ok (.ireturn, 1) := by decide +kernel
theorem dX12_steps_0 : decode cX12_steps 0 = .ok (.iload 4, 2) := by decide +kernel
theorem dX12_steps_2 : decode cX12_steps 2 = .ok (.ifCond .ne 45, 3) := by decide +kernel
theorem dX12_steps_5 : decode cX12_steps 5 = .ok (.iload_n 2, 1) := by decide +kernel
theorem dX12_steps_6 : decode cX12_steps 6 = .ok (.aload_n 0, 1) := by decide +kernel
theorem dX12_steps_7 : decode cX12_steps 7 = .ok (.getfield 88, 3) := by decide +kernel
theorem dX12_steps_10 : decode cX12_steps 10 = .ok (.if_icmp .eq 17, 3) := by decide +kernel
theorem dX12_steps_13 : decode cX12_steps 13 = .ok (.aload_n 0, 1) := by decide +kernel
theorem dX12_steps_14 : decode cX12_steps 14 = .ok (.iload_n 1, 1) := by decide +kernel
theorem dX12_steps_15 : decode cX12_steps 15 = .ok (.iload_n 2, 1) := by decide +kernel
theorem dX12_steps_16 : decode cX12_steps 16 = .ok (.iload_n 3, 1) := by decide +kernel
theorem dX12_steps_17 : decode cX12_steps 17 = .ok (.iconst 1, 1) := by decide +kernel
theorem dX12_steps_18 : decode cX12_steps 18 = .ok (.isub, 1) := by decide +kernel
theorem dX12_steps_19 : decode cX12_steps 19 = .ok (.iload_n 2, 1) := by decide +kernel
theorem dX12_steps_20 : decode cX12_steps 20 = .ok (.iload_n 3, 1) := by decide +kernel
theorem dX12_steps_21 : decode cX12_steps 21 = .ok (.invokevirtual 239, 3) := by decide +kernel
theorem dX12_steps_24 : decode cX12_steps 24 = .ok (.ifCond .eq 7, 3) := by decide +kernel
theorem dX12_steps_27 : decode cX12_steps 27 = .ok (.iconst 0, 1) := by decide +kernel
theorem dX12_steps_28 : decode cX12_steps 28 = .ok (.goto 18, 3) := by decide +kernel
theorem dX12_steps_31 : decode cX12_steps 31 = .ok (.iload_n 2, 1) := by decide +kernel
theorem dX12_steps_32 : decode cX12_steps 32 = .ok (.iconst 1, 1) := by decide +kernel
theorem dX12_steps_33 : decode cX12_steps 33 = .ok (.iadd, 1) := by decide +kernel
theorem dX12_steps_34 : decode cX12_steps 34 = .ok (.iload_n 3, 1) := by decide +kernel
theorem dX12_steps_35 : decode cX12_steps 35 = .ok (.invokestatic 104, 3) := by decide +kernel
theorem dX12_steps_38 : decode cX12_steps 38 = .ok (.ifCond .eq 7, 3) := by decide +kernel
theorem dX12_steps_41 : decode cX12_steps 41 = .ok (.iconst 1, 1) := by decide +kernel
theorem dX12_steps_42 : decode cX12_steps 42 = .ok (.goto 4, 3) := by decide +kernel
theorem dX12_steps_45 : decode cX12_steps 45 = .ok (.iconst (-1), 1) := by decide +kernel
theorem dX12_steps_46 : decode cX12_steps 46 = .ok (.ireturn, 1) := by decide +kernel
theorem dX12_steps_47 : decode cX12_steps 47 = .ok (.iload_n 3, 1) := by decide +kernel
theorem dX12_steps_48 : decode cX12_steps 48 = .ok (.aload_n 0, 1) := by decide +kernel
theorem dX12_steps_49 : decode cX12_steps 49 = .ok (.getfield 92, 3) := by decide +kernel
theorem dX12_steps_52 : decode cX12_steps 52 = .ok (.if_icmp .eq 17, 3) := by decide +kernel
theorem dX12_steps_55 : decode cX12_steps 55 = .ok (.aload_n 0, 1) := by decide +kernel
theorem dX12_steps_56 : decode cX12_steps 56 = .ok (.iload_n 1, 1) := by decide +kernel
theorem dX12_steps_57 : decode cX12_steps 57 = .ok (.iload_n 2, 1) := by decide +kernel
theorem dX12_steps_58 : decode cX12_steps 58 = .ok (.iconst 1, 1) := by decide +kernel
theorem dX12_steps_59 : decode cX12_steps 59 = .ok (.isub, 1) := by decide +kernel
theorem dX12_steps_60 : decode cX12_steps 60 = .ok (.iload_n 3, 1) := by decide +kernel
theorem dX12_steps_61 : decode cX12_steps 61 = .ok (.iload_n 2, 1) := by decide +kernel
theorem dX12_steps_62 : decode cX12_steps 62 = .ok (.iload_n 3, 1) := by decide +kernel
theorem dX12_steps_63 : decode cX12_steps 63 = .ok (.invokevirtual 239, 3) := by decide +kernel
theorem dX12_steps_66 : decode cX12_steps 66 = .ok (.ifCond .eq 7, 3) := by decide +kernel
theorem dX12_steps_69 : decode cX12_steps 69 = .ok (.iconst 0, 1) := by decide +kernel
theorem dX12_steps_70 : decode cX12_steps 70 = .ok (.goto 16, 3) := by decide +kernel
theorem dX12_steps_73 : decode cX12_steps 73 = .ok (.iload_n 2, 1) := by decide +kernel
theorem dX12_steps_74 : decode cX12_steps 74 = .ok (.iload_n 3, 1) := by decide +kernel
theorem dX12_steps_75 : decode cX12_steps 75 = .ok (.invokestatic 104, 3) := by decide +kernel
theorem dX12_steps_78 : decode cX12_steps 78 = .ok (.ifCond .eq 7, 3) := by decide +kernel
theorem dX12_steps_81 : decode cX12_steps 81 = .ok (.iconst 1, 1) := by decide +kernel
theorem dX12_steps_82 : decode cX12_steps 82 = .ok (.goto 4, 3) := by decide +kernel
theorem dX12_steps_85 : decode cX12_steps 85 = .ok (.iconst (-1), 1) := by decide +kernel
theorem dX12_steps_86 : decode cX12_steps 86 = .ok (.ireturn, 1) := by decide +kernel
theorem dX12_rises_0 : decode cX12_rises 0 = .ok (.iconst 0, 1) := by decide +kernel
theorem dX12_rises_1 : decode cX12_rises 1 = .ok (.istore_n 2, 1) := by decide +kernel
theorem dX12_rises_2 : decode cX12_rises 2 = .ok (.iload_n 2, 1) := by decide +kernel
theorem dX12_rises_3 : decode cX12_rises 3 = .ok (.bipush 81, 2) := by decide +kernel
theorem dX12_rises_5 : decode cX12_rises 5 = .ok (.if_icmp .ge 18, 3) := by decide +kernel
theorem dX12_rises_8 : decode cX12_rises 8 = .ok (.aload_n 0, 1) := by decide +kernel
theorem dX12_rises_9 : decode cX12_rises 9 = .ok (.getfield 63, 3) := by decide +kernel
theorem dX12_rises_12 : decode cX12_rises 12 = .ok (.iload_n 2, 1) := by decide +kernel
theorem dX12_rises_13 : decode cX12_rises 13 = .ok (.sipush (-1000), 3) := by decide +kernel
theorem dX12_rises_16 : decode cX12_rises 16 = .ok (.iastore, 1) := by decide +kernel
theorem dX12_rises_17 : decode cX12_rises 17 = .ok (.iinc 2 1, 3) := by decide +kernel
theorem dX12_rises_20 : decode cX12_rises 20 = .ok (.goto (-18), 3) := by decide +kernel
theorem dX12_rises_23 : decode cX12_rises 23 = .ok (.iconst 0, 1) := by decide +kernel
theorem dX12_rises_24 : decode cX12_rises 24 = .ok (.istore_n 2, 1) := by decide +kernel
theorem dX12_rises_25 : decode cX12_rises 25 = .ok (.aload_n 0, 1) := by decide +kernel
theorem dX12_rises_26 : decode cX12_rises 26 = .ok (.iload_n 2, 1) := by decide +kernel
theorem dX12_rises_27 : decode cX12_rises 27 = .ok (.bipush 9, 2) := by decide +kernel
theorem dX12_rises_29 : decode cX12_rises 29 = .ok (.irem, 1) := by decide +kernel
theorem dX12_rises_30 : decode cX12_rises 30 = .ok (.iload_n 2, 1) := by decide +kernel
theorem dX12_rises_31 : decode cX12_rises 31 = .ok (.bipush 9, 2) := by decide +kernel
theorem dX12_rises_33 : decode cX12_rises 33 = .ok (.idiv, 1) := by decide +kernel
theorem dX12_rises_34 : decode cX12_rises 34 = .ok (.invokevirtual 243, 3) := by decide +kernel
theorem dX12_rises_37 : decode cX12_rises 37 = .ok (.ifCond .ne 9, 3) := by decide +kernel
theorem dX12_rises_40 : decode cX12_rises 40 = .ok (.iinc 2 1, 3) := by decide +kernel
theorem dX12_rises_43 : decode cX12_rises 43 = .ok (.goto (-18), 3) := by decide +kernel
theorem dX12_rises_46 : decode cX12_rises 46 = .ok (.aload_n 0, 1) := by decide +kernel
theorem dX12_rises_47 : decode cX12_rises 47 = .ok (.getfield 63, 3) := by decide +kernel
theorem dX12_rises_50 : decode cX12_rises 50 = .ok (.iload_n 2, 1) := by decide +kernel
theorem dX12_rises_51 : decode cX12_rises 51 = .ok (.iconst 0, 1) := by decide +kernel
theorem dX12_rises_52 : decode cX12_rises 52 = .ok (.iastore, 1) := by decide +kernel
theorem dX12_rises_53 : decode cX12_rises 53 = .ok (.iconst 1, 1) := by decide +kernel
theorem dX12_rises_54 : decode cX12_rises 54 = .ok (.istore_n 3, 1) := by decide +kernel
theorem dX12_rises_55 : decode cX12_rises 55 = .ok (.iload_n 3, 1) := by decide +kernel
theorem dX12_rises_56 : decode cX12_rises 56 = .ok (.ifCond .eq 227, 3) := by decide +kernel
theorem dX12_rises_59 : decode cX12_rises 59 = .ok (.iconst 0, 1) := by decide +kernel
theorem dX12_rises_60 : decode cX12_rises 60 = .ok (.istore_n 3, 1) := by decide +kernel
theorem dX12_rises_61 : decode cX12_rises 61 = .ok (.iconst 0, 1) := by decide +kernel
theorem dX12_rises_62 : decode cX12_rises 62 = .ok (.istore 4, 2) := by decide +kernel
theorem dX12_rises_64 : decode cX12_rises 64 = .ok (.iload 4, 2) := by decide +kernel
theorem dX12_rises_66 : decode cX12_rises 66 = .ok (.aload_n 0, 1) := by decide +kernel
theorem dX12_rises_67 : decode cX12_rises 67 = .ok (.getfield 92, 3) := by decide +kernel
theorem dX12_rises_70 : decode cX12_rises 70 = .ok (.if_icmp .gt 210, 3) := by decide +kernel
theorem dX12_rises_73 : decode cX12_rises 73 = .ok (.iconst 0, 1) := by decide +kernel
theorem dX12_rises_74 : decode cX12_rises 74 = .ok (.istore 5, 2) := by decide +kernel
theorem dX12_rises_76 : decode cX12_rises 76 = .ok (.iload 5, 2) := by decide +kernel
theorem dX12_rises_78 : decode cX12_rises 78 = .ok (.aload_n 0, 1) := by decide +kernel
theorem dX12_rises_79 : decode cX12_rises 79 = .ok (.getfield 88, 3) := by decide +kernel
theorem dX12_rises_82 : decode cX12_rises 82 = .ok (.if_icmp .gt 192, 3) := by decide +kernel
theorem dX12_rises_85 : decode cX12_rises 85 = .ok (.iconst 0, 1) := by decide +kernel
theorem dX12_rises_86 : decode cX12_rises 86 = .ok (.istore 6, 2) := by decide +kernel
theorem dX12_rises_88 : decode cX12_rises 88 = .ok (.iload 6, 2) := by decide +kernel
theorem dX12_rises_90 : decode cX12_rises 90 = .ok (.iconst 2, 1) := by decide +kernel
theorem dX12_rises_91 : decode cX12_rises 91 = .ok (.if_icmp .ge 177, 3) := by decide +kernel
theorem dX12_rises_94 : decode cX12_rises 94 = .ok (.aload_n 0, 1) := by decide +kernel
theorem dX12_rises_95 : decode cX12_rises 95 = .ok (.iload_n 1, 1) := by decide +kernel
theorem dX12_rises_96 : decode cX12_rises 96 = .ok (.iload 5, 2) := by decide +kernel
theorem dX12_rises_98 : decode cX12_rises 98 = .ok (.iload 4, 2) := by decide +kernel
theorem dX12_rises_100 : decode cX12_rises 100 = .ok (.iload 6, 2) := by decide +kernel
theorem dX12_rises_102 : decode cX12_rises 102 = .ok (.invokevirtual 246, 3) := by decide +kernel
theorem dX12_rises_105 : decode cX12_rises 105 = .ok (.istore 7, 2) := by decide +kernel
theorem dX12_rises_107 : decode cX12_rises 107 = .ok (.bipush 9, 2) := by decide +kernel
theorem dX12_rises_109 : decode cX12_rises 109 = .ok (.iload 4, 2) := by decide +kernel
theorem dX12_rises_111 : decode cX12_rises 111 = .ok (.imul, 1) := by decide +kernel
theorem dX12_rises_112 : decode cX12_rises 112 = .ok (.iload 5, 2) := by decide +kernel
theorem dX12_rises_114 : decode cX12_rises 114 = .ok (.iadd, 1) := by decide +kernel
theorem dX12_rises_115 : decode cX12_rises 115 = .ok (.istore 8, 2) := by decide +kernel
theorem dX12_rises_117 : decode cX12_rises 117 = .ok (.iload 6, 2) := by decide +kernel
theorem dX12_rises_119 : decode cX12_rises 119 = .ok (.ifCond .ne 10, 3) := by decide +kernel
theorem dX12_rises_122 : decode cX12_rises 122 = .ok (.iload 8, 2) := by decide +kernel
theorem dX12_rises_124 : decode cX12_rises 124 = .ok (.iconst 1, 1) := by decide +kernel
theorem dX12_rises_125 : decode cX12_rises 125 = .ok (.iadd, 1) := by decide +kernel
theorem dX12_rises_126 : decode cX12_rises 126 = .ok (.goto 8, 3) := by decide +kernel
theorem dX12_rises_129 : decode cX12_rises 129 = .ok (.iload 8, 2) := by decide +kernel
theorem dX12_rises_131 : decode cX12_rises 131 = .ok (.bipush 9, 2) := by decide +kernel
theorem dX12_rises_133 : decode cX12_rises 133 = .ok (.iadd, 1) := by decide +kernel
theorem dX12_rises_134 : decode cX12_rises 134 = .ok (.istore 9, 2) := by decide +kernel
theorem dX12_rises_136 : decode cX12_rises 136 = .ok (.iload 7, 2) := by decide +kernel
theorem dX12_rises_138 : decode cX12_rises 138 = .ok (.ifCond .eq 124, 3) := by decide +kernel
theorem dX12_rises_141 : decode cX12_rises 141 = .ok (.aload_n 0, 1) := by decide +kernel
theorem dX12_rises_142 : decode cX12_rises 142 = .ok (.getfield 63, 3) := by decide +kernel
theorem dX12_rises_145 : decode cX12_rises 145 = .ok (.iload 8, 2) := by decide +kernel
theorem dX12_rises_147 : decode cX12_rises 147 = .ok (.iaload, 1) := by decide +kernel
theorem dX12_rises_148 : decode cX12_rises 148 = .ok (.sipush (-1000), 3) := by decide +kernel
theorem dX12_rises_151 : decode cX12_rises 151 = .ok (.if_icmp .ne 7, 3) := by decide +kernel
theorem dX12_rises_154 : decode cX12_rises 154 = .ok (.iconst 1, 1) := by decide +kernel
theorem dX12_rises_155 : decode cX12_rises 155 = .ok (.goto 4, 3) := by decide +kernel
theorem dX12_rises_158 : decode cX12_rises 158 = .ok (.iconst 0, 1) := by decide +kernel
theorem dX12_rises_159 : decode cX12_rises 159 = .ok (.aload_n 0, 1) := by decide +kernel
theorem dX12_rises_160 : decode cX12_rises 160 = .ok (.getfield 63, 3) := by decide +kernel
theorem dX12_rises_163 : decode cX12_rises 163 = .ok (.iload 9, 2) := by decide +kernel
theorem dX12_rises_165 : decode cX12_rises 165 = .ok (.iaload, 1) := by decide +kernel
theorem dX12_rises_166 : decode cX12_rises 166 = .ok (.sipush (-1000), 3) := by decide +kernel
theorem dX12_rises_169 : decode cX12_rises 169 = .ok (.if_icmp .ne 7, 3) := by decide +kernel
theorem dX12_rises_172 : decode cX12_rises 172 = .ok (.iconst 1, 1) := by decide +kernel
theorem dX12_rises_173 : decode cX12_rises 173 = .ok (.goto 4, 3) := by decide +kernel
theorem dX12_rises_176 : decode cX12_rises 176 = .ok (.iconst 0, 1) := by decide +kernel
theorem dX12_rises_177 : decode cX12_rises 177 = .ok (.if_icmp .eq 85, 3) := by decide +kernel
theorem dX12_rises_180 : decode cX12_rises 180 = .ok (.aload_n 0, 1) := by decide +kernel
theorem dX12_rises_181 : decode cX12_rises 181 = .ok (.getfield 63, 3) := by decide +kernel
theorem dX12_rises_184 : decode cX12_rises 184 = .ok (.iload 9, 2) := by decide +kernel
theorem dX12_rises_186 : decode cX12_rises 186 = .ok (.aload_n 0, 1) := by decide +kernel
theorem dX12_rises_187 : decode cX12_rises 187 = .ok (.getfield 63, 3) := by decide +kernel
theorem dX12_rises_190 : decode cX12_rises 190 = .ok (.iload 8, 2) := by decide +kernel
theorem dX12_rises_192 : decode cX12_rises 192 = .ok (.iaload, 1) := by decide +kernel
theorem dX12_rises_193 : decode cX12_rises 193 = .ok (.sipush (-1000), 3) := by decide +kernel
theorem dX12_rises_196 : decode cX12_rises 196 = .ok (.if_icmp .ne 13, 3) := by decide +kernel
theorem dX12_rises_199 : decode cX12_rises 199 = .ok (.aload_n 0, 1) := by decide +kernel
theorem dX12_rises_200 : decode cX12_rises 200 = .ok (.getfield 63, 3) := by decide +kernel
theorem dX12_rises_203 : decode cX12_rises 203 = .ok (.iload 9, 2) := by decide +kernel
theorem dX12_rises_205 : decode cX12_rises 205 = .ok (.iaload, 1) := by decide +kernel
theorem dX12_rises_206 : decode cX12_rises 206 = .ok (.goto 13, 3) := by decide +kernel
theorem dX12_rises_209 : decode cX12_rises 209 = .ok (.aload_n 0, 1) := by decide +kernel
theorem dX12_rises_210 : decode cX12_rises 210 = .ok (.getfield 63, 3) := by decide +kernel
theorem dX12_rises_213 : decode cX12_rises 213 = .ok (.iload 8, 2) := by decide +kernel
theorem dX12_rises_215 : decode cX12_rises 215 = .ok (.iaload, 1) := by decide +kernel
theorem dX12_rises_216 : decode cX12_rises 216 = .ok (.iload 7, 2) := by decide +kernel
theorem dX12_rises_218 : decode cX12_rises 218 = .ok (.iadd, 1) := by decide +kernel
theorem dX12_rises_219 : decode cX12_rises 219 = .ok (.iastore, 1) := by decide +kernel
theorem dX12_rises_220 : decode cX12_rises 220 = .ok (.aload_n 0, 1) := by decide +kernel
theorem dX12_rises_221 : decode cX12_rises 221 = .ok (.getfield 63, 3) := by decide +kernel
theorem dX12_rises_224 : decode cX12_rises 224 = .ok (.iload 8, 2) := by decide +kernel
theorem dX12_rises_226 : decode cX12_rises 226 = .ok (.aload_n 0, 1) := by decide +kernel
theorem dX12_rises_227 : decode cX12_rises 227 = .ok (.getfield 63, 3) := by decide +kernel
theorem dX12_rises_230 : decode cX12_rises 230 = .ok (.iload 8, 2) := by decide +kernel
theorem dX12_rises_232 : decode cX12_rises 232 = .ok (.iaload, 1) := by decide +kernel
theorem dX12_rises_233 : decode cX12_rises 233 = .ok (.sipush (-1000), 3) := by decide +kernel
theorem dX12_rises_236 : decode cX12_rises 236 = .ok (.if_icmp .ne 16, 3) := by decide +kernel
theorem dX12_rises_239 : decode cX12_rises 239 = .ok (.aload_n 0, 1) := by decide +kernel
theorem dX12_rises_240 : decode cX12_rises 240 = .ok (.getfield 63, 3) := by decide +kernel
theorem dX12_rises_243 : decode cX12_rises 243 = .ok (.iload 9, 2) := by decide +kernel
theorem dX12_rises_245 : decode cX12_rises 245 = .ok (.iaload, 1) := by decide +kernel
theorem dX12_rises_246 : decode cX12_rises 246 = .ok (.iload 7, 2) := by decide +kernel
theorem dX12_rises_248 : decode cX12_rises 248 = .ok (.isub, 1) := by decide +kernel
theorem dX12_rises_249 : decode cX12_rises 249 = .ok (.goto 10, 3) := by decide +kernel
theorem dX12_rises_252 : decode cX12_rises 252 = .ok (.aload_n 0, 1) := by decide +kernel
theorem dX12_rises_253 : decode cX12_rises 253 = .ok (.getfield 63, 3) := by decide +kernel
theorem dX12_rises_256 : decode cX12_rises 256 = .ok (.iload 8, 2) := by decide +kernel
theorem dX12_rises_258 : decode cX12_rises 258 = .ok (.iaload, 1) := by decide +kernel
theorem dX12_rises_259 : decode cX12_rises 259 = .ok (.iastore, 1) := by decide +kernel
theorem dX12_rises_260 : decode cX12_rises 260 = .ok (.iconst 1, 1) := by decide +kernel
theorem dX12_rises_261 : decode cX12_rises 261 = .ok (.istore_n 3, 1) := by decide +kernel
theorem dX12_rises_262 : decode cX12_rises 262 = .ok (.iinc 6 1, 3) := by decide +kernel
theorem dX12_rises_265 : decode cX12_rises 265 = .ok (.goto (-177), 3) := by decide +kernel
theorem dX12_rises_268 : decode cX12_rises 268 = .ok (.iinc 5 1, 3) := by decide +kernel
theorem dX12_rises_271 : decode cX12_rises 271 = .ok (.goto (-195), 3) := by decide +kernel
theorem dX12_rises_274 : decode cX12_rises 274 = .ok (.iinc 4 1, 3) := by decide +kernel
theorem dX12_rises_277 : decode cX12_rises 277 = .ok (.goto (-213), 3) := by decide +kernel
theorem dX12_rises_280 : decode cX12_rises 280 = .ok (.goto (-225), 3) := by decide +kernel
theorem dX12_rises_283 : decode cX12_rises 283 = .ok (.return_, 1) := by decide +kernel
theorem dX12_refuses_0 : decode cX12_refuses 0 = .ok (.aload_n 0, 1) := by decide +kernel
theorem dX12_refuses_1 : decode cX12_refuses 1 = .ok (.getfield 20, 3) := by decide +kernel
theorem dX12_refuses_4 : decode cX12_refuses 4 = .ok (.iload_n 1, 1) := by decide +kernel
theorem dX12_refuses_5 : decode cX12_refuses 5 = .ok (.baload, 1) := by decide +kernel
theorem dX12_refuses_6 : decode cX12_refuses 6 = .ok (.ifCond .ne 8, 3) := by decide +kernel
theorem dX12_refuses_9 : decode cX12_refuses 9 = .ok (.bipush (-4), 2) := by decide +kernel
theorem dX12_refuses_11 : decode cX12_refuses 11 = .ok (.goto 16, 3) := by decide +kernel
theorem dX12_refuses_14 : decode cX12_refuses 14 = .ok (.aload_n 0, 1) := by decide +kernel
theorem dX12_refuses_15 : decode cX12_refuses 15 = .ok (.invokevirtual 235, 3) := by decide +kernel
theorem dX12_refuses_18 : decode cX12_refuses 18 = .ok (.ifCond .eq 7, 3) := by decide +kernel
theorem dX12_refuses_21 : decode cX12_refuses 21 = .ok (.iconst 0, 1) := by decide +kernel
theorem dX12_refuses_22 : decode cX12_refuses 22 = .ok (.goto 5, 3) := by decide +kernel
theorem dX12_refuses_25 : decode cX12_refuses 25 = .ok (.bipush (-2), 2) := by decide +kernel
theorem dX12_refuses_27 : decode cX12_refuses 27 = .ok (.ireturn, 1) := by decide +kernel
theorem dX12_height_0 : decode cX12_height 0 = .ok (.iload_n 1, 1) := by decide +kernel
theorem dX12_height_1 : decode cX12_height 1 = .ok (.invokestatic 188, 3) := by decide +kernel
theorem dX12_height_4 : decode cX12_height 4 = .ok (.ifCond .eq 12, 3) := by decide +kernel
theorem dX12_height_7 : decode cX12_height 7 = .ok (.aload_n 0, 1) := by decide +kernel
theorem dX12_height_8 : decode cX12_height 8 = .ok (.iload_n 2, 1) := by decide +kernel
theorem dX12_height_9 : decode cX12_height 9 = .ok (.iload_n 3, 1) := by decide +kernel
theorem dX12_height_10 : decode cX12_height 10 = .ok (.invokevirtual 243, 3) := by decide +kernel
theorem dX12_height_13 : decode cX12_height 13 = .ok (.ifCond .ne 7, 3) := by decide +kernel
theorem dX12_height_16 : decode cX12_height 16 = .ok (.sipush (-1001), 3) := by decide +kernel
theorem dX12_height_19 : decode cX12_height 19 = .ok (.ireturn, 1) := by decide +kernel
theorem dX12_height_20 : decode cX12_height 20 = .ok (.aload_n 0, 1) := by decide +kernel
theorem dX12_height_21 : decode cX12_height 21 = .ok (.iload_n 1, 1) := by decide +kernel
theorem dX12_height_22 : decode cX12_height 22 = .ok (.invokevirtual 249, 3) := by decide +kernel
theorem dX12_height_25 : decode cX12_height 25 = .ok (.istore 4, 2) := by decide +kernel
theorem dX12_height_27 : decode cX12_height 27 = .ok (.iload 4, 2) := by decide +kernel
theorem dX12_height_29 : decode cX12_height 29 = .ok (.ifCond .ge 10, 3) := by decide +kernel
theorem dX12_height_32 : decode cX12_height 32 = .ok (.iload 4, 2) := by decide +kernel
theorem dX12_height_34 : decode cX12_height 34 = .ok (.sipush 1000, 3) := by decide +kernel
theorem dX12_height_37 : decode cX12_height 37 = .ok (.isub, 1) := by decide +kernel
theorem dX12_height_38 : decode cX12_height 38 = .ok (.ireturn, 1) := by decide +kernel
theorem dX12_height_39 : decode cX12_height 39 = .ok (.aload_n 0, 1) := by decide +kernel
theorem dX12_height_40 : decode cX12_height 40 = .ok (.iload_n 1, 1) := by decide +kernel
theorem dX12_height_41 : decode cX12_height 41 = .ok (.invokevirtual 252, 3) := by decide +kernel
theorem dX12_height_44 : decode cX12_height 44 = .ok (.aload_n 0, 1) := by decide +kernel
theorem dX12_height_45 : decode cX12_height 45 = .ok (.getfield 63, 3) := by decide +kernel
theorem dX12_height_48 : decode cX12_height 48 = .ok (.bipush 9, 2) := by decide +kernel
theorem dX12_height_50 : decode cX12_height 50 = .ok (.iload_n 3, 1) := by decide +kernel
theorem dX12_height_51 : decode cX12_height 51 = .ok (.imul, 1) := by decide +kernel
theorem dX12_height_52 : decode cX12_height 52 = .ok (.iload_n 2, 1) := by decide +kernel
theorem dX12_height_53 : decode cX12_height 53 = .ok (.iadd, 1) := by decide +kernel
theorem dX12_height_54 : decode cX12_height 54 = .ok (.iaload, 1) := by decide +kernel
theorem dX12_height_55 : decode cX12_height 55 = .ok (.ireturn, 1) := by decide +kernel
theorem dX12_turnOf_0 : decode cX12_turnOf 0 = .ok (.iload_n 2, 1) := by decide +kernel
theorem dX12_turnOf_1 : decode cX12_turnOf 1 = .ok (.i2l, 1) := by decide +kernel
theorem dX12_turnOf_2 : decode cX12_turnOf 2 = .ok (.lconst 1, 1) := by decide +kernel
theorem dX12_turnOf_3 : decode cX12_turnOf 3 = .ok (.aload_n 0, 1) := by decide +kernel
theorem dX12_turnOf_4 : decode cX12_turnOf 4 = .ok (.getfield 88, 3) := by decide +kernel
theorem dX12_turnOf_7 : decode cX12_turnOf 7 = .ok (.iconst 1, 1) := by decide +kernel
theorem dX12_turnOf_8 : decode cX12_turnOf 8 = .ok (.isub, 1) := by decide +kernel
theorem dX12_turnOf_9 : decode cX12_turnOf 9 = .ok (.i2l, 1) := by decide +kernel
theorem dX12_turnOf_10 : decode cX12_turnOf 10 = .ok (.invokestatic 100, 3) := by decide +kernel
theorem dX12_turnOf_13 : decode cX12_turnOf 13 = .ok (.ifCond .eq 19, 3) := by decide +kernel
theorem dX12_turnOf_16 : decode cX12_turnOf 16 = .ok (.iload_n 3, 1) := by decide +kernel
theorem dX12_turnOf_17 : decode cX12_turnOf 17 = .ok (.i2l, 1) := by decide +kernel
theorem dX12_turnOf_18 : decode cX12_turnOf 18 = .ok (.lconst 1, 1) := by decide +kernel
theorem dX12_turnOf_19 : decode cX12_turnOf 19 = .ok (.aload_n 0, 1) := by decide +kernel
theorem dX12_turnOf_20 : decode cX12_turnOf 20 = .ok (.getfield 92, 3) := by decide +kernel
theorem dX12_turnOf_23 : decode cX12_turnOf 23 = .ok (.iconst 1, 1) := by decide +kernel
theorem dX12_turnOf_24 : decode cX12_turnOf 24 = .ok (.isub, 1) := by decide +kernel
theorem dX12_turnOf_25 : decode cX12_turnOf 25 = .ok (.i2l, 1) := by decide +kernel
theorem dX12_turnOf_26 : decode cX12_turnOf 26 = .ok (.invokestatic 100, 3) := by decide +kernel
theorem dX12_turnOf_29 : decode cX12_turnOf 29 = .ok (.ifCond .ne 6, 3) := by decide +kernel
theorem dX12_turnOf_32 : decode cX12_turnOf 32 = .ok (.bipush (-4), 2) := by decide +kernel
theorem dX12_turnOf_34 : decode cX12_turnOf 34 = .ok (.ireturn, 1) := by decide +kernel
theorem dX12_turnOf_35 : decode cX12_turnOf 35 = .ok (.aload_n 0, 1) := by decide +kernel
theorem dX12_turnOf_36 : decode cX12_turnOf 36 = .ok (.getfield 88, 3) := by decide +kernel
theorem dX12_turnOf_39 : decode cX12_turnOf 39 = .ok (.iload_n 3, 1) := by decide +kernel
theorem dX12_turnOf_40 : decode cX12_turnOf 40 = .ok (.iconst 1, 1) := by decide +kernel
theorem dX12_turnOf_41 : decode cX12_turnOf 41 = .ok (.isub, 1) := by decide +kernel
theorem dX12_turnOf_42 : decode cX12_turnOf 42 = .ok (.imul, 1) := by decide +kernel
theorem dX12_turnOf_43 : decode cX12_turnOf 43 = .ok (.iload_n 2, 1) := by decide +kernel
theorem dX12_turnOf_44 : decode cX12_turnOf 44 = .ok (.iadd, 1) := by decide +kernel
theorem dX12_turnOf_45 : decode cX12_turnOf 45 = .ok (.iconst 1, 1) := by decide +kernel
theorem dX12_turnOf_46 : decode cX12_turnOf 46 = .ok (.isub, 1) := by decide +kernel
theorem dX12_turnOf_47 : decode cX12_turnOf 47 = .ok (.istore 4, 2) := by decide +kernel
theorem dX12_turnOf_49 : decode cX12_turnOf 49 = .ok (.aload_n 0, 1) := by decide +kernel
theorem dX12_turnOf_50 : decode cX12_turnOf 50 = .ok (.getfield 7, 3) := by decide +kernel
theorem dX12_turnOf_53 : decode cX12_turnOf 53 = .ok (.iload 4, 2) := by decide +kernel
theorem dX12_turnOf_55 : decode cX12_turnOf 55 = .ok (.baload, 1) := by decide +kernel
theorem dX12_turnOf_56 : decode cX12_turnOf 56 = .ok (.ifCond .eq 51, 3) := by decide +kernel
theorem dX12_turnOf_59 : decode cX12_turnOf 59 = .ok (.aload_n 0, 1) := by decide +kernel
theorem dX12_turnOf_60 : decode cX12_turnOf 60 = .ok (.getfield 7, 3) := by decide +kernel
theorem dX12_turnOf_63 : decode cX12_turnOf 63 = .ok (.iload 4, 2) := by decide +kernel
theorem dX12_turnOf_65 : decode cX12_turnOf 65 = .ok (.iconst 1, 1) := by decide +kernel
theorem dX12_turnOf_66 : decode cX12_turnOf 66 = .ok (.iadd, 1) := by decide +kernel
theorem dX12_turnOf_67 : decode cX12_turnOf 67 = .ok (.baload, 1) := by decide +kernel
theorem dX12_turnOf_68 : decode cX12_turnOf 68 = .ok (.ifCond .eq 39, 3) := by decide +kernel
theorem dX12_turnOf_71 : decode cX12_turnOf 71 = .ok (.aload_n 0, 1) := by decide +kernel
theorem dX12_turnOf_72 : decode cX12_turnOf 72 = .ok (.getfield 7, 3) := by decide +kernel
theorem dX12_turnOf_75 : decode cX12_turnOf 75 = .ok (.iload 4, 2) := by decide +kernel
theorem dX12_turnOf_77 : decode cX12_turnOf 77 = .ok (.aload_n 0, 1) := by decide +kernel
theorem dX12_turnOf_78 : decode cX12_turnOf 78 = .ok (.getfield 88, 3) := by decide +kernel
theorem dX12_turnOf_81 : decode cX12_turnOf 81 = .ok (.iadd, 1) := by decide +kernel
theorem dX12_turnOf_82 : decode cX12_turnOf 82 = .ok (.baload, 1) := by decide +kernel
theorem dX12_turnOf_83 : decode cX12_turnOf 83 = .ok (.ifCond .eq 24, 3) := by decide +kernel
theorem dX12_turnOf_86 : decode cX12_turnOf 86 = .ok (.aload_n 0, 1) := by decide +kernel
theorem dX12_turnOf_87 : decode cX12_turnOf 87 = .ok (.getfield 7, 3) := by decide +kernel
theorem dX12_turnOf_90 : decode cX12_turnOf 90 = .ok (.iload 4, 2) := by decide +kernel
theorem dX12_turnOf_92 : decode cX12_turnOf 92 = .ok (.aload_n 0, 1) := by decide +kernel
theorem dX12_turnOf_93 : decode cX12_turnOf 93 = .ok (.getfield 88, 3) := by decide +kernel
theorem dX12_turnOf_96 : decode cX12_turnOf 96 = .ok (.iadd, 1) := by decide +kernel
