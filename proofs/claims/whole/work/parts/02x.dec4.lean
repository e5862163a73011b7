theorem dX12_turnOf_97 : decode cX12_turnOf 97 = .ok (.iconst 1, 1) := by decide +kernel
theorem dX12_turnOf_98 : decode cX12_turnOf 98 = .ok (.iadd, 1) := by decide +kernel
theorem dX12_turnOf_99 : decode cX12_turnOf 99 = .ok (.baload, 1) := by decide +kernel
theorem dX12_turnOf_100 : decode cX12_turnOf 100 = .ok (.ifCond .eq 7, 3) := by decide +kernel
theorem dX12_turnOf_103 : decode cX12_turnOf 103 = .ok (.iconst 1, 1) := by decide +kernel
theorem dX12_turnOf_104 : decode cX12_turnOf 104 = .ok (.goto 4, 3) := by decide +kernel
theorem dX12_turnOf_107 : decode cX12_turnOf 107 = .ok (.iconst 0, 1) := by decide +kernel
theorem dX12_turnOf_108 : decode cX12_turnOf 108 = .ok (.istore 5, 2) := by decide +kernel
theorem dX12_turnOf_110 : decode cX12_turnOf 110 = .ok (.iload 5, 2) := by decide +kernel
theorem dX12_turnOf_112 : decode cX12_turnOf 112 = .ok (.ifCond .eq 55, 3) := by decide +kernel
theorem dX12_turnOf_115 : decode cX12_turnOf 115 = .ok (.aload_n 0, 1) := by decide +kernel
theorem dX12_turnOf_116 : decode cX12_turnOf 116 = .ok (.getfield 23, 3) := by decide +kernel
theorem dX12_turnOf_119 : decode cX12_turnOf 119 = .ok (.bipush 64, 2) := by decide +kernel
theorem dX12_turnOf_121 : decode cX12_turnOf 121 = .ok (.iload_n 1, 1) := by decide +kernel
theorem dX12_turnOf_122 : decode cX12_turnOf 122 = .ok (.imul, 1) := by decide +kernel
theorem dX12_turnOf_123 : decode cX12_turnOf 123 = .ok (.iload 4, 2) := by decide +kernel
theorem dX12_turnOf_125 : decode cX12_turnOf 125 = .ok (.iadd, 1) := by decide +kernel
theorem dX12_turnOf_126 : decode cX12_turnOf 126 = .ok (.iaload, 1) := by decide +kernel
theorem dX12_turnOf_127 : decode cX12_turnOf 127 = .ok (.iconst 2, 1) := by decide +kernel
theorem dX12_turnOf_128 : decode cX12_turnOf 128 = .ok (.iload 4, 2) := by decide +kernel
theorem dX12_turnOf_130 : decode cX12_turnOf 130 = .ok (.imul, 1) := by decide +kernel
theorem dX12_turnOf_131 : decode cX12_turnOf 131 = .ok (.if_icmp .ne 36, 3) := by decide +kernel
theorem dX12_turnOf_134 : decode cX12_turnOf 134 = .ok (.aload_n 0, 1) := by decide +kernel
theorem dX12_turnOf_135 : decode cX12_turnOf 135 = .ok (.getfield 23, 3) := by decide +kernel
theorem dX12_turnOf_138 : decode cX12_turnOf 138 = .ok (.bipush 64, 2) := by decide +kernel
theorem dX12_turnOf_140 : decode cX12_turnOf 140 = .ok (.iload_n 1, 1) := by decide +kernel
theorem dX12_turnOf_141 : decode cX12_turnOf 141 = .ok (.imul, 1) := by decide +kernel
theorem dX12_turnOf_142 : decode cX12_turnOf 142 = .ok (.iload 4, 2) := by decide +kernel
theorem dX12_turnOf_144 : decode cX12_turnOf 144 = .ok (.iadd, 1) := by decide +kernel
theorem dX12_turnOf_145 : decode cX12_turnOf 145 = .ok (.aload_n 0, 1) := by decide +kernel
theorem dX12_turnOf_146 : decode cX12_turnOf 146 = .ok (.getfield 88, 3) := by decide +kernel
theorem dX12_turnOf_149 : decode cX12_turnOf 149 = .ok (.iadd, 1) := by decide +kernel
theorem dX12_turnOf_150 : decode cX12_turnOf 150 = .ok (.iaload, 1) := by decide +kernel
theorem dX12_turnOf_151 : decode cX12_turnOf 151 = .ok (.iconst 2, 1) := by decide +kernel
theorem dX12_turnOf_152 : decode cX12_turnOf 152 = .ok (.iload 4, 2) := by decide +kernel
theorem dX12_turnOf_154 : decode cX12_turnOf 154 = .ok (.aload_n 0, 1) := by decide +kernel
theorem dX12_turnOf_155 : decode cX12_turnOf 155 = .ok (.getfield 88, 3) := by decide +kernel
theorem dX12_turnOf_158 : decode cX12_turnOf 158 = .ok (.iadd, 1) := by decide +kernel
theorem dX12_turnOf_159 : decode cX12_turnOf 159 = .ok (.imul, 1) := by decide +kernel
theorem dX12_turnOf_160 : decode cX12_turnOf 160 = .ok (.if_icmp .ne 7, 3) := by decide +kernel
theorem dX12_turnOf_163 : decode cX12_turnOf 163 = .ok (.iconst 1, 1) := by decide +kernel
theorem dX12_turnOf_164 : decode cX12_turnOf 164 = .ok (.goto 4, 3) := by decide +kernel
theorem dX12_turnOf_167 : decode cX12_turnOf 167 = .ok (.iconst 0, 1) := by decide +kernel
theorem dX12_turnOf_168 : decode cX12_turnOf 168 = .ok (.istore 6, 2) := by decide +kernel
theorem dX12_turnOf_170 : decode cX12_turnOf 170 = .ok (.iload 5, 2) := by decide +kernel
theorem dX12_turnOf_172 : decode cX12_turnOf 172 = .ok (.ifCond .eq 51, 3) := by decide +kernel
theorem dX12_turnOf_175 : decode cX12_turnOf 175 = .ok (.aload_n 0, 1) := by decide +kernel
theorem dX12_turnOf_176 : decode cX12_turnOf 176 = .ok (.getfield 23, 3) := by decide +kernel
theorem dX12_turnOf_179 : decode cX12_turnOf 179 = .ok (.bipush 64, 2) := by decide +kernel
theorem dX12_turnOf_181 : decode cX12_turnOf 181 = .ok (.iload_n 1, 1) := by decide +kernel
theorem dX12_turnOf_182 : decode cX12_turnOf 182 = .ok (.imul, 1) := by decide +kernel
theorem dX12_turnOf_183 : decode cX12_turnOf 183 = .ok (.iload 4, 2) := by decide +kernel
theorem dX12_turnOf_185 : decode cX12_turnOf 185 = .ok (.iadd, 1) := by decide +kernel
theorem dX12_turnOf_186 : decode cX12_turnOf 186 = .ok (.iaload, 1) := by decide +kernel
theorem dX12_turnOf_187 : decode cX12_turnOf 187 = .ok (.iconst 2, 1) := by decide +kernel
theorem dX12_turnOf_188 : decode cX12_turnOf 188 = .ok (.iload 4, 2) := by decide +kernel
theorem dX12_turnOf_190 : decode cX12_turnOf 190 = .ok (.imul, 1) := by decide +kernel
theorem dX12_turnOf_191 : decode cX12_turnOf 191 = .ok (.iconst 1, 1) := by decide +kernel
theorem dX12_turnOf_192 : decode cX12_turnOf 192 = .ok (.iadd, 1) := by decide +kernel
theorem dX12_turnOf_193 : decode cX12_turnOf 193 = .ok (.if_icmp .ne 30, 3) := by decide +kernel
theorem dX12_turnOf_196 : decode cX12_turnOf 196 = .ok (.aload_n 0, 1) := by decide +kernel
theorem dX12_turnOf_197 : decode cX12_turnOf 197 = .ok (.getfield 23, 3) := by decide +kernel
theorem dX12_turnOf_200 : decode cX12_turnOf 200 = .ok (.bipush 64, 2) := by decide +kernel
theorem dX12_turnOf_202 : decode cX12_turnOf 202 = .ok (.iload_n 1, 1) := by decide +kernel
theorem dX12_turnOf_203 : decode cX12_turnOf 203 = .ok (.imul, 1) := by decide +kernel
theorem dX12_turnOf_204 : decode cX12_turnOf 204 = .ok (.iload 4, 2) := by decide +kernel
theorem dX12_turnOf_206 : decode cX12_turnOf 206 = .ok (.iadd, 1) := by decide +kernel
theorem dX12_turnOf_207 : decode cX12_turnOf 207 = .ok (.iconst 1, 1) := by decide +kernel
theorem dX12_turnOf_208 : decode cX12_turnOf 208 = .ok (.iadd, 1) := by decide +kernel
theorem dX12_turnOf_209 : decode cX12_turnOf 209 = .ok (.iaload, 1) := by decide +kernel
theorem dX12_turnOf_210 : decode cX12_turnOf 210 = .ok (.iconst 2, 1) := by decide +kernel
theorem dX12_turnOf_211 : decode cX12_turnOf 211 = .ok (.iload 4, 2) := by decide +kernel
theorem dX12_turnOf_213 : decode cX12_turnOf 213 = .ok (.imul, 1) := by decide +kernel
theorem dX12_turnOf_214 : decode cX12_turnOf 214 = .ok (.iconst 3, 1) := by decide +kernel
theorem dX12_turnOf_215 : decode cX12_turnOf 215 = .ok (.iadd, 1) := by decide +kernel
theorem dX12_turnOf_216 : decode cX12_turnOf 216 = .ok (.if_icmp .ne 7, 3) := by decide +kernel
theorem dX12_turnOf_219 : decode cX12_turnOf 219 = .ok (.iconst 1, 1) := by decide +kernel
theorem dX12_turnOf_220 : decode cX12_turnOf 220 = .ok (.goto 4, 3) := by decide +kernel
theorem dX12_turnOf_223 : decode cX12_turnOf 223 = .ok (.iconst 0, 1) := by decide +kernel
theorem dX12_turnOf_224 : decode cX12_turnOf 224 = .ok (.istore 7, 2) := by decide +kernel
theorem dX12_turnOf_226 : decode cX12_turnOf 226 = .ok (.iload 6, 2) := by decide +kernel
theorem dX12_turnOf_228 : decode cX12_turnOf 228 = .ok (.ifCond .ne 11, 3) := by decide +kernel
theorem dX12_turnOf_231 : decode cX12_turnOf 231 = .ok (.iload 7, 2) := by decide +kernel
theorem dX12_turnOf_233 : decode cX12_turnOf 233 = .ok (.ifCond .ne 6, 3) := by decide +kernel
theorem dX12_turnOf_236 : decode cX12_turnOf 236 = .ok (.bipush (-4), 2) := by decide +kernel
theorem dX12_turnOf_238 : decode cX12_turnOf 238 = .ok (.ireturn, 1) := by decide +kernel
theorem dX12_turnOf_239 : decode cX12_turnOf 239 = .ok (.iload 6, 2) := by decide +kernel
theorem dX12_turnOf_241 : decode cX12_turnOf 241 = .ok (.aload_n 0, 1) := by decide +kernel
theorem dX12_turnOf_242 : decode cX12_turnOf 242 = .ok (.iload 4, 2) := by decide +kernel
theorem dX12_turnOf_244 : decode cX12_turnOf 244 = .ok (.invokevirtual 150, 3) := by decide +kernel
theorem dX12_turnOf_247 : decode cX12_turnOf 247 = .ok (.if_icmp .ne 7, 3) := by decide +kernel
theorem dX12_turnOf_250 : decode cX12_turnOf 250 = .ok (.iconst 0, 1) := by decide +kernel
theorem dX12_turnOf_251 : decode cX12_turnOf 251 = .ok (.goto 4, 3) := by decide +kernel
theorem dX12_turnOf_254 : decode cX12_turnOf 254 = .ok (.iconst 1, 1) := by decide +kernel
theorem dX12_turnOf_255 : decode cX12_turnOf 255 = .ok (.ireturn, 1) := by decide +kernel
theorem dX12_across_0 : decode cX12_across 0 = .ok (.aload_n 0, 1) := by decide +kernel
theorem dX12_across_1 : decode cX12_across 1 = .ok (.getfield 88, 3) := by decide +kernel
theorem dX12_across_4 : decode cX12_across 4 = .ok (.iload_n 3, 1) := by decide +kernel
theorem dX12_across_5 : decode cX12_across 5 = .ok (.iconst 1, 1) := by decide +kernel
theorem dX12_across_6 : decode cX12_across 6 = .ok (.isub, 1) := by decide +kernel
theorem dX12_across_7 : decode cX12_across 7 = .ok (.imul, 1) := by decide +kernel
theorem dX12_across_8 : decode cX12_across 8 = .ok (.iload_n 2, 1) := by decide +kernel
theorem dX12_across_9 : decode cX12_across 9 = .ok (.iadd, 1) := by decide +kernel
theorem dX12_across_10 : decode cX12_across 10 = .ok (.iconst 1, 1) := by decide +kernel
theorem dX12_across_11 : decode cX12_across 11 = .ok (.isub, 1) := by decide +kernel
theorem dX12_across_12 : decode cX12_across 12 = .ok (.istore 4, 2) := by decide +kernel
theorem dX12_across_14 : decode cX12_across 14 = .ok (.aload_n 0, 1) := by decide +kernel
theorem dX12_across_15 : decode cX12_across 15 = .ok (.getfield 23, 3) := by decide +kernel
theorem dX12_across_18 : decode cX12_across 18 = .ok (.bipush 64, 2) := by decide +kernel
theorem dX12_across_20 : decode cX12_across 20 = .ok (.iload_n 1, 1) := by decide +kernel
theorem dX12_across_21 : decode cX12_across 21 = .ok (.imul, 1) := by decide +kernel
theorem dX12_across_22 : decode cX12_across 22 = .ok (.iload 4, 2) := by decide +kernel
theorem dX12_across_24 : decode cX12_across 24 = .ok (.iadd, 1) := by decide +kernel
theorem dX12_across_25 : decode cX12_across 25 = .ok (.iaload, 1) := by decide +kernel
theorem dX12_across_26 : decode cX12_across 26 = .ok (.iconst 2, 1) := by decide +kernel
theorem dX12_across_27 : decode cX12_across 27 = .ok (.iload 4, 2) := by decide +kernel
theorem dX12_across_29 : decode cX12_across 29 = .ok (.imul, 1) := by decide +kernel
theorem dX12_across_30 : decode cX12_across 30 = .ok (.if_icmp .ne 7, 3) := by decide +kernel
theorem dX12_across_33 : decode cX12_across 33 = .ok (.iconst 1, 1) := by decide +kernel
theorem dX12_across_34 : decode cX12_across 34 = .ok (.goto 4, 3) := by decide +kernel
theorem dX12_across_37 : decode cX12_across 37 = .ok (.iconst 0, 1) := by decide +kernel
theorem dX12_across_38 : decode cX12_across 38 = .ok (.istore 5, 2) := by decide +kernel
theorem dX12_across_40 : decode cX12_across 40 = .ok (.aload_n 0, 1) := by decide +kernel
theorem dX12_across_41 : decode cX12_across 41 = .ok (.iload_n 1, 1) := by decide +kernel
theorem dX12_across_42 : decode cX12_across 42 = .ok (.iload 5, 2) := by decide +kernel
theorem dX12_across_44 : decode cX12_across 44 = .ok (.ifCond .eq 12, 3) := by decide +kernel
theorem dX12_across_47 : decode cX12_across 47 = .ok (.iconst 2, 1) := by decide +kernel
theorem dX12_across_48 : decode cX12_across 48 = .ok (.iload 4, 2) := by decide +kernel
theorem dX12_across_50 : decode cX12_across 50 = .ok (.imul, 1) := by decide +kernel
theorem dX12_across_51 : decode cX12_across 51 = .ok (.iconst 1, 1) := by decide +kernel
theorem dX12_across_52 : decode cX12_across 52 = .ok (.iadd, 1) := by decide +kernel
theorem dX12_across_53 : decode cX12_across 53 = .ok (.goto 7, 3) := by decide +kernel
theorem dX12_across_56 : decode cX12_across 56 = .ok (.iconst 2, 1) := by decide +kernel
theorem dX12_across_57 : decode cX12_across 57 = .ok (.iload 4, 2) := by decide +kernel
theorem dX12_across_59 : decode cX12_across 59 = .ok (.imul, 1) := by decide +kernel
theorem dX12_across_60 : decode cX12_across 60 = .ok (.invokevirtual 191, 3) := by decide +kernel
theorem dX12_across_63 : decode cX12_across 63 = .ok (.aload_n 0, 1) := by decide +kernel
theorem dX12_across_64 : decode cX12_across 64 = .ok (.iload_n 1, 1) := by decide +kernel
theorem dX12_across_65 : decode cX12_across 65 = .ok (.iload 5, 2) := by decide +kernel
theorem dX12_across_67 : decode cX12_across 67 = .ok (.ifCond .eq 12, 3) := by decide +kernel
theorem dX12_across_70 : decode cX12_across 70 = .ok (.iconst 2, 1) := by decide +kernel
theorem dX12_across_71 : decode cX12_across 71 = .ok (.iload 4, 2) := by decide +kernel
theorem dX12_across_73 : decode cX12_across 73 = .ok (.imul, 1) := by decide +kernel
theorem dX12_across_74 : decode cX12_across 74 = .ok (.iconst 3, 1) := by decide +kernel
theorem dX12_across_75 : decode cX12_across 75 = .ok (.iadd, 1) := by decide +kernel
theorem dX12_across_76 : decode cX12_across 76 = .ok (.goto 12, 3) := by decide +kernel
theorem dX12_across_79 : decode cX12_across 79 = .ok (.iconst 2, 1) := by decide +kernel
theorem dX12_across_80 : decode cX12_across 80 = .ok (.iload 4, 2) := by decide +kernel
theorem dX12_across_82 : decode cX12_across 82 = .ok (.aload_n 0, 1) := by decide +kernel
theorem dX12_across_83 : decode cX12_across 83 = .ok (.getfield 88, 3) := by decide +kernel
theorem dX12_across_86 : decode cX12_across 86 = .ok (.iadd, 1) := by decide +kernel
theorem dX12_across_87 : decode cX12_across 87 = .ok (.imul, 1) := by decide +kernel
theorem dX12_across_88 : decode cX12_across 88 = .ok (.invokevirtual 191, 3) := by decide +kernel
theorem dX12_across_91 : decode cX12_across 91 = .ok (.return_, 1) := by decide +kernel
theorem dX12_turn_0 : decode cX12_turn 0 = .ok (.iload_n 1, 1) := by decide +kernel
theorem dX12_turn_1 : decode cX12_turn 1 = .ok (.invokestatic 188, 3) := by decide +kernel
theorem dX12_turn_4 : decode cX12_turn 4 = .ok (.ifCond .eq 31, 3) := by decide +kernel
theorem dX12_turn_7 : decode cX12_turn 7 = .ok (.iload_n 2, 1) := by decide +kernel
theorem dX12_turn_8 : decode cX12_turn 8 = .ok (.i2l, 1) := by decide +kernel
theorem dX12_turn_9 : decode cX12_turn 9 = .ok (.lconst 0, 1) := by decide +kernel
theorem dX12_turn_10 : decode cX12_turn 10 = .ok (.aload_n 0, 1) := by decide +kernel
theorem dX12_turn_11 : decode cX12_turn 11 = .ok (.getfield 88, 3) := by decide +kernel
theorem dX12_turn_14 : decode cX12_turn 14 = .ok (.i2l, 1) := by decide +kernel
theorem dX12_turn_15 : decode cX12_turn 15 = .ok (.invokestatic 100, 3) := by decide +kernel
theorem dX12_turn_18 : decode cX12_turn 18 = .ok (.ifCond .eq 17, 3) := by decide +kernel
theorem dX12_turn_21 : decode cX12_turn 21 = .ok (.iload_n 3, 1) := by decide +kernel
theorem dX12_turn_22 : decode cX12_turn 22 = .ok (.i2l, 1) := by decide +kernel
theorem dX12_turn_23 : decode cX12_turn 23 = .ok (.lconst 0, 1) := by decide +kernel
theorem dX12_turn_24 : decode cX12_turn 24 = .ok (.aload_n 0, 1) := by decide +kernel
theorem dX12_turn_25 : decode cX12_turn 25 = .ok (.getfield 92, 3) := by decide +kernel
theorem dX12_turn_28 : decode cX12_turn 28 = .ok (.i2l, 1) := by decide +kernel
theorem dX12_turn_29 : decode cX12_turn 29 = .ok (.invokestatic 100, 3) := by decide +kernel
theorem dX12_turn_32 : decode cX12_turn 32 = .ok (.ifCond .ne 5, 3) := by decide +kernel
theorem dX12_turn_35 : decode cX12_turn 35 = .ok (.iconst (-1), 1) := by decide +kernel
theorem dX12_turn_36 : decode cX12_turn 36 = .ok (.ireturn, 1) := by decide +kernel
theorem dX12_turn_37 : decode cX12_turn 37 = .ok (.aload_n 0, 1) := by decide +kernel
theorem dX12_turn_38 : decode cX12_turn 38 = .ok (.iload_n 1, 1) := by decide +kernel
theorem dX12_turn_39 : decode cX12_turn 39 = .ok (.invokevirtual 249, 3) := by decide +kernel
theorem dX12_turn_42 : decode cX12_turn 42 = .ok (.istore 4, 2) := by decide +kernel
theorem dX12_turn_44 : decode cX12_turn 44 = .ok (.iload 4, 2) := by decide +kernel
theorem dX12_turn_46 : decode cX12_turn 46 = .ok (.ifCond .ge 6, 3) := by decide +kernel
theorem dX12_turn_49 : decode cX12_turn 49 = .ok (.iload 4, 2) := by decide +kernel
theorem dX12_turn_51 : decode cX12_turn 51 = .ok (.ireturn, 1) := by decide +kernel
theorem dX12_turn_52 : decode cX12_turn 52 = .ok (.aload_n 0, 1) := by decide +kernel
theorem dX12_turn_53 : decode cX12_turn 53 = .ok (.iload_n 1, 1) := by decide +kernel
theorem dX12_turn_54 : decode cX12_turn 54 = .ok (.iload_n 2, 1) := by decide +kernel
theorem dX12_turn_55 : decode cX12_turn 55 = .ok (.iload_n 3, 1) := by decide +kernel
theorem dX12_turn_56 : decode cX12_turn 56 = .ok (.invokevirtual 255, 3) := by decide +kernel
theorem dX12_turn_59 : decode cX12_turn 59 = .ok (.istore 5, 2) := by decide +kernel
theorem dX12_turn_61 : decode cX12_turn 61 = .ok (.iload 5, 2) := by decide +kernel
theorem dX12_turn_63 : decode cX12_turn 63 = .ok (.bipush (-4), 2) := by decide +kernel
theorem dX12_turn_65 : decode cX12_turn 65 = .ok (.if_icmp .ne 6, 3) := by decide +kernel
theorem dX12_turn_68 : decode cX12_turn 68 = .ok (.bipush (-2), 2) := by decide +kernel
theorem dX12_turn_70 : decode cX12_turn 70 = .ok (.ireturn, 1) := by decide +kernel
theorem dX12_turn_71 : decode cX12_turn 71 = .ok (.aload_n 0, 1) := by decide +kernel
theorem dX12_turn_72 : decode cX12_turn 72 = .ok (.iload_n 1, 1) := by decide +kernel
theorem dX12_turn_73 : decode cX12_turn 73 = .ok (.iload_n 2, 1) := by decide +kernel
theorem dX12_turn_74 : decode cX12_turn 74 = .ok (.iload_n 3, 1) := by decide +kernel
theorem dX12_turn_75 : decode cX12_turn 75 = .ok (.invokevirtual 258, 3) := by decide +kernel
theorem dX12_turn_78 : decode cX12_turn 78 = .ok (.iload 5, 2) := by decide +kernel
theorem dX12_turn_80 : decode cX12_turn 80 = .ok (.ireturn, 1) := by decide +kernel
theorem dX12_turnMany_0 : decode cX12_turnMany 0 = .ok (.iconst 0, 1) := by decide +kernel
theorem dX12_turnMany_1 : decode cX12_turnMany 1 = .ok (.istore_n 3, 1) := by decide +kernel
theorem dX12_turnMany_2 : decode cX12_turnMany 2 = .ok (.iconst 0, 1) := by decide +kernel
theorem dX12_turnMany_3 : decode cX12_turnMany 3 = .ok (.istore 4, 2) := by decide +kernel
theorem dX12_turnMany_5 : decode cX12_turnMany 5 = .ok (.iload 4, 2) := by decide +kernel
theorem dX12_turnMany_7 : decode cX12_turnMany 7 = .ok (.bipush 81, 2) := by decide +kernel
theorem dX12_turnMany_9 : decode cX12_turnMany 9 = .ok (.if_icmp .ge 36, 3) := by decide +kernel
theorem dX12_turnMany_12 : decode cX12_turnMany 12 = .ok (.iload_n 3, 1) := by decide +kernel
theorem dX12_turnMany_13 : decode cX12_turnMany 13 = .ok (.aload_n 0, 1) := by decide +kernel
theorem dX12_turnMany_14 : decode cX12_turnMany 14 = .ok (.iload_n 1, 1) := by decide +kernel
theorem dX12_turnMany_15 : decode cX12_turnMany 15 = .ok (.iload 4, 2) := by decide +kernel
theorem dX12_turnMany_17 : decode cX12_turnMany 17 = .ok (.bipush 9, 2) := by decide +kernel
theorem dX12_turnMany_19 : decode cX12_turnMany 19 = .ok (.irem, 1) := by decide +kernel
theorem dX12_turnMany_20 : decode cX12_turnMany 20 = .ok (.iload 4, 2) := by decide +kernel
theorem dX12_turnMany_22 : decode cX12_turnMany 22 = .ok (.bipush 9, 2) := by decide +kernel
theorem dX12_turnMany_24 : decode cX12_turnMany 24 = .ok (.idiv, 1) := by decide +kernel
theorem dX12_turnMany_25 : decode cX12_turnMany 25 = .ok (.invokevirtual 255, 3) := by decide +kernel
theorem dX12_turnMany_28 : decode cX12_turnMany 28 = .ok (.iload_n 2, 1) := by decide +kernel
theorem dX12_turnMany_29 : decode cX12_turnMany 29 = .ok (.if_icmp .ne 7, 3) := by decide +kernel
theorem dX12_turnMany_32 : decode cX12_turnMany 32 = .ok (.iconst 1, 1) := by decide +kernel
theorem dX12_turnMany_33 : decode cX12_turnMany 33 = .ok (.goto 4, 3) := by decide +kernel
theorem dX12_turnMany_36 : decode cX12_turnMany 36 = .ok (.iconst 0, 1) := by decide +kernel
theorem dX12_turnMany_37 : decode cX12_turnMany 37 = .ok (.iadd, 1) := by decide +kernel
theorem dX12_turnMany_38 : decode cX12_turnMany 38 = .ok (.istore_n 3, 1) := by decide +kernel
theorem dX12_turnMany_39 : decode cX12_turnMany 39 = .ok (.iinc 4 1, 3) := by decide +kernel
theorem dX12_turnMany_42 : decode cX12_turnMany 42 = .ok (.goto (-37), 3) := by decide +kernel
theorem dX12_turnMany_45 : decode cX12_turnMany 45 = .ok (.iload_n 3, 1) := by decide +kernel
theorem dX12_turnMany_46 : decode cX12_turnMany 46 = .ok (.ireturn, 1) := by decide +kernel
theorem dX12_turns_0 : decode cX12_turns 0 = .ok (.iload_n 1, 1) := by decide +kernel
theorem dX12_turns_1 : decode cX12_turns 1 = .ok (.invokestatic 188, 3) := by decide +kernel
theorem dX12_turns_4 : decode cX12_turns 4 = .ok (.ifCond .eq 13, 3) := by decide +kernel
theorem dX12_turns_7 : decode cX12_turns 7 = .ok (.iload_n 2, 1) := by decide +kernel
theorem dX12_turns_8 : decode cX12_turns 8 = .ok (.i2l, 1) := by decide +kernel
theorem dX12_turns_9 : decode cX12_turns 9 = .ok (.lconst 0, 1) := by decide +kernel
theorem dX12_turns_10 : decode cX12_turns 10 = .ok (.lconst 1, 1) := by decide +kernel
theorem dX12_turns_11 : decode cX12_turns 11 = .ok (.invokestatic 100, 3) := by decide +kernel
theorem dX12_turns_14 : decode cX12_turns 14 = .ok (.ifCond .ne 5, 3) := by decide +kernel
theorem dX12_turns_17 : decode cX12_turns 17 = .ok (.iconst (-1), 1) := by decide +kernel
theorem dX12_turns_18 : decode cX12_turns 18 = .ok (.ireturn, 1) := by decide +kernel
theorem dX12_turns_19 : decode cX12_turns 19 = .ok (.aload_n 0, 1) := by decide +kernel
theorem dX12_turns_20 : decode cX12_turns 20 = .ok (.iload_n 1, 1) := by decide +kernel
theorem dX12_turns_21 : decode cX12_turns 21 = .ok (.invokevirtual 249, 3) := by decide +kernel
theorem dX12_turns_24 : decode cX12_turns 24 = .ok (.istore_n 3, 1) := by decide +kernel
theorem dX12_turns_25 : decode cX12_turns 25 = .ok (.iload_n 3, 1) := by decide +kernel
theorem dX12_turns_26 : decode cX12_turns 26 = .ok (.ifCond .ge 7, 3) := by decide +kernel
theorem dX12_turns_29 : decode cX12_turns 29 = .ok (.iload_n 3, 1) := by decide +kernel
theorem dX12_turns_30 : decode cX12_turns 30 = .ok (.goto 9, 3) := by decide +kernel
theorem dX12_turns_33 : decode cX12_turns 33 = .ok (.aload_n 0, 1) := by decide +kernel
theorem dX12_turns_34 : decode cX12_turns 34 = .ok (.iload_n 1, 1) := by decide +kernel
theorem dX12_turns_35 : decode cX12_turns 35 = .ok (.iload_n 2, 1) := by decide +kernel
theorem dX12_turns_36 : decode cX12_turns 36 = .ok (.invokevirtual 262, 3) := by decide +kernel
theorem dX12_turns_39 : decode cX12_turns 39 = .ok (.ireturn, 1) := by decide +kernel
theorem dX12_settle_0 : decode cX12_settle 0 = .ok (.iload_n 1, 1) := by decide +kernel
theorem dX12_settle_1 : decode cX12_settle 1 = .ok (.invokestatic 188, 3) := by decide +kernel
theorem dX12_settle_4 : decode cX12_settle 4 = .ok (.ifCond .eq 13, 3) := by decide +kernel
theorem dX12_settle_7 : decode cX12_settle 7 = .ok (.iload_n 2, 1) := by decide +kernel
theorem dX12_settle_8 : decode cX12_settle 8 = .ok (.i2l, 1) := by decide +kernel
theorem dX12_settle_9 : decode cX12_settle 9 = .ok (.lconst 0, 1) := by decide +kernel
theorem dX12_settle_10 : decode cX12_settle 10 = .ok (.lconst 1, 1) := by decide +kernel
theorem dX12_settle_11 : decode cX12_settle 11 = .ok (.invokestatic 100, 3) := by decide +kernel
theorem dX12_settle_14 : decode cX12_settle 14 = .ok (.ifCond .ne 5, 3) := by decide +kernel
theorem dX12_settle_17 : decode cX12_settle 17 = .ok (.iconst (-1), 1) := by decide +kernel
theorem dX12_settle_18 : decode cX12_settle 18 = .ok (.ireturn, 1) := by decide +kernel
theorem dX12_settle_19 : decode cX12_settle 19 = .ok (.aload_n 0, 1) := by decide +kernel
theorem dX12_settle_20 : decode cX12_settle 20 = .ok (.iload_n 1, 1) := by decide +kernel
theorem dX12_settle_21 : decode cX12_settle 21 = .ok (.invokevirtual 249, 3) := by decide +kernel
theorem dX12_settle_24 : decode cX12_settle 24 = .ok (.istore_n 3, 1) := by decide +kernel
theorem dX12_settle_25 : decode cX12_settle 25 = .ok (.iload_n 3, 1) := by decide +kernel
theorem dX12_settle_26 : decode cX12_settle 26 = .ok (.ifCond .ge 5, 3) := by decide +kernel
theorem dX12_settle_29 : decode cX12_settle 29 = .ok (.iload_n 3, 1) := by decide +kernel
theorem dX12_settle_30 : decode cX12_settle 30 = .ok (.ireturn, 1) := by decide +kernel
theorem dX12_settle_31 : decode cX12_settle 31 = .ok (.iconst 0, 1) := by decide +kernel
theorem dX12_settle_32 : decode cX12_settle 32 = .ok (.istore 4, 2) := by decide +kernel
theorem dX12_settle_34 : decode cX12_settle 34 = .ok (.iconst (-1), 1) := by decide +kernel
theorem dX12_settle_35 : decode cX12_settle 35 = .ok (.istore 5, 2) := by decide +kernel
theorem dX12_settle_37 : decode cX12_settle 37 = .ok (.iload 4, 2) := by decide +kernel
theorem dX12_settle_39 : decode cX12_settle 39 = .ok (.iload 5, 2) := by decide +kernel
theorem dX12_settle_41 : decode cX12_settle 41 = .ok (.if_icmp .eq 63, 3) := by decide +kernel
theorem dX12_settle_44 : decode cX12_settle 44 = .ok (.iload 4, 2) := by decide +kernel
theorem dX12_settle_46 : decode cX12_settle 46 = .ok (.istore 5, 2) := by decide +kernel
theorem dX12_settle_48 : decode cX12_settle 48 = .ok (.iconst 0, 1) := by decide +kernel
theorem dX12_settle_49 : decode cX12_settle 49 = .ok (.istore 6, 2) := by decide +kernel
theorem dX12_settle_51 : decode cX12_settle 51 = .ok (.iload 6, 2) := by decide +kernel
theorem dX12_settle_53 : decode cX12_settle 53 = .ok (.bipush 81, 2) := by decide +kernel
theorem dX12_settle_55 : decode cX12_settle 55 = .ok (.if_icmp .ge 46, 3) := by decide +kernel
theorem dX12_settle_58 : decode cX12_settle 58 = .ok (.aload_n 0, 1) := by decide +kernel
theorem dX12_settle_59 : decode cX12_settle 59 = .ok (.iload_n 1, 1) := by decide +kernel
theorem dX12_settle_60 : decode cX12_settle 60 = .ok (.iload 6, 2) := by decide +kernel
theorem dX12_settle_62 : decode cX12_settle 62 = .ok (.bipush 9, 2) := by decide +kernel
theorem dX12_settle_64 : decode cX12_settle 64 = .ok (.irem, 1) := by decide +kernel
theorem dX12_settle_65 : decode cX12_settle 65 = .ok (.iload 6, 2) := by decide +kernel
theorem dX12_settle_67 : decode cX12_settle 67 = .ok (.bipush 9, 2) := by decide +kernel
theorem dX12_settle_69 : decode cX12_settle 69 = .ok (.idiv, 1) := by decide +kernel
theorem dX12_settle_70 : decode cX12_settle 70 = .ok (.invokevirtual 255, 3) := by decide +kernel
theorem dX12_settle_73 : decode cX12_settle 73 = .ok (.iload_n 2, 1) := by decide +kernel
theorem dX12_settle_74 : decode cX12_settle 74 = .ok (.if_icmp .ne 21, 3) := by decide +kernel
theorem dX12_settle_77 : decode cX12_settle 77 = .ok (.aload_n 0, 1) := by decide +kernel
theorem dX12_settle_78 : decode cX12_settle 78 = .ok (.iload_n 1, 1) := by decide +kernel
theorem dX12_settle_79 : decode cX12_settle 79 = .ok (.iload 6, 2) := by decide +kernel
theorem dX12_settle_81 : decode cX12_settle 81 = .ok (.bipush 9, 2) := by decide +kernel
theorem dX12_settle_83 : decode cX12_settle 83 = .ok (.irem, 1) := by decide +kernel
theorem dX12_settle_84 : decode cX12_settle 84 = .ok (.iload 6, 2) := by decide +kernel
theorem dX12_settle_86 : decode cX12_settle 86 = .ok (.bipush 9, 2) := by decide +kernel
theorem dX12_settle_88 : decode cX12_settle 88 = .ok (.idiv, 1) := by decide +kernel
theorem dX12_settle_89 : decode cX12_settle 89 = .ok (.invokevirtual 258, 3) := by decide +kernel
theorem dX12_settle_92 : decode cX12_settle 92 = .ok (.iinc 4 1, 3) := by decide +kernel
theorem dX12_settle_95 : decode cX12_settle 95 = .ok (.iinc 6 1, 3) := by decide +kernel
theorem dX12_settle_98 : decode cX12_settle 98 = .ok (.goto (-47), 3) := by decide +kernel
theorem dX12_settle_101 : decode cX12_settle 101 = .ok (.goto (-64), 3) := by decide +kernel
theorem dX12_settle_104 : decode cX12_settle 104 = .ok (.iload 4, 2) := by decide +kernel
theorem dX12_settle_106 : decode cX12_settle 106 = .ok (.ireturn, 1) := by decide +kernel
theorem dX12_farOf_0 : decode cX12_farOf 0 = .ok (.aload_n 0, 1) := by decide +kernel
theorem dX12_farOf_1 : decode cX12_farOf 1 = .ok (.iload_n 1, 1) := by decide +kernel
theorem dX12_farOf_2 : decode cX12_farOf 2 = .ok (.invokevirtual 252, 3) := by decide +kernel
theorem dX12_farOf_5 : decode cX12_farOf 5 = .ok (.iconst 0, 1) := by decide +kernel
theorem dX12_farOf_6 : decode cX12_farOf 6 = .ok (.istore_n 3, 1) := by decide +kernel
theorem dX12_farOf_7 : decode cX12_farOf 7 = .ok (.iload_n 3, 1) := by decide +kernel
theorem dX12_farOf_8 : decode cX12_farOf 8 = .ok (.bipush 81, 2) := by decide +kernel
theorem dX12_farOf_10 : decode cX12_farOf 10 = .ok (.if_icmp .ge 21, 3) := by decide +kernel
theorem dX12_farOf_13 : decode cX12_farOf 13 = .ok (.aload_n 0, 1) := by decide +kernel
theorem dX12_farOf_14 : decode cX12_farOf 14 = .ok (.getfield 66, 3) := by decide +kernel
theorem dX12_farOf_17 : decode cX12_farOf 17 = .ok (.iload_n 3, 1) := by decide +kernel
theorem dX12_farOf_18 : decode cX12_farOf 18 = .ok (.aload_n 0, 1) := by decide +kernel
theorem dX12_farOf_19 : decode cX12_farOf 19 = .ok (.getfield 63, 3) := by decide +kernel
theorem dX12_farOf_22 : decode cX12_farOf 22 = .ok (.iload_n 3, 1) := by decide +kernel
theorem dX12_farOf_23 : decode cX12_farOf 23 = .ok (.iaload, 1) := by decide +kernel
theorem dX12_farOf_24 : decode cX12_farOf 24 = .ok (.iastore, 1) := by decide +kernel
theorem dX12_farOf_25 : decode cX12_farOf 25 = .ok (.iinc 3 1, 3) := by decide +kernel
theorem dX12_farOf_28 : decode cX12_farOf 28 = .ok (.goto (-21), 3) := by decide +kernel
theorem dX12_farOf_31 : decode cX12_farOf 31 = .ok (.aload_n 0, 1) := by decide +kernel
theorem dX12_farOf_32 : decode cX12_farOf 32 = .ok (.iload_n 2, 1) := by decide +kernel
theorem dX12_farOf_33 : decode cX12_farOf 33 = .ok (.invokevirtual 252, 3) := by decide +kernel
theorem dX12_farOf_36 : decode cX12_farOf 36 = .ok (.iconst 0, 1) := by decide +kernel
theorem dX12_farOf_37 : decode cX12_farOf 37 = .ok (.istore_n 3, 1) := by decide +kernel
theorem dX12_farOf_38 : decode cX12_farOf 38 = .ok (.iconst 0, 1) := by decide +kernel
theorem dX12_farOf_39 : decode cX12_farOf 39 = .ok (.istore 4, 2) := by decide +kernel
theorem dX12_farOf_41 : decode cX12_farOf 41 = .ok (.iload 4, 2) := by decide +kernel
theorem dX12_farOf_43 : decode cX12_farOf 43 = .ok (.bipush 81, 2) := by decide +kernel
theorem dX12_farOf_45 : decode cX12_farOf 45 = .ok (.if_icmp .ge 42, 3) := by decide +kernel
theorem dX12_farOf_48 : decode cX12_farOf 48 = .ok (.aload_n 0, 1) := by decide +kernel
theorem dX12_farOf_49 : decode cX12_farOf 49 = .ok (.getfield 63, 3) := by decide +kernel
theorem dX12_farOf_52 : decode cX12_farOf 52 = .ok (.iload 4, 2) := by decide +kernel
theorem dX12_farOf_54 : decode cX12_farOf 54 = .ok (.iaload, 1) := by decide +kernel
theorem dX12_farOf_55 : decode cX12_farOf 55 = .ok (.aload_n 0, 1) := by decide +kernel
theorem dX12_farOf_56 : decode cX12_farOf 56 = .ok (.getfield 66, 3) := by decide +kernel
theorem dX12_farOf_59 : decode cX12_farOf 59 = .ok (.iload 4, 2) := by decide +kernel
theorem dX12_farOf_61 : decode cX12_farOf 61 = .ok (.iaload, 1) := by decide +kernel
theorem dX12_farOf_62 : decode cX12_farOf 62 = .ok (.isub, 1) := by decide +kernel
theorem dX12_farOf_63 : decode cX12_farOf 63 = .ok (.istore 5, 2) := by decide +kernel
theorem dX12_farOf_65 : decode cX12_farOf 65 = .ok (.iload_n 3, 1) := by decide +kernel
theorem dX12_farOf_66 : decode cX12_farOf 66 = .ok (.iload 5, 2) := by decide +kernel
theorem dX12_farOf_68 : decode cX12_farOf 68 = .ok (.ifCond .ge 9, 3) := by decide +kernel
theorem dX12_farOf_71 : decode cX12_farOf 71 = .ok (.iload 5, 2) := by decide +kernel
theorem dX12_farOf_73 : decode cX12_farOf 73 = .ok (.ineg, 1) := by decide +kernel
theorem dX12_farOf_74 : decode cX12_farOf 74 = .ok (.goto 5, 3) := by decide +kernel
theorem dX12_farOf_77 : decode cX12_farOf 77 = .ok (.iload 5, 2) := by decide +kernel
theorem dX12_farOf_79 : decode cX12_farOf 79 = .ok (.iadd, 1) := by decide +kernel
theorem dX12_farOf_80 : decode cX12_farOf 80 = .ok (.istore_n 3, 1) := by decide +kernel
theorem dX12_farOf_81 : decode cX12_farOf 81 = .ok (.iinc 4 1, 3) := by decide +kernel
theorem dX12_farOf_84 : decode cX12_farOf 84 = .ok (.goto (-43), 3) := by decide +kernel
theorem dX12_farOf_87 : decode cX12_farOf 87 = .ok (.iload_n 3, 1) := by decide +kernel
theorem dX12_farOf_88 : decode cX12_farOf 88 = .ok (.iconst 4, 1) := by decide +kernel
theorem dX12_farOf_89 : decode cX12_farOf 89 = .ok (.idiv, 1) := by decide +kernel
theorem dX12_farOf_90 : decode cX12_farOf 90 = .ok (.ireturn, 1) := by decide +kernel
theorem dX12_refusesBoth_0 : decode cX12_refusesBoth 0 = .ok (.iload_n 1, 1) := by decide +kernel
theorem dX12_refusesBoth_1 : decode cX12_refusesBoth 1 = .ok (.invokestatic 188, 3) := by decide +kernel
theorem dX12_refusesBoth_4 : decode cX12_refusesBoth 4 = .ok (.ifCond .eq 10, 3) := by decide +kernel
theorem dX12_refusesBoth_7 : decode cX12_refusesBoth 7 = .ok (.iload_n 2, 1) := by decide +kernel
theorem dX12_refusesBoth_8 : decode cX12_refusesBoth 8 = .ok (.invokestatic 188, 3) := by decide +kernel
theorem dX12_refusesBoth_11 : decode cX12_refusesBoth 11 = .ok (.ifCond .ne 5, 3) := by decide +kernel
theorem dX12_refusesBoth_14 : decode cX12_refusesBoth 14 = .ok (.iconst (-1), 1) := by decide +kernel
theorem dX12_refusesBoth_15 : decode cX12_refusesBoth 15 = .ok (.ireturn, 1) := by decide +kernel
theorem dX12_refusesBoth_16 : decode cX12_refusesBoth 16 = .ok (.aload_n 0, 1) := by decide +kernel
theorem dX12_refusesBoth_17 : decode cX12_refusesBoth 17 = .ok (.getfield 20, 3) := by decide +kernel
theorem dX12_refusesBoth_20 : decode cX12_refusesBoth 20 = .ok (.iload_n 1, 1) := by decide +kernel
theorem dX12_refusesBoth_21 : decode cX12_refusesBoth 21 = .ok (.baload, 1) := by decide +kernel
theorem dX12_refusesBoth_22 : decode cX12_refusesBoth 22 = .ok (.ifCond .eq 16, 3) := by decide +kernel
theorem dX12_refusesBoth_25 : decode cX12_refusesBoth 25 = .ok (.aload_n 0, 1) := by decide +kernel
theorem dX12_refusesBoth_26 : decode cX12_refusesBoth 26 = .ok (.getfield 20, 3) := by decide +kernel
theorem dX12_refusesBoth_29 : decode cX12_refusesBoth 29 = .ok (.iload_n 2, 1) := by decide +kernel
theorem dX12_refusesBoth_30 : decode cX12_refusesBoth 30 = .ok (.baload, 1) := by decide +kernel
theorem dX12_refusesBoth_31 : decode cX12_refusesBoth 31 = .ok (.ifCond .eq 7, 3) := by decide +kernel
theorem dX12_refusesBoth_34 : decode cX12_refusesBoth 34 = .ok (.iconst 0, 1) := by decide +kernel
theorem dX12_refusesBoth_35 : decode cX12_refusesBoth 35 = .ok (.goto 5, 3) := by decide +kernel
theorem dX12_refusesBoth_38 : decode cX12_refusesBoth 38 = .ok (.bipush (-4), 2) := by decide +kernel
theorem dX12_refusesBoth_40 : decode cX12_refusesBoth 40 = .ok (.ireturn, 1) := by decide +kernel
theorem dX12_far_0 : decode cX12_far 0 = .ok (.aload_n 0, 1) := by decide +kernel
theorem dX12_far_1 : decode cX12_far 1 = .ok (.iload_n 1, 1) := by decide +kernel
theorem dX12_far_2 : decode cX12_far 2 = .ok (.iload_n 2, 1) := by decide +kernel
theorem dX12_far_3 : decode cX12_far 3 = .ok (.invokevirtual 265, 3) := by decide +kernel
theorem dX12_far_6 : decode cX12_far 6 = .ok (.istore_n 3, 1) := by decide +kernel
theorem dX12_far_7 : decode cX12_far 7 = .ok (.iload_n 3, 1) := by decide +kernel
theorem dX12_far_8 : decode cX12_far 8 = .ok (.ifCond .ge 5, 3) := by decide +kernel
theorem dX12_far_11 : decode cX12_far 11 = .ok (.iload_n 3, 1) := by decide +kernel
theorem dX12_far_12 : decode cX12_far 12 = .ok (.ireturn, 1) := by decide +kernel
theorem dX12_far_13 : decode cX12_far 13 = .ok (.aload_n 0, 1) := by decide +kernel
theorem dX12_far_14 : decode cX12_far 14 = .ok (.invokevirtual 235, 3) := by decide +kernel
theorem dX12_far_17 : decode cX12_far 17 = .ok (.ifCond .eq 12, 3) := by decide +kernel
theorem dX12_far_20 : decode cX12_far 20 = .ok (.aload_n 0, 1) := by decide +kernel
theorem dX12_far_21 : decode cX12_far 21 = .ok (.iload_n 1, 1) := by decide +kernel
theorem dX12_far_22 : decode cX12_far 22 = .ok (.iload_n 2, 1) := by decide +kernel
theorem dX12_far_23 : decode cX12_far 23 = .ok (.invokevirtual 268, 3) := by decide +kernel
theorem dX12_far_26 : decode cX12_far 26 = .ok (.goto 5, 3) := by decide +kernel
theorem dX12_far_29 : decode cX12_far 29 = .ok (.bipush (-2), 2) := by decide +kernel
theorem dX12_far_31 : decode cX12_far 31 = .ok (.ireturn, 1) := by decide +kernel
theorem dX12_toward_0 : decode cX12_toward 0 = .ok (.aload_n 0, 1) := by decide +kernel
theorem dX12_toward_1 : decode cX12_toward 1 = .ok (.iload_n 1, 1) := by decide +kernel
theorem dX12_toward_2 : decode cX12_toward 2 = .ok (.iload_n 2, 1) := by decide +kernel
theorem dX12_toward_3 : decode cX12_toward 3 = .ok (.invokevirtual 265, 3) := by decide +kernel
theorem dX12_toward_6 : decode cX12_toward 6 = .ok (.istore_n 3, 1) := by decide +kernel
theorem dX12_toward_7 : decode cX12_toward 7 = .ok (.iload_n 3, 1) := by decide +kernel
theorem dX12_toward_8 : decode cX12_toward 8 = .ok (.ifCond .ge 5, 3) := by decide +kernel
theorem dX12_toward_11 : decode cX12_toward 11 = .ok (.iload_n 3, 1) := by decide +kernel
theorem dX12_toward_12 : decode cX12_toward 12 = .ok (.ireturn, 1) := by decide +kernel
theorem dX12_toward_13 : decode cX12_toward 13 = .ok (.aload_n 0, 1) := by decide +kernel
theorem dX12_toward_14 : decode cX12_toward 14 = .ok (.invokevirtual 235, 3) := by decide +kernel
theorem dX12_toward_17 : decode cX12_toward 17 = .ok (.ifCond .eq 12, 3) := by decide +kernel
theorem dX12_toward_20 : decode cX12_toward 20 = .ok (.aload_n 0, 1) := by decide +kernel
theorem dX12_toward_21 : decode cX12_toward 21 = .ok (.iload_n 1, 1) := by decide +kernel
theorem dX12_toward_22 : decode cX12_toward 22 = .ok (.iload_n 2, 1) := by decide +kernel
theorem dX12_toward_23 : decode cX12_toward 23 = .ok (.invokevirtual 268, 3) := by decide +kernel
theorem dX12_toward_26 : decode cX12_toward 26 = .ok (.ifCond .ne 6, 3) := by decide +kernel
theorem dX12_toward_29 : decode cX12_toward 29 = .ok (.bipush (-2), 2) := by decide +kernel
theorem dX12_toward_31 : decode cX12_toward 31 = .ok (.ireturn, 1) := by decide +kernel
theorem dX12_toward_32 : decode cX12_toward 32 = .ok (.iconst 0, 1) := by decide +kernel
theorem dX12_toward_33 : decode cX12_toward 33 = .ok (.istore 4, 2) := by decide +kernel
theorem dX12_toward_35 : decode cX12_toward 35 = .ok (.iload 4, 2) := by decide +kernel
theorem dX12_toward_37 : decode cX12_toward 37 = .ok (.bipush 81, 2) := by decide +kernel
theorem dX12_toward_39 : decode cX12_toward 39 = .ok (.if_icmp .ge 101, 3) := by decide +kernel
theorem dX12_toward_42 : decode cX12_toward 42 = .ok (.aload_n 0, 1) := by decide +kernel
theorem dX12_toward_43 : decode cX12_toward 43 = .ok (.iload_n 1, 1) := by decide +kernel
theorem dX12_toward_44 : decode cX12_toward 44 = .ok (.iload 4, 2) := by decide +kernel
theorem dX12_toward_46 : decode cX12_toward 46 = .ok (.bipush 9, 2) := by decide +kernel
theorem dX12_toward_48 : decode cX12_toward 48 = .ok (.irem, 1) := by decide +kernel
theorem dX12_toward_49 : decode cX12_toward 49 = .ok (.iload 4, 2) := by decide +kernel
theorem dX12_toward_51 : decode cX12_toward 51 = .ok (.bipush 9, 2) := by decide +kernel
theorem dX12_toward_53 : decode cX12_toward 53 = .ok (.idiv, 1) := by decide +kernel
theorem dX12_toward_54 : decode cX12_toward 54 = .ok (.invokevirtual 255, 3) := by decide +kernel
theorem dX12_toward_57 : decode cX12_toward 57 = .ok (.istore 5, 2) := by decide +kernel
theorem dX12_toward_59 : decode cX12_toward 59 = .ok (.iload 5, 2) := by decide +kernel
theorem dX12_toward_61 : decode cX12_toward 61 = .ok (.iconst 1, 1) := by decide +kernel
theorem dX12_toward_62 : decode cX12_toward 62 = .ok (.if_icmp .ne 20, 3) := by decide +kernel
theorem dX12_toward_65 : decode cX12_toward 65 = .ok (.aload_n 0, 1) := by decide +kernel
theorem dX12_toward_66 : decode cX12_toward 66 = .ok (.getfield 66, 3) := by decide +kernel
theorem dX12_toward_69 : decode cX12_toward 69 = .ok (.iload 4, 2) := by decide +kernel
theorem dX12_toward_71 : decode cX12_toward 71 = .ok (.iaload, 1) := by decide +kernel
theorem dX12_toward_72 : decode cX12_toward 72 = .ok (.aload_n 0, 1) := by decide +kernel
theorem dX12_toward_73 : decode cX12_toward 73 = .ok (.getfield 63, 3) := by decide +kernel
theorem dX12_toward_76 : decode cX12_toward 76 = .ok (.iload 4, 2) := by decide +kernel
theorem dX12_toward_78 : decode cX12_toward 78 = .ok (.iaload, 1) := by decide +kernel
theorem dX12_toward_79 : decode cX12_toward 79 = .ok (.if_icmp .lt 25, 3) := by decide +kernel
theorem dX12_toward_82 : decode cX12_toward 82 = .ok (.iload 5, 2) := by decide +kernel
theorem dX12_toward_84 : decode cX12_toward 84 = .ok (.ifCond .ne 50, 3) := by decide +kernel
theorem dX12_toward_87 : decode cX12_toward 87 = .ok (.aload_n 0, 1) := by decide +kernel
theorem dX12_toward_88 : decode cX12_toward 88 = .ok (.getfield 66, 3) := by decide +kernel
theorem dX12_toward_91 : decode cX12_toward 91 = .ok (.iload 4, 2) := by decide +kernel
theorem dX12_toward_93 : decode cX12_toward 93 = .ok (.iaload, 1) := by decide +kernel
theorem dX12_toward_94 : decode cX12_toward 94 = .ok (.aload_n 0, 1) := by decide +kernel
theorem dX12_toward_95 : decode cX12_toward 95 = .ok (.getfield 63, 3) := by decide +kernel
theorem dX12_toward_98 : decode cX12_toward 98 = .ok (.iload 4, 2) := by decide +kernel
theorem dX12_toward_100 : decode cX12_toward 100 = .ok (.iaload, 1) := by decide +kernel
theorem dX12_toward_101 : decode cX12_toward 101 = .ok (.if_icmp .le 33, 3) := by decide +kernel
theorem dX12_toward_104 : decode cX12_toward 104 = .ok (.aload_n 0, 1) := by decide +kernel
theorem dX12_toward_105 : decode cX12_toward 105 = .ok (.iload_n 1, 1) := by decide +kernel
theorem dX12_toward_106 : decode cX12_toward 106 = .ok (.iload 4, 2) := by decide +kernel
theorem dX12_toward_108 : decode cX12_toward 108 = .ok (.bipush 9, 2) := by decide +kernel
theorem dX12_toward_110 : decode cX12_toward 110 = .ok (.irem, 1) := by decide +kernel
theorem dX12_toward_111 : decode cX12_toward 111 = .ok (.iload 4, 2) := by decide +kernel
theorem dX12_toward_113 : decode cX12_toward 113 = .ok (.bipush 9, 2) := by decide +kernel
theorem dX12_toward_115 : decode cX12_toward 115 = .ok (.idiv, 1) := by decide +kernel
theorem dX12_toward_116 : decode cX12_toward 116 = .ok (.invokevirtual 258, 3) := by decide +kernel
theorem dX12_toward_119 : decode cX12_toward 119 = .ok (.bipush 16, 2) := by decide +kernel
theorem dX12_toward_121 : decode cX12_toward 121 = .ok (.iload 4, 2) := by decide +kernel
theorem dX12_toward_123 : decode cX12_toward 123 = .ok (.bipush 9, 2) := by decide +kernel
theorem dX12_toward_125 : decode cX12_toward 125 = .ok (.idiv, 1) := by decide +kernel
theorem dX12_toward_126 : decode cX12_toward 126 = .ok (.imul, 1) := by decide +kernel
theorem dX12_toward_127 : decode cX12_toward 127 = .ok (.iload 4, 2) := by decide +kernel
theorem dX12_toward_129 : decode cX12_toward 129 = .ok (.bipush 9, 2) := by decide +kernel
theorem dX12_toward_131 : decode cX12_toward 131 = .ok (.irem, 1) := by decide +kernel
theorem dX12_toward_132 : decode cX12_toward 132 = .ok (.iadd, 1) := by decide +kernel
theorem dX12_toward_133 : decode cX12_toward 133 = .ok (.ireturn, 1) := by decide +kernel
theorem dX12_toward_134 : decode cX12_toward 134 = .ok (.iinc 4 1, 3) := by decide +kernel
theorem dX12_toward_137 : decode cX12_toward 137 = .ok (.goto (-102), 3) := by decide +kernel
theorem dX12_toward_140 : decode cX12_toward 140 = .ok (.bipush (-2), 2) := by decide +kernel
theorem dX12_toward_142 : decode cX12_toward 142 = .ok (.ireturn, 1) := by decide +kernel
theorem dX12_isCrossed_0 : decode cX12_isCrossed 0 = .ok (.iconst 0, 1) := by decide +kernel
theorem dX12_isCrossed_1 : decode cX12_isCrossed 1 = .ok (.istore_n 3, 1) := by decide +kernel
theorem dX12_isCrossed_2 : decode cX12_isCrossed 2 = .ok (.iconst 0, 1) := by decide +kernel
theorem dX12_isCrossed_3 : decode cX12_isCrossed 3 = .ok (.istore 4, 2) := by decide +kernel
theorem dX12_isCrossed_5 : decode cX12_isCrossed 5 = .ok (.iload 4, 2) := by decide +kernel
theorem dX12_isCrossed_7 : decode cX12_isCrossed 7 = .ok (.aload_n 0, 1) := by decide +kernel
theorem dX12_isCrossed_8 : decode cX12_isCrossed 8 = .ok (.getfield 92, 3) := by decide +kernel
theorem dX12_isCrossed_11 : decode cX12_isCrossed 11 = .ok (.if_icmp .ge 61, 3) := by decide +kernel
theorem dX12_isCrossed_14 : decode cX12_isCrossed 14 = .ok (.aload_n 0, 1) := by decide +kernel
theorem dX12_isCrossed_15 : decode cX12_isCrossed 15 = .ok (.getfield 88, 3) := by decide +kernel
theorem dX12_isCrossed_18 : decode cX12_isCrossed 18 = .ok (.iload 4, 2) := by decide +kernel
theorem dX12_isCrossed_20 : decode cX12_isCrossed 20 = .ok (.imul, 1) := by decide +kernel
theorem dX12_isCrossed_21 : decode cX12_isCrossed 21 = .ok (.iload_n 2, 1) := by decide +kernel
theorem dX12_isCrossed_22 : decode cX12_isCrossed 22 = .ok (.iadd, 1) := by decide +kernel
theorem dX12_isCrossed_23 : decode cX12_isCrossed 23 = .ok (.iconst 1, 1) := by decide +kernel
theorem dX12_isCrossed_24 : decode cX12_isCrossed 24 = .ok (.isub, 1) := by decide +kernel
theorem dX12_isCrossed_25 : decode cX12_isCrossed 25 = .ok (.istore 5, 2) := by decide +kernel
theorem dX12_isCrossed_27 : decode cX12_isCrossed 27 = .ok (.iload_n 3, 1) := by decide +kernel
theorem dX12_isCrossed_28 : decode cX12_isCrossed 28 = .ok (.ifCond .ne 32, 3) := by decide +kernel
theorem dX12_isCrossed_31 : decode cX12_isCrossed 31 = .ok (.aload_n 0, 1) := by decide +kernel
theorem dX12_isCrossed_32 : decode cX12_isCrossed 32 = .ok (.getfield 7, 3) := by decide +kernel
theorem dX12_isCrossed_35 : decode cX12_isCrossed 35 = .ok (.iload 5, 2) := by decide +kernel
theorem dX12_isCrossed_37 : decode cX12_isCrossed 37 = .ok (.baload, 1) := by decide +kernel
theorem dX12_isCrossed_38 : decode cX12_isCrossed 38 = .ok (.ifCond .eq 26, 3) := by decide +kernel
theorem dX12_isCrossed_41 : decode cX12_isCrossed 41 = .ok (.aload_n 0, 1) := by decide +kernel
theorem dX12_isCrossed_42 : decode cX12_isCrossed 42 = .ok (.getfield 23, 3) := by decide +kernel
theorem dX12_isCrossed_45 : decode cX12_isCrossed 45 = .ok (.bipush 64, 2) := by decide +kernel
theorem dX12_isCrossed_47 : decode cX12_isCrossed 47 = .ok (.iload_n 1, 1) := by decide +kernel
theorem dX12_isCrossed_48 : decode cX12_isCrossed 48 = .ok (.imul, 1) := by decide +kernel
theorem dX12_isCrossed_49 : decode cX12_isCrossed 49 = .ok (.iload 5, 2) := by decide +kernel
theorem dX12_isCrossed_51 : decode cX12_isCrossed 51 = .ok (.iadd, 1) := by decide +kernel
theorem dX12_isCrossed_52 : decode cX12_isCrossed 52 = .ok (.iaload, 1) := by decide +kernel
theorem dX12_isCrossed_53 : decode cX12_isCrossed 53 = .ok (.iconst 2, 1) := by decide +kernel
theorem dX12_isCrossed_54 : decode cX12_isCrossed 54 = .ok (.iload 5, 2) := by decide +kernel
theorem dX12_isCrossed_56 : decode cX12_isCrossed 56 = .ok (.imul, 1) := by decide +kernel
theorem dX12_isCrossed_57 : decode cX12_isCrossed 57 = .ok (.if_icmp .ne 7, 3) := by decide +kernel
theorem dX12_isCrossed_60 : decode cX12_isCrossed 60 = .ok (.iconst 1, 1) := by decide +kernel
theorem dX12_isCrossed_61 : decode cX12_isCrossed 61 = .ok (.goto 4, 3) := by decide +kernel
theorem dX12_isCrossed_64 : decode cX12_isCrossed 64 = .ok (.iconst 0, 1) := by decide +kernel
theorem dX12_isCrossed_65 : decode cX12_isCrossed 65 = .ok (.istore_n 3, 1) := by decide +kernel
theorem dX12_isCrossed_66 : decode cX12_isCrossed 66 = .ok (.iinc 4 1, 3) := by decide +kernel
theorem dX12_isCrossed_69 : decode cX12_isCrossed 69 = .ok (.goto (-64), 3) := by decide +kernel
theorem dX12_isCrossed_72 : decode cX12_isCrossed 72 = .ok (.iload_n 3, 1) := by decide +kernel
theorem dX12_isCrossed_73 : decode cX12_isCrossed 73 = .ok (.ireturn, 1) := by decide +kernel
theorem dX12_lines_0 : decode cX12_lines 0 = .ok (.iload_n 1, 1) := by decide +kernel
theorem dX12_lines_1 : decode cX12_lines 1 = .ok (.invokestatic 188, 3) := by decide +kernel
theorem dX12_lines_4 : decode cX12_lines 4 = .ok (.ifCond .ne 5, 3) := by decide +kernel
theorem dX12_lines_7 : decode cX12_lines 7 = .ok (.iconst (-1), 1) := by decide +kernel
theorem dX12_lines_8 : decode cX12_lines 8 = .ok (.ireturn, 1) := by decide +kernel
theorem dX12_lines_9 : decode cX12_lines 9 = .ok (.aload_n 0, 1) := by decide +kernel
theorem dX12_lines_10 : decode cX12_lines 10 = .ok (.getfield 20, 3) := by decide +kernel
theorem dX12_lines_13 : decode cX12_lines 13 = .ok (.iload_n 1, 1) := by decide +kernel
theorem dX12_lines_14 : decode cX12_lines 14 = .ok (.baload, 1) := by decide +kernel
theorem dX12_lines_15 : decode cX12_lines 15 = .ok (.ifCond .ne 6, 3) := by decide +kernel
theorem dX12_lines_18 : decode cX12_lines 18 = .ok (.bipush (-4), 2) := by decide +kernel
theorem dX12_lines_20 : decode cX12_lines 20 = .ok (.ireturn, 1) := by decide +kernel
theorem dX12_lines_21 : decode cX12_lines 21 = .ok (.iconst 0, 1) := by decide +kernel
theorem dX12_lines_22 : decode cX12_lines 22 = .ok (.istore_n 2, 1) := by decide +kernel
theorem dX12_lines_23 : decode cX12_lines 23 = .ok (.iconst 1, 1) := by decide +kernel
theorem dX12_lines_24 : decode cX12_lines 24 = .ok (.istore_n 3, 1) := by decide +kernel
theorem dX12_lines_25 : decode cX12_lines 25 = .ok (.iload_n 3, 1) := by decide +kernel
theorem dX12_lines_26 : decode cX12_lines 26 = .ok (.aload_n 0, 1) := by decide +kernel
theorem dX12_lines_27 : decode cX12_lines 27 = .ok (.getfield 88, 3) := by decide +kernel
theorem dX12_lines_30 : decode cX12_lines 30 = .ok (.if_icmp .ge 28, 3) := by decide +kernel
theorem dX12_lines_33 : decode cX12_lines 33 = .ok (.iload_n 2, 1) := by decide +kernel
theorem dX12_lines_34 : decode cX12_lines 34 = .ok (.aload_n 0, 1) := by decide +kernel
theorem dX12_lines_35 : decode cX12_lines 35 = .ok (.iload_n 1, 1) := by decide +kernel
theorem dX12_lines_36 : decode cX12_lines 36 = .ok (.iload_n 3, 1) := by decide +kernel
theorem dX12_lines_37 : decode cX12_lines 37 = .ok (.invokevirtual 271, 3) := by decide +kernel
theorem dX12_lines_40 : decode cX12_lines 40 = .ok (.ifCond .eq 7, 3) := by decide +kernel
theorem dX12_lines_43 : decode cX12_lines 43 = .ok (.iconst 0, 1) := by decide +kernel
theorem dX12_lines_44 : decode cX12_lines 44 = .ok (.goto 6, 3) := by decide +kernel
theorem dX12_lines_47 : decode cX12_lines 47 = .ok (.iconst 1, 1) := by decide +kernel
theorem dX12_lines_48 : decode cX12_lines 48 = .ok (.iload_n 3, 1) := by decide +kernel
theorem dX12_lines_49 : decode cX12_lines 49 = .ok (.ishl, 1) := by decide +kernel
theorem dX12_lines_50 : decode cX12_lines 50 = .ok (.ior, 1) := by decide +kernel
theorem dX12_lines_51 : decode cX12_lines 51 = .ok (.istore_n 2, 1) := by decide +kernel
theorem dX12_lines_52 : decode cX12_lines 52 = .ok (.iinc 3 1, 3) := by decide +kernel
theorem dX12_lines_55 : decode cX12_lines 55 = .ok (.goto (-30), 3) := by decide +kernel
theorem dX12_lines_58 : decode cX12_lines 58 = .ok (.iload_n 2, 1) := by decide +kernel
theorem dX12_lines_59 : decode cX12_lines 59 = .ok (.ireturn, 1) := by decide +kernel
theorem dX12_sound_0 : decode cX12_sound 0 = .ok (.lconst 0, 1) := by decide +kernel
theorem dX12_sound_1 : decode cX12_sound 1 = .ok (.lstore_n 1, 1) := by decide +kernel
theorem dX12_sound_2 : decode cX12_sound 2 = .ok (.iconst 0, 1) := by decide +kernel
theorem dX12_sound_3 : decode cX12_sound 3 = .ok (.istore_n 3, 1) := by decide +kernel
theorem dX12_sound_4 : decode cX12_sound 4 = .ok (.iload_n 3, 1) := by decide +kernel
theorem dX12_sound_5 : decode cX12_sound 5 = .ok (.iconst 1, 1) := by decide +kernel
theorem dX12_sound_6 : decode cX12_sound 6 = .ok (.aload_n 0, 1) := by decide +kernel
theorem dX12_sound_7 : decode cX12_sound 7 = .ok (.getfield 88, 3) := by decide +kernel
theorem dX12_sound_10 : decode cX12_sound 10 = .ok (.iconst 1, 1) := by decide +kernel
theorem dX12_sound_11 : decode cX12_sound 11 = .ok (.isub, 1) := by decide +kernel
theorem dX12_sound_12 : decode cX12_sound 12 = .ok (.ishl, 1) := by decide +kernel
theorem dX12_sound_13 : decode cX12_sound 13 = .ok (.if_icmp .ge 135, 3) := by decide +kernel
theorem dX12_sound_16 : decode cX12_sound 16 = .ok (.aload_n 0, 1) := by decide +kernel
theorem dX12_sound_17 : decode cX12_sound 17 = .ok (.iconst 0, 1) := by decide +kernel
theorem dX12_sound_18 : decode cX12_sound 18 = .ok (.invokevirtual 169, 3) := by decide +kernel
theorem dX12_sound_21 : decode cX12_sound 21 = .ok (.iconst 0, 1) := by decide +kernel
theorem dX12_sound_22 : decode cX12_sound 22 = .ok (.istore 4, 2) := by decide +kernel
theorem dX12_sound_24 : decode cX12_sound 24 = .ok (.iconst 1, 1) := by decide +kernel
theorem dX12_sound_25 : decode cX12_sound 25 = .ok (.istore 5, 2) := by decide +kernel
theorem dX12_sound_27 : decode cX12_sound 27 = .ok (.iload 5, 2) := by decide +kernel
theorem dX12_sound_29 : decode cX12_sound 29 = .ok (.aload_n 0, 1) := by decide +kernel
theorem dX12_sound_30 : decode cX12_sound 30 = .ok (.getfield 88, 3) := by decide +kernel
theorem dX12_sound_33 : decode cX12_sound 33 = .ok (.if_icmp .ge 86, 3) := by decide +kernel
theorem dX12_sound_36 : decode cX12_sound 36 = .ok (.iload_n 3, 1) := by decide +kernel
theorem dX12_sound_37 : decode cX12_sound 37 = .ok (.iload 5, 2) := by decide +kernel
theorem dX12_sound_39 : decode cX12_sound 39 = .ok (.iconst 1, 1) := by decide +kernel
theorem dX12_sound_40 : decode cX12_sound 40 = .ok (.isub, 1) := by decide +kernel
theorem dX12_sound_41 : decode cX12_sound 41 = .ok (.ishr, 1) := by decide +kernel
theorem dX12_sound_42 : decode cX12_sound 42 = .ok (.iconst 1, 1) := by decide +kernel
theorem dX12_sound_43 : decode cX12_sound 43 = .ok (.iand, 1) := by decide +kernel
theorem dX12_sound_44 : decode cX12_sound 44 = .ok (.iconst 1, 1) := by decide +kernel
theorem dX12_sound_45 : decode cX12_sound 45 = .ok (.if_icmp .ne 7, 3) := by decide +kernel
theorem dX12_sound_48 : decode cX12_sound 48 = .ok (.iconst 1, 1) := by decide +kernel
theorem dX12_sound_49 : decode cX12_sound 49 = .ok (.goto 4, 3) := by decide +kernel
theorem dX12_sound_52 : decode cX12_sound 52 = .ok (.iconst 0, 1) := by decide +kernel
theorem dX12_sound_53 : decode cX12_sound 53 = .ok (.istore 6, 2) := by decide +kernel
theorem dX12_sound_55 : decode cX12_sound 55 = .ok (.iload 4, 2) := by decide +kernel
theorem dX12_sound_57 : decode cX12_sound 57 = .ok (.iload 6, 2) := by decide +kernel
theorem dX12_sound_59 : decode cX12_sound 59 = .ok (.ifCond .eq 7, 3) := by decide +kernel
theorem dX12_sound_62 : decode cX12_sound 62 = .ok (.iconst 1, 1) := by decide +kernel
theorem dX12_sound_63 : decode cX12_sound 63 = .ok (.goto 4, 3) := by decide +kernel
theorem dX12_sound_66 : decode cX12_sound 66 = .ok (.iconst 0, 1) := by decide +kernel
theorem dX12_sound_67 : decode cX12_sound 67 = .ok (.iadd, 1) := by decide +kernel
theorem dX12_sound_68 : decode cX12_sound 68 = .ok (.istore 4, 2) := by decide +kernel
theorem dX12_sound_70 : decode cX12_sound 70 = .ok (.iconst 0, 1) := by decide +kernel
theorem dX12_sound_71 : decode cX12_sound 71 = .ok (.istore 7, 2) := by decide +kernel
theorem dX12_sound_73 : decode cX12_sound 73 = .ok (.iload 7, 2) := by decide +kernel
theorem dX12_sound_75 : decode cX12_sound 75 = .ok (.aload_n 0, 1) := by decide +kernel
theorem dX12_sound_76 : decode cX12_sound 76 = .ok (.getfield 92, 3) := by decide +kernel
theorem dX12_sound_79 : decode cX12_sound 79 = .ok (.if_icmp .ge 34, 3) := by decide +kernel
theorem dX12_sound_82 : decode cX12_sound 82 = .ok (.iload 6, 2) := by decide +kernel
theorem dX12_sound_84 : decode cX12_sound 84 = .ok (.ifCond .eq 29, 3) := by decide +kernel
theorem dX12_sound_87 : decode cX12_sound 87 = .ok (.aload_n 0, 1) := by decide +kernel
theorem dX12_sound_88 : decode cX12_sound 88 = .ok (.getfield 32, 3) := by decide +kernel
theorem dX12_sound_91 : decode cX12_sound 91 = .ok (.iconst 2, 1) := by decide +kernel
theorem dX12_sound_92 : decode cX12_sound 92 = .ok (.aload_n 0, 1) := by decide +kernel
theorem dX12_sound_93 : decode cX12_sound 93 = .ok (.getfield 88, 3) := by decide +kernel
theorem dX12_sound_96 : decode cX12_sound 96 = .ok (.iload 7, 2) := by decide +kernel
theorem dX12_sound_98 : decode cX12_sound 98 = .ok (.imul, 1) := by decide +kernel
theorem dX12_sound_99 : decode cX12_sound 99 = .ok (.iload 5, 2) := by decide +kernel
theorem dX12_sound_101 : decode cX12_sound 101 = .ok (.iadd, 1) := by decide +kernel
theorem dX12_sound_102 : decode cX12_sound 102 = .ok (.iconst 1, 1) := by decide +kernel
theorem dX12_sound_103 : decode cX12_sound 103 = .ok (.isub, 1) := by decide +kernel
theorem dX12_sound_104 : decode cX12_sound 104 = .ok (.imul, 1) := by decide +kernel
theorem dX12_sound_105 : decode cX12_sound 105 = .ok (.iconst 0, 1) := by decide +kernel
theorem dX12_sound_106 : decode cX12_sound 106 = .ok (.bastore, 1) := by decide +kernel
theorem dX12_sound_107 : decode cX12_sound 107 = .ok (.iinc 7 1, 3) := by decide +kernel
theorem dX12_sound_110 : decode cX12_sound 110 = .ok (.goto (-37), 3) := by decide +kernel
theorem dX12_sound_113 : decode cX12_sound 113 = .ok (.iinc 5 1, 3) := by decide +kernel
theorem dX12_sound_116 : decode cX12_sound 116 = .ok (.goto (-89), 3) := by decide +kernel
theorem dX12_sound_119 : decode cX12_sound 119 = .ok (.lload_n 1, 1) := by decide +kernel
theorem dX12_sound_120 : decode cX12_sound 120 = .ok (.iload 4, 2) := by decide +kernel
theorem dX12_sound_122 : decode cX12_sound 122 = .ok (.iconst 2, 1) := by decide +kernel
theorem dX12_sound_123 : decode cX12_sound 123 = .ok (.irem, 1) := by decide +kernel
theorem dX12_sound_124 : decode cX12_sound 124 = .ok (.ifCond .ne 10, 3) := by decide +kernel
theorem dX12_sound_127 : decode cX12_sound 127 = .ok (.aload_n 0, 1) := by decide +kernel
theorem dX12_sound_128 : decode cX12_sound 128 = .ok (.invokevirtual 173, 3) := by decide +kernel
theorem dX12_sound_131 : decode cX12_sound 131 = .ok (.goto 9, 3) := by decide +kernel
theorem dX12_sound_134 : decode cX12_sound 134 = .ok (.lconst 0, 1) := by decide +kernel
theorem dX12_sound_135 : decode cX12_sound 135 = .ok (.aload_n 0, 1) := by decide +kernel
theorem dX12_sound_136 : decode cX12_sound 136 = .ok (.invokevirtual 173, 3) := by decide +kernel
theorem dX12_sound_139 : decode cX12_sound 139 = .ok (.lsub, 1) := by decide +kernel
theorem dX12_sound_140 : decode cX12_sound 140 = .ok (.ladd, 1) := by decide +kernel
theorem dX12_sound_141 : decode cX12_sound 141 = .ok (.lstore_n 1, 1) := by decide +kernel
theorem dX12_sound_142 : decode cX12_sound 142 = .ok (.iinc 3 1, 3) := by decide +kernel
theorem dX12_sound_145 : decode cX12_sound 145 = .ok (.goto (-141), 3) := by decide +kernel
theorem dX12_sound_148 : decode cX12_sound 148 = .ok (.lload_n 1, 1) := by decide +kernel
theorem dX12_sound_149 : decode cX12_sound 149 = .ok (.lreturn, 1) := by decide +kernel
theorem dX12_mateIn_0 : decode cX12_mateIn 0 = .ok (.aload_n 0, 1) := by decide +kernel
theorem dX12_mateIn_1 : decode cX12_mateIn 1 = .ok (.getfield 23, 3) := by decide +kernel
theorem dX12_mateIn_4 : decode cX12_mateIn 4 = .ok (.bipush 64, 2) := by decide +kernel
theorem dX12_mateIn_6 : decode cX12_mateIn 6 = .ok (.iload_n 1, 1) := by decide +kernel
theorem dX12_mateIn_7 : decode cX12_mateIn 7 = .ok (.imul, 1) := by decide +kernel
theorem dX12_mateIn_8 : decode cX12_mateIn 8 = .ok (.iload_n 2, 1) := by decide +kernel
theorem dX12_mateIn_9 : decode cX12_mateIn 9 = .ok (.iadd, 1) := by decide +kernel
theorem dX12_mateIn_10 : decode cX12_mateIn 10 = .ok (.iaload, 1) := by decide +kernel
theorem dX12_mateIn_11 : decode cX12_mateIn 11 = .ok (.istore_n 3, 1) := by decide +kernel
theorem dX12_mateIn_12 : decode cX12_mateIn 12 = .ok (.iload_n 3, 1) := by decide +kernel
theorem dX12_mateIn_13 : decode cX12_mateIn 13 = .ok (.iconst 2, 1) := by decide +kernel
theorem dX12_mateIn_14 : decode cX12_mateIn 14 = .ok (.idiv, 1) := by decide +kernel
theorem dX12_mateIn_15 : decode cX12_mateIn 15 = .ok (.iload_n 2, 1) := by decide +kernel
theorem dX12_mateIn_16 : decode cX12_mateIn 16 = .ok (.if_icmp .ne 11, 3) := by decide +kernel
theorem dX12_mateIn_19 : decode cX12_mateIn 19 = .ok (.aload_n 0, 1) := by decide +kernel
theorem dX12_mateIn_20 : decode cX12_mateIn 20 = .ok (.iload_n 3, 1) := by decide +kernel
theorem dX12_mateIn_21 : decode cX12_mateIn 21 = .ok (.invokevirtual 108, 3) := by decide +kernel
theorem dX12_mateIn_24 : decode cX12_mateIn 24 = .ok (.goto 6, 3) := by decide +kernel
theorem dX12_mateIn_27 : decode cX12_mateIn 27 = .ok (.iload_n 3, 1) := by decide +kernel
theorem dX12_mateIn_28 : decode cX12_mateIn 28 = .ok (.iconst 2, 1) := by decide +kernel
theorem dX12_mateIn_29 : decode cX12_mateIn 29 = .ok (.idiv, 1) := by decide +kernel
theorem dX12_mateIn_30 : decode cX12_mateIn 30 = .ok (.ireturn, 1) := by decide +kernel
theorem dX12_ringMany_0 : decode cX12_ringMany 0 = .ok (.iconst 0, 1) := by decide +kernel
theorem dX12_ringMany_1 : decode cX12_ringMany 1 = .ok (.istore_n 3, 1) := by decide +kernel
theorem dX12_ringMany_2 : decode cX12_ringMany 2 = .ok (.iload_n 3, 1) := by decide +kernel
theorem dX12_ringMany_3 : decode cX12_ringMany 3 = .ok (.bipush 64, 2) := by decide +kernel
theorem dX12_ringMany_5 : decode cX12_ringMany 5 = .ok (.if_icmp .ge 16, 3) := by decide +kernel
theorem dX12_ringMany_8 : decode cX12_ringMany 8 = .ok (.aload_n 0, 1) := by decide +kernel
theorem dX12_ringMany_9 : decode cX12_ringMany 9 = .ok (.getfield 69, 3) := by decide +kernel
theorem dX12_ringMany_12 : decode cX12_ringMany 12 = .ok (.iload_n 3, 1) := by decide +kernel
theorem dX12_ringMany_13 : decode cX12_ringMany 13 = .ok (.iconst (-1), 1) := by decide +kernel
theorem dX12_ringMany_14 : decode cX12_ringMany 14 = .ok (.iastore, 1) := by decide +kernel
theorem dX12_ringMany_15 : decode cX12_ringMany 15 = .ok (.iinc 3 1, 3) := by decide +kernel
theorem dX12_ringMany_18 : decode cX12_ringMany 18 = .ok (.goto (-16), 3) := by decide +kernel
theorem dX12_ringMany_21 : decode cX12_ringMany 21 = .ok (.iconst 0, 1) := by decide +kernel
theorem dX12_ringMany_22 : decode cX12_ringMany 22 = .ok (.istore_n 3, 1) := by decide +kernel
theorem dX12_ringMany_23 : decode cX12_ringMany 23 = .ok (.iconst 0, 1) := by decide +kernel
theorem dX12_ringMany_24 : decode cX12_ringMany 24 = .ok (.istore 4, 2) := by decide +kernel
theorem dX12_ringMany_26 : decode cX12_ringMany 26 = .ok (.iload 4, 2) := by decide +kernel
theorem dX12_ringMany_28 : decode cX12_ringMany 28 = .ok (.aload_n 0, 1) := by decide +kernel
theorem dX12_ringMany_29 : decode cX12_ringMany 29 = .ok (.getfield 88, 3) := by decide +kernel
theorem dX12_ringMany_32 : decode cX12_ringMany 32 = .ok (.aload_n 0, 1) := by decide +kernel
theorem dX12_ringMany_33 : decode cX12_ringMany 33 = .ok (.getfield 92, 3) := by decide +kernel
theorem dX12_ringMany_36 : decode cX12_ringMany 36 = .ok (.imul, 1) := by decide +kernel
theorem dX12_ringMany_37 : decode cX12_ringMany 37 = .ok (.if_icmp .ge 110, 3) := by decide +kernel
theorem dX12_ringMany_40 : decode cX12_ringMany 40 = .ok (.aload_n 0, 1) := by decide +kernel
theorem dX12_ringMany_41 : decode cX12_ringMany 41 = .ok (.getfield 7, 3) := by decide +kernel
theorem dX12_ringMany_44 : decode cX12_ringMany 44 = .ok (.iload 4, 2) := by decide +kernel
theorem dX12_ringMany_46 : decode cX12_ringMany 46 = .ok (.baload, 1) := by decide +kernel
theorem dX12_ringMany_47 : decode cX12_ringMany 47 = .ok (.ifCond .eq 94, 3) := by decide +kernel
theorem dX12_ringMany_50 : decode cX12_ringMany 50 = .ok (.aload_n 0, 1) := by decide +kernel
theorem dX12_ringMany_51 : decode cX12_ringMany 51 = .ok (.getfield 69, 3) := by decide +kernel
theorem dX12_ringMany_54 : decode cX12_ringMany 54 = .ok (.iload 4, 2) := by decide +kernel
theorem dX12_ringMany_56 : decode cX12_ringMany 56 = .ok (.iaload, 1) := by decide +kernel
theorem dX12_ringMany_57 : decode cX12_ringMany 57 = .ok (.ifCond .ge 84, 3) := by decide +kernel
theorem dX12_ringMany_60 : decode cX12_ringMany 60 = .ok (.aload_n 0, 1) := by decide +kernel
theorem dX12_ringMany_61 : decode cX12_ringMany 61 = .ok (.getfield 23, 3) := by decide +kernel
theorem dX12_ringMany_64 : decode cX12_ringMany 64 = .ok (.bipush 64, 2) := by decide +kernel
theorem dX12_ringMany_66 : decode cX12_ringMany 66 = .ok (.iload_n 1, 1) := by decide +kernel
theorem dX12_ringMany_67 : decode cX12_ringMany 67 = .ok (.imul, 1) := by decide +kernel
theorem dX12_ringMany_68 : decode cX12_ringMany 68 = .ok (.iload 4, 2) := by decide +kernel
theorem dX12_ringMany_70 : decode cX12_ringMany 70 = .ok (.iadd, 1) := by decide +kernel
theorem dX12_ringMany_71 : decode cX12_ringMany 71 = .ok (.iaload, 1) := by decide +kernel
theorem dX12_ringMany_72 : decode cX12_ringMany 72 = .ok (.aload_n 0, 1) := by decide +kernel
theorem dX12_ringMany_73 : decode cX12_ringMany 73 = .ok (.getfield 23, 3) := by decide +kernel
theorem dX12_ringMany_76 : decode cX12_ringMany 76 = .ok (.bipush 64, 2) := by decide +kernel
theorem dX12_ringMany_78 : decode cX12_ringMany 78 = .ok (.iload_n 2, 1) := by decide +kernel
theorem dX12_ringMany_79 : decode cX12_ringMany 79 = .ok (.imul, 1) := by decide +kernel
theorem dX12_ringMany_80 : decode cX12_ringMany 80 = .ok (.iload 4, 2) := by decide +kernel
theorem dX12_ringMany_82 : decode cX12_ringMany 82 = .ok (.iadd, 1) := by decide +kernel
theorem dX12_ringMany_83 : decode cX12_ringMany 83 = .ok (.iaload, 1) := by decide +kernel
theorem dX12_ringMany_84 : decode cX12_ringMany 84 = .ok (.if_icmp .eq 57, 3) := by decide +kernel
theorem dX12_ringMany_87 : decode cX12_ringMany 87 = .ok (.iload 4, 2) := by decide +kernel
theorem dX12_ringMany_89 : decode cX12_ringMany 89 = .ok (.istore 5, 2) := by decide +kernel
theorem dX12_ringMany_91 : decode cX12_ringMany 91 = .ok (.aload_n 0, 1) := by decide +kernel
theorem dX12_ringMany_92 : decode cX12_ringMany 92 = .ok (.getfield 69, 3) := by decide +kernel
theorem dX12_ringMany_95 : decode cX12_ringMany 95 = .ok (.iload 5, 2) := by decide +kernel
theorem dX12_ringMany_97 : decode cX12_ringMany 97 = .ok (.iaload, 1) := by decide +kernel
theorem dX12_ringMany_98 : decode cX12_ringMany 98 = .ok (.ifCond .ge 40, 3) := by decide +kernel
theorem dX12_ringMany_101 : decode cX12_ringMany 101 = .ok (.aload_n 0, 1) := by decide +kernel
theorem dX12_ringMany_102 : decode cX12_ringMany 102 = .ok (.getfield 69, 3) := by decide +kernel
theorem dX12_ringMany_105 : decode cX12_ringMany 105 = .ok (.iload 5, 2) := by decide +kernel
theorem dX12_ringMany_107 : decode cX12_ringMany 107 = .ok (.iload_n 3, 1) := by decide +kernel
theorem dX12_ringMany_108 : decode cX12_ringMany 108 = .ok (.iastore, 1) := by decide +kernel
theorem dX12_ringMany_109 : decode cX12_ringMany 109 = .ok (.aload_n 0, 1) := by decide +kernel
theorem dX12_ringMany_110 : decode cX12_ringMany 110 = .ok (.iload_n 1, 1) := by decide +kernel
theorem dX12_ringMany_111 : decode cX12_ringMany 111 = .ok (.iload 5, 2) := by decide +kernel
theorem dX12_ringMany_113 : decode cX12_ringMany 113 = .ok (.invokevirtual 274, 3) := by decide +kernel
theorem dX12_ringMany_116 : decode cX12_ringMany 116 = .ok (.istore 6, 2) := by decide +kernel
theorem dX12_ringMany_118 : decode cX12_ringMany 118 = .ok (.aload_n 0, 1) := by decide +kernel
theorem dX12_ringMany_119 : decode cX12_ringMany 119 = .ok (.getfield 69, 3) := by decide +kernel
theorem dX12_ringMany_122 : decode cX12_ringMany 122 = .ok (.iload 6, 2) := by decide +kernel
theorem dX12_ringMany_124 : decode cX12_ringMany 124 = .ok (.iload_n 3, 1) := by decide +kernel
theorem dX12_ringMany_125 : decode cX12_ringMany 125 = .ok (.iastore, 1) := by decide +kernel
theorem dX12_ringMany_126 : decode cX12_ringMany 126 = .ok (.aload_n 0, 1) := by decide +kernel
theorem dX12_ringMany_127 : decode cX12_ringMany 127 = .ok (.iload_n 2, 1) := by decide +kernel
theorem dX12_ringMany_128 : decode cX12_ringMany 128 = .ok (.iload 6, 2) := by decide +kernel
theorem dX12_ringMany_130 : decode cX12_ringMany 130 = .ok (.invokevirtual 274, 3) := by decide +kernel
theorem dX12_ringMany_133 : decode cX12_ringMany 133 = .ok (.istore 5, 2) := by decide +kernel
theorem dX12_ringMany_135 : decode cX12_ringMany 135 = .ok (.goto (-44), 3) := by decide +kernel
theorem dX12_ringMany_138 : decode cX12_ringMany 138 = .ok (.iinc 3 1, 3) := by decide +kernel
theorem dX12_ringMany_141 : decode cX12_ringMany 141 = .ok (.iinc 4 1, 3) := by decide +kernel
theorem dX12_ringMany_144 : decode cX12_ringMany 144 = .ok (.goto (-118), 3) := by decide +kernel
theorem dX12_ringMany_147 : decode cX12_ringMany 147 = .ok (.iload_n 3, 1) := by decide +kernel
theorem dX12_ringMany_148 : decode cX12_ringMany 148 = .ok (.ireturn, 1) := by decide +kernel
theorem dX12_rings_0 : decode cX12_rings 0 = .ok (.aload_n 0, 1) := by decide +kernel
theorem dX12_rings_1 : decode cX12_rings 1 = .ok (.iload_n 1, 1) := by decide +kernel
theorem dX12_rings_2 : decode cX12_rings 2 = .ok (.iload_n 2, 1) := by decide +kernel
theorem dX12_rings_3 : decode cX12_rings 3 = .ok (.invokevirtual 265, 3) := by decide +kernel
theorem dX12_rings_6 : decode cX12_rings 6 = .ok (.istore_n 3, 1) := by decide +kernel
theorem dX12_rings_7 : decode cX12_rings 7 = .ok (.iload_n 3, 1) := by decide +kernel
theorem dX12_rings_8 : decode cX12_rings 8 = .ok (.ifCond .ge 7, 3) := by decide +kernel
theorem dX12_rings_11 : decode cX12_rings 11 = .ok (.iload_n 3, 1) := by decide +kernel
theorem dX12_rings_12 : decode cX12_rings 12 = .ok (.goto 9, 3) := by decide +kernel
theorem dX12_rings_15 : decode cX12_rings 15 = .ok (.aload_n 0, 1) := by decide +kernel
theorem dX12_rings_16 : decode cX12_rings 16 = .ok (.iload_n 1, 1) := by decide +kernel
theorem dX12_rings_17 : decode cX12_rings 17 = .ok (.iload_n 2, 1) := by decide +kernel
theorem dX12_rings_18 : decode cX12_rings 18 = .ok (.invokevirtual 277, 3) := by decide +kernel
theorem dX12_rings_21 : decode cX12_rings 21 = .ok (.ireturn, 1) := by decide +kernel
theorem dX12_ringSize_0 : decode cX12_ringSize 0 = .ok (.iconst 0, 1) := by decide +kernel
theorem dX12_ringSize_1 : decode cX12_ringSize 1 = .ok (.istore_n 2, 1) := by decide +kernel
theorem dX12_ringSize_2 : decode cX12_ringSize 2 = .ok (.iconst 0, 1) := by decide +kernel
theorem dX12_ringSize_3 : decode cX12_ringSize 3 = .ok (.istore_n 3, 1) := by decide +kernel
theorem dX12_ringSize_4 : decode cX12_ringSize 4 = .ok (.iload_n 3, 1) := by decide +kernel
theorem dX12_ringSize_5 : decode cX12_ringSize 5 = .ok (.aload_n 0, 1) := by decide +kernel
theorem dX12_ringSize_6 : decode cX12_ringSize 6 = .ok (.getfield 88, 3) := by decide +kernel
theorem dX12_ringSize_9 : decode cX12_ringSize 9 = .ok (.aload_n 0, 1) := by decide +kernel
theorem dX12_ringSize_10 : decode cX12_ringSize 10 = .ok (.getfield 92, 3) := by decide +kernel
theorem dX12_ringSize_13 : decode cX12_ringSize 13 = .ok (.imul, 1) := by decide +kernel
theorem dX12_ringSize_14 : decode cX12_ringSize 14 = .ok (.if_icmp .ge 27, 3) := by decide +kernel
theorem dX12_ringSize_17 : decode cX12_ringSize 17 = .ok (.iload_n 2, 1) := by decide +kernel
theorem dX12_ringSize_18 : decode cX12_ringSize 18 = .ok (.aload_n 0, 1) := by decide +kernel
theorem dX12_ringSize_19 : decode cX12_ringSize 19 = .ok (.getfield 69, 3) := by decide +kernel
theorem dX12_ringSize_22 : decode cX12_ringSize 22 = .ok (.iload_n 3, 1) := by decide +kernel
theorem dX12_ringSize_23 : decode cX12_ringSize 23 = .ok (.iaload, 1) := by decide +kernel
theorem dX12_ringSize_24 : decode cX12_ringSize 24 = .ok (.iload_n 1, 1) := by decide +kernel
theorem dX12_ringSize_25 : decode cX12_ringSize 25 = .ok (.if_icmp .ne 7, 3) := by decide +kernel
theorem dX12_ringSize_28 : decode cX12_ringSize 28 = .ok (.iconst 1, 1) := by decide +kernel
theorem dX12_ringSize_29 : decode cX12_ringSize 29 = .ok (.goto 4, 3) := by decide +kernel
theorem dX12_ringSize_32 : decode cX12_ringSize 32 = .ok (.iconst 0, 1) := by decide +kernel
theorem dX12_ringSize_33 : decode cX12_ringSize 33 = .ok (.iadd, 1) := by decide +kernel
theorem dX12_ringSize_34 : decode cX12_ringSize 34 = .ok (.istore_n 2, 1) := by decide +kernel
theorem dX12_ringSize_35 : decode cX12_ringSize 35 = .ok (.iinc 3 1, 3) := by decide +kernel
theorem dX12_ringSize_38 : decode cX12_ringSize 38 = .ok (.goto (-34), 3) := by decide +kernel
theorem dX12_ringSize_41 : decode cX12_ringSize 41 = .ok (.iload_n 2, 1) := by decide +kernel
theorem dX12_ringSize_42 : decode cX12_ringSize 42 = .ok (.ireturn, 1) := by decide +kernel
theorem dX12_ring_0 : decode cX12_ring 0 = .ok (.iload_n 1, 1) := by decide +kernel
theorem dX12_ring_1 : decode cX12_ring 1 = .ok (.invokestatic 188, 3) := by decide +kernel
theorem dX12_ring_4 : decode cX12_ring 4 = .ok (.ifCond .eq 14, 3) := by decide +kernel
theorem dX12_ring_7 : decode cX12_ring 7 = .ok (.iload_n 2, 1) := by decide +kernel
theorem dX12_ring_8 : decode cX12_ring 8 = .ok (.invokestatic 188, 3) := by decide +kernel
theorem dX12_ring_11 : decode cX12_ring 11 = .ok (.ifCond .eq 7, 3) := by decide +kernel
theorem dX12_ring_14 : decode cX12_ring 14 = .ok (.iload_n 3, 1) := by decide +kernel
theorem dX12_ring_15 : decode cX12_ring 15 = .ok (.ifCond .ge 5, 3) := by decide +kernel
theorem dX12_ring_18 : decode cX12_ring 18 = .ok (.iconst (-1), 1) := by decide +kernel
theorem dX12_ring_19 : decode cX12_ring 19 = .ok (.ireturn, 1) := by decide +kernel
theorem dX12_ring_20 : decode cX12_ring 20 = .ok (.aload_n 0, 1) := by decide +kernel
theorem dX12_ring_21 : decode cX12_ring 21 = .ok (.iload_n 1, 1) := by decide +kernel
theorem dX12_ring_22 : decode cX12_ring 22 = .ok (.iload_n 2, 1) := by decide +kernel
theorem dX12_ring_23 : decode cX12_ring 23 = .ok (.invokevirtual 265, 3) := by decide +kernel
theorem dX12_ring_26 : decode cX12_ring 26 = .ok (.istore 4, 2) := by decide +kernel
theorem dX12_ring_28 : decode cX12_ring 28 = .ok (.iload 4, 2) := by decide +kernel
theorem dX12_ring_30 : decode cX12_ring 30 = .ok (.ifCond .ge 6, 3) := by decide +kernel
theorem dX12_ring_33 : decode cX12_ring 33 = .ok (.iload 4, 2) := by decide +kernel
theorem dX12_ring_35 : decode cX12_ring 35 = .ok (.ireturn, 1) := by decide +kernel
theorem dX12_ring_36 : decode cX12_ring 36 = .ok (.iload_n 3, 1) := by decide +kernel
theorem dX12_ring_37 : decode cX12_ring 37 = .ok (.aload_n 0, 1) := by decide +kernel
theorem dX12_ring_38 : decode cX12_ring 38 = .ok (.iload_n 1, 1) := by decide +kernel
theorem dX12_ring_39 : decode cX12_ring 39 = .ok (.iload_n 2, 1) := by decide +kernel
theorem dX12_ring_40 : decode cX12_ring 40 = .ok (.invokevirtual 277, 3) := by decide +kernel
theorem dX12_ring_43 : decode cX12_ring 43 = .ok (.if_icmp .ge 11, 3) := by decide +kernel
theorem dX12_ring_46 : decode cX12_ring 46 = .ok (.aload_n 0, 1) := by decide +kernel
theorem dX12_ring_47 : decode cX12_ring 47 = .ok (.iload_n 3, 1) := by decide +kernel
theorem dX12_ring_48 : decode cX12_ring 48 = .ok (.invokevirtual 280, 3) := by decide +kernel
theorem dX12_ring_51 : decode cX12_ring 51 = .ok (.goto 4, 3) := by decide +kernel
theorem dX12_ring_54 : decode cX12_ring 54 = .ok (.iconst (-1), 1) := by decide +kernel
theorem dX12_ring_55 : decode cX12_ring 55 = .ok (.ireturn, 1) := by decide +kernel
theorem dX12_wind_0 : decode cX12_wind 0 = .ok (.iload_n 1, 1) := by decide +kernel
theorem dX12_wind_1 : decode cX12_wind 1 = .ok (.invokestatic 188, 3) := by decide +kernel
theorem dX12_wind_4 : decode cX12_wind 4 = .ok (.ifCond .eq 14, 3) := by decide +kernel
theorem dX12_wind_7 : decode cX12_wind 7 = .ok (.iload_n 2, 1) := by decide +kernel
theorem dX12_wind_8 : decode cX12_wind 8 = .ok (.invokestatic 188, 3) := by decide +kernel
theorem dX12_wind_11 : decode cX12_wind 11 = .ok (.ifCond .eq 7, 3) := by decide +kernel
theorem dX12_wind_14 : decode cX12_wind 14 = .ok (.iload_n 3, 1) := by decide +kernel
theorem dX12_wind_15 : decode cX12_wind 15 = .ok (.ifCond .ge 5, 3) := by decide +kernel
theorem dX12_wind_18 : decode cX12_wind 18 = .ok (.iconst (-1), 1) := by decide +kernel
theorem dX12_wind_19 : decode cX12_wind 19 = .ok (.ireturn, 1) := by decide +kernel
theorem dX12_wind_20 : decode cX12_wind 20 = .ok (.aload_n 0, 1) := by decide +kernel
theorem dX12_wind_21 : decode cX12_wind 21 = .ok (.iload_n 1, 1) := by decide +kernel
theorem dX12_wind_22 : decode cX12_wind 22 = .ok (.iload_n 2, 1) := by decide +kernel
theorem dX12_wind_23 : decode cX12_wind 23 = .ok (.invokevirtual 265, 3) := by decide +kernel
theorem dX12_wind_26 : decode cX12_wind 26 = .ok (.istore 4, 2) := by decide +kernel
theorem dX12_wind_28 : decode cX12_wind 28 = .ok (.iload 4, 2) := by decide +kernel
theorem dX12_wind_30 : decode cX12_wind 30 = .ok (.ifCond .ge 6, 3) := by decide +kernel
theorem dX12_wind_33 : decode cX12_wind 33 = .ok (.iload 4, 2) := by decide +kernel
theorem dX12_wind_35 : decode cX12_wind 35 = .ok (.ireturn, 1) := by decide +kernel
theorem dX12_wind_36 : decode cX12_wind 36 = .ok (.iload_n 3, 1) := by decide +kernel
theorem dX12_wind_37 : decode cX12_wind 37 = .ok (.aload_n 0, 1) := by decide +kernel
theorem dX12_wind_38 : decode cX12_wind 38 = .ok (.iload_n 1, 1) := by decide +kernel
theorem dX12_wind_39 : decode cX12_wind 39 = .ok (.iload_n 2, 1) := by decide +kernel
theorem dX12_wind_40 : decode cX12_wind 40 = .ok (.invokevirtual 277, 3) := by decide +kernel
theorem dX12_wind_43 : decode cX12_wind 43 = .ok (.if_icmp .lt 5, 3) := by decide +kernel
theorem dX12_wind_46 : decode cX12_wind 46 = .ok (.iconst (-1), 1) := by decide +kernel
theorem dX12_wind_47 : decode cX12_wind 47 = .ok (.ireturn, 1) := by decide +kernel
theorem dX12_wind_48 : decode cX12_wind 48 = .ok (.iconst 0, 1) := by decide +kernel
theorem dX12_wind_49 : decode cX12_wind 49 = .ok (.istore 5, 2) := by decide +kernel
theorem dX12_wind_51 : decode cX12_wind 51 = .ok (.iload 5, 2) := by decide +kernel
theorem dX12_wind_53 : decode cX12_wind 53 = .ok (.aload_n 0, 1) := by decide +kernel
theorem dX12_wind_54 : decode cX12_wind 54 = .ok (.getfield 88, 3) := by decide +kernel
theorem dX12_wind_57 : decode cX12_wind 57 = .ok (.aload_n 0, 1) := by decide +kernel
theorem dX12_wind_58 : decode cX12_wind 58 = .ok (.getfield 92, 3) := by decide +kernel
theorem dX12_wind_61 : decode cX12_wind 61 = .ok (.imul, 1) := by decide +kernel
theorem dX12_wind_62 : decode cX12_wind 62 = .ok (.if_icmp .ge 69, 3) := by decide +kernel
theorem dX12_wind_65 : decode cX12_wind 65 = .ok (.aload_n 0, 1) := by decide +kernel
theorem dX12_wind_66 : decode cX12_wind 66 = .ok (.getfield 23, 3) := by decide +kernel
theorem dX12_wind_69 : decode cX12_wind 69 = .ok (.bipush 64, 2) := by decide +kernel
theorem dX12_wind_71 : decode cX12_wind 71 = .ok (.iload_n 1, 1) := by decide +kernel
theorem dX12_wind_72 : decode cX12_wind 72 = .ok (.imul, 1) := by decide +kernel
theorem dX12_wind_73 : decode cX12_wind 73 = .ok (.iload 5, 2) := by decide +kernel
theorem dX12_wind_75 : decode cX12_wind 75 = .ok (.iadd, 1) := by decide +kernel
theorem dX12_wind_76 : decode cX12_wind 76 = .ok (.aload_n 0, 1) := by decide +kernel
theorem dX12_wind_77 : decode cX12_wind 77 = .ok (.getfield 7, 3) := by decide +kernel
theorem dX12_wind_80 : decode cX12_wind 80 = .ok (.iload 5, 2) := by decide +kernel
theorem dX12_wind_82 : decode cX12_wind 82 = .ok (.baload, 1) := by decide +kernel
theorem dX12_wind_83 : decode cX12_wind 83 = .ok (.ifCond .eq 29, 3) := by decide +kernel
theorem dX12_wind_86 : decode cX12_wind 86 = .ok (.aload_n 0, 1) := by decide +kernel
theorem dX12_wind_87 : decode cX12_wind 87 = .ok (.getfield 69, 3) := by decide +kernel
theorem dX12_wind_90 : decode cX12_wind 90 = .ok (.iload 5, 2) := by decide +kernel
theorem dX12_wind_92 : decode cX12_wind 92 = .ok (.iaload, 1) := by decide +kernel
theorem dX12_wind_93 : decode cX12_wind 93 = .ok (.iload_n 3, 1) := by decide +kernel
theorem dX12_wind_94 : decode cX12_wind 94 = .ok (.if_icmp .ne 18, 3) := by decide +kernel
theorem dX12_wind_97 : decode cX12_wind 97 = .ok (.aload_n 0, 1) := by decide +kernel
theorem dX12_wind_98 : decode cX12_wind 98 = .ok (.getfield 23, 3) := by decide +kernel
theorem dX12_wind_101 : decode cX12_wind 101 = .ok (.bipush 64, 2) := by decide +kernel
theorem dX12_wind_103 : decode cX12_wind 103 = .ok (.iload_n 2, 1) := by decide +kernel
theorem dX12_wind_104 : decode cX12_wind 104 = .ok (.imul, 1) := by decide +kernel
theorem dX12_wind_105 : decode cX12_wind 105 = .ok (.iload 5, 2) := by decide +kernel
theorem dX12_wind_107 : decode cX12_wind 107 = .ok (.iadd, 1) := by decide +kernel
theorem dX12_wind_108 : decode cX12_wind 108 = .ok (.iaload, 1) := by decide +kernel
theorem dX12_wind_109 : decode cX12_wind 109 = .ok (.goto 15, 3) := by decide +kernel
theorem dX12_wind_112 : decode cX12_wind 112 = .ok (.aload_n 0, 1) := by decide +kernel
theorem dX12_wind_113 : decode cX12_wind 113 = .ok (.getfield 23, 3) := by decide +kernel
theorem dX12_wind_116 : decode cX12_wind 116 = .ok (.bipush 64, 2) := by decide +kernel
theorem dX12_wind_118 : decode cX12_wind 118 = .ok (.iload_n 1, 1) := by decide +kernel
theorem dX12_wind_119 : decode cX12_wind 119 = .ok (.imul, 1) := by decide +kernel
theorem dX12_wind_120 : decode cX12_wind 120 = .ok (.iload 5, 2) := by decide +kernel
theorem dX12_wind_122 : decode cX12_wind 122 = .ok (.iadd, 1) := by decide +kernel
theorem dX12_wind_123 : decode cX12_wind 123 = .ok (.iaload, 1) := by decide +kernel
theorem dX12_wind_124 : decode cX12_wind 124 = .ok (.iastore, 1) := by decide +kernel
theorem dX12_wind_125 : decode cX12_wind 125 = .ok (.iinc 5 1, 3) := by decide +kernel
theorem dX12_wind_128 : decode cX12_wind 128 = .ok (.goto (-77), 3) := by decide +kernel
theorem dX12_wind_131 : decode cX12_wind 131 = .ok (.aload_n 0, 1) := by decide +kernel
theorem dX12_wind_132 : decode cX12_wind 132 = .ok (.iload_n 3, 1) := by decide +kernel
theorem dX12_wind_133 : decode cX12_wind 133 = .ok (.invokevirtual 280, 3) := by decide +kernel
theorem dX12_wind_136 : decode cX12_wind 136 = .ok (.iconst 2, 1) := by decide +kernel
theorem dX12_wind_137 : decode cX12_wind 137 = .ok (.idiv, 1) := by decide +kernel
theorem dX12_wind_138 : decode cX12_wind 138 = .ok (.ireturn, 1) := by decide +kernel
theorem dX12_isSheet_0 : decode cX12_isSheet 0 = .ok (.iload_n 0, 1) := by decide +kernel
theorem dX12_isSheet_1 : decode cX12_isSheet 1 = .ok (.i2l, 1) := by decide +kernel
theorem dX12_isSheet_2 : decode cX12_isSheet 2 = .ok (.lconst 0, 1) := by decide +kernel
theorem dX12_isSheet_3 : decode cX12_isSheet 3 = .ok (.ldc2_w 186, 3) := by decide +kernel
theorem dX12_isSheet_6 : decode cX12_isSheet 6 = .ok (.invokestatic 100, 3) := by decide +kernel
theorem dX12_isSheet_9 : decode cX12_isSheet 9 = .ok (.ireturn, 1) := by decide +kernel
theorem dX12_isLane_0 : decode cX12_isLane 0 = .ok (.iload_n 0, 1) := by decide +kernel
theorem dX12_isLane_1 : decode cX12_isLane 1 = .ok (.i2l, 1) := by decide +kernel
theorem dX12_isLane_2 : decode cX12_isLane 2 = .ok (.lconst 0, 1) := by decide +kernel
theorem dX12_isLane_3 : decode cX12_isLane 3 = .ok (.ldc2_w 156, 3) := by decide +kernel
theorem dX12_isLane_6 : decode cX12_isLane 6 = .ok (.invokestatic 100, 3) := by decide +kernel
theorem dX12_isLane_9 : decode cX12_isLane 9 = .ok (.ireturn, 1) := by decide +kernel
theorem dX12_finds_0 : decode cX12_finds 0 = .ok (.aload_n 0, 1) := by decide +kernel
theorem dX12_finds_1 : decode cX12_finds 1 = .ok (.getfield 72, 3) := by decide +kernel
theorem dX12_finds_4 : decode cX12_finds 4 = .ok (.iload_n 1, 1) := by decide +kernel
theorem dX12_finds_5 : decode cX12_finds 5 = .ok (.iaload, 1) := by decide +kernel
theorem dX12_finds_6 : decode cX12_finds 6 = .ok (.ifCond .ge 6, 3) := by decide +kernel
theorem dX12_finds_9 : decode cX12_finds 9 = .ok (.bipush (-11), 2) := by decide +kernel
theorem dX12_finds_11 : decode cX12_finds 11 = .ok (.ireturn, 1) := by decide +kernel
theorem dX12_finds_12 : decode cX12_finds 12 = .ok (.aload_n 0, 1) := by decide +kernel
theorem dX12_finds_13 : decode cX12_finds 13 = .ok (.getfield 72, 3) := by decide +kernel
theorem dX12_finds_16 : decode cX12_finds 16 = .ok (.iload_n 1, 1) := by decide +kernel
theorem dX12_finds_17 : decode cX12_finds 17 = .ok (.iaload, 1) := by decide +kernel
theorem dX12_finds_18 : decode cX12_finds 18 = .ok (.iload_n 2, 1) := by decide +kernel
theorem dX12_finds_19 : decode cX12_finds 19 = .ok (.if_icmp .eq 6, 3) := by decide +kernel
theorem dX12_finds_22 : decode cX12_finds 22 = .ok (.bipush (-12), 2) := by decide +kernel
theorem dX12_finds_24 : decode cX12_finds 24 = .ok (.ireturn, 1) := by decide +kernel
theorem dX12_finds_25 : decode cX12_finds 25 = .ok (.iload_n 3, 1) := by decide +kernel
theorem dX12_finds_26 : decode cX12_finds 26 = .ok (.ifCond .lt 20, 3) := by decide +kernel
theorem dX12_finds_29 : decode cX12_finds 29 = .ok (.iload_n 3, 1) := by decide +kernel
theorem dX12_finds_30 : decode cX12_finds 30 = .ok (.i2l, 1) := by decide +kernel
theorem dX12_finds_31 : decode cX12_finds 31 = .ok (.iload 4, 2) := by decide +kernel
theorem dX12_finds_33 : decode cX12_finds 33 = .ok (.i2l, 1) := by decide +kernel
theorem dX12_finds_34 : decode cX12_finds 34 = .ok (.ladd, 1) := by decide +kernel
theorem dX12_finds_35 : decode cX12_finds 35 = .ok (.aload_n 0, 1) := by decide +kernel
theorem dX12_finds_36 : decode cX12_finds 36 = .ok (.getfield 75, 3) := by decide +kernel
theorem dX12_finds_39 : decode cX12_finds 39 = .ok (.iload_n 1, 1) := by decide +kernel
theorem dX12_finds_40 : decode cX12_finds 40 = .ok (.iaload, 1) := by decide +kernel
theorem dX12_finds_41 : decode cX12_finds 41 = .ok (.i2l, 1) := by decide +kernel
theorem dX12_finds_42 : decode cX12_finds 42 = .ok (.lcmp, 1) := by decide +kernel
theorem dX12_finds_43 : decode cX12_finds 43 = .ok (.ifCond .le 8, 3) := by decide +kernel
theorem dX12_finds_46 : decode cX12_finds 46 = .ok (.bipush (-13), 2) := by decide +kernel
theorem dX12_finds_48 : decode cX12_finds 48 = .ok (.goto 4, 3) := by decide +kernel
theorem dX12_finds_51 : decode cX12_finds 51 = .ok (.iconst 0, 1) := by decide +kernel
theorem dX12_finds_52 : decode cX12_finds 52 = .ok (.ireturn, 1) := by decide +kernel
theorem dX12_sheet_0 : decode cX12_sheet 0 = .ok (.iload_n 1, 1) := by decide +kernel
theorem dX12_sheet_1 : decode cX12_sheet 1 = .ok (.invokestatic 143, 3) := by decide +kernel
theorem dX12_sheet_4 : decode cX12_sheet 4 = .ok (.ifCond .eq 16, 3) := by decide +kernel
theorem dX12_sheet_7 : decode cX12_sheet 7 = .ok (.iload_n 2, 1) := by decide +kernel
theorem dX12_sheet_8 : decode cX12_sheet 8 = .ok (.invokestatic 283, 3) := by decide +kernel
theorem dX12_sheet_11 : decode cX12_sheet 11 = .ok (.ifCond .eq 9, 3) := by decide +kernel
theorem dX12_sheet_14 : decode cX12_sheet 14 = .ok (.iload_n 3, 1) := by decide +kernel
theorem dX12_sheet_15 : decode cX12_sheet 15 = .ok (.bipush 64, 2) := by decide +kernel
theorem dX12_sheet_17 : decode cX12_sheet 17 = .ok (.if_icmp .le 5, 3) := by decide +kernel
theorem dX12_sheet_20 : decode cX12_sheet 20 = .ok (.iconst (-1), 1) := by decide +kernel
theorem dX12_sheet_21 : decode cX12_sheet 21 = .ok (.ireturn, 1) := by decide +kernel
theorem dX12_sheet_22 : decode cX12_sheet 22 = .ok (.iload_n 3, 1) := by decide +kernel
theorem dX12_sheet_23 : decode cX12_sheet 23 = .ok (.ifCond .ge 6, 3) := by decide +kernel
theorem dX12_sheet_26 : decode cX12_sheet 26 = .ok (.bipush (-14), 2) := by decide +kernel
theorem dX12_sheet_28 : decode cX12_sheet 28 = .ok (.ireturn, 1) := by decide +kernel
theorem dX12_sheet_29 : decode cX12_sheet 29 = .ok (.aload_n 0, 1) := by decide +kernel
theorem dX12_sheet_30 : decode cX12_sheet 30 = .ok (.getfield 72, 3) := by decide +kernel
theorem dX12_sheet_33 : decode cX12_sheet 33 = .ok (.iload_n 1, 1) := by decide +kernel
theorem dX12_sheet_34 : decode cX12_sheet 34 = .ok (.iload_n 2, 1) := by decide +kernel
theorem dX12_sheet_35 : decode cX12_sheet 35 = .ok (.iastore, 1) := by decide +kernel
theorem dX12_sheet_36 : decode cX12_sheet 36 = .ok (.aload_n 0, 1) := by decide +kernel
theorem dX12_sheet_37 : decode cX12_sheet 37 = .ok (.getfield 75, 3) := by decide +kernel
theorem dX12_sheet_40 : decode cX12_sheet 40 = .ok (.iload_n 1, 1) := by decide +kernel
theorem dX12_sheet_41 : decode cX12_sheet 41 = .ok (.iload_n 3, 1) := by decide +kernel
theorem dX12_sheet_42 : decode cX12_sheet 42 = .ok (.iastore, 1) := by decide +kernel
theorem dX12_sheet_43 : decode cX12_sheet 43 = .ok (.iconst 0, 1) := by decide +kernel
theorem dX12_sheet_44 : decode cX12_sheet 44 = .ok (.istore 4, 2) := by decide +kernel
theorem dX12_sheet_46 : decode cX12_sheet 46 = .ok (.iload 4, 2) := by decide +kernel
theorem dX12_sheet_48 : decode cX12_sheet 48 = .ok (.bipush 64, 2) := by decide +kernel
theorem dX12_sheet_50 : decode cX12_sheet 50 = .ok (.if_icmp .ge 22, 3) := by decide +kernel
theorem dX12_sheet_53 : decode cX12_sheet 53 = .ok (.aload_n 0, 1) := by decide +kernel
theorem dX12_sheet_54 : decode cX12_sheet 54 = .ok (.getfield 78, 3) := by decide +kernel
theorem dX12_sheet_57 : decode cX12_sheet 57 = .ok (.bipush 64, 2) := by decide +kernel
theorem dX12_sheet_59 : decode cX12_sheet 59 = .ok (.iload_n 1, 1) := by decide +kernel
theorem dX12_sheet_60 : decode cX12_sheet 60 = .ok (.imul, 1) := by decide +kernel
theorem dX12_sheet_61 : decode cX12_sheet 61 = .ok (.iload 4, 2) := by decide +kernel
theorem dX12_sheet_63 : decode cX12_sheet 63 = .ok (.iadd, 1) := by decide +kernel
theorem dX12_sheet_64 : decode cX12_sheet 64 = .ok (.iconst 0, 1) := by decide +kernel
theorem dX12_sheet_65 : decode cX12_sheet 65 = .ok (.iastore, 1) := by decide +kernel
theorem dX12_sheet_66 : decode cX12_sheet 66 = .ok (.iinc 4 1, 3) := by decide +kernel
theorem dX12_sheet_69 : decode cX12_sheet 69 = .ok (.goto (-23), 3) := by decide +kernel
theorem dX12_sheet_72 : decode cX12_sheet 72 = .ok (.iload_n 3, 1) := by decide +kernel
theorem dX12_sheet_73 : decode cX12_sheet 73 = .ok (.ireturn, 1) := by decide +kernel
theorem dX12_drop_0 : decode cX12_drop 0 = .ok (.iload_n 1, 1) := by decide +kernel
theorem dX12_drop_1 : decode cX12_drop 1 = .ok (.invokestatic 143, 3) := by decide +kernel
theorem dX12_drop_4 : decode cX12_drop 4 = .ok (.ifCond .ne 5, 3) := by decide +kernel
theorem dX12_drop_7 : decode cX12_drop 7 = .ok (.iconst (-1), 1) := by decide +kernel
theorem dX12_drop_8 : decode cX12_drop 8 = .ok (.ireturn, 1) := by decide +kernel
theorem dX12_drop_9 : decode cX12_drop 9 = .ok (.aload_n 0, 1) := by decide +kernel
theorem dX12_drop_10 : decode cX12_drop 10 = .ok (.getfield 72, 3) := by decide +kernel
theorem dX12_drop_13 : decode cX12_drop 13 = .ok (.iload_n 1, 1) := by decide +kernel
theorem dX12_drop_14 : decode cX12_drop 14 = .ok (.iaload, 1) := by decide +kernel
theorem dX12_drop_15 : decode cX12_drop 15 = .ok (.ifCond .ge 6, 3) := by decide +kernel
theorem dX12_drop_18 : decode cX12_drop 18 = .ok (.bipush (-11), 2) := by decide +kernel
theorem dX12_drop_20 : decode cX12_drop 20 = .ok (.ireturn, 1) := by decide +kernel
theorem dX12_drop_21 : decode cX12_drop 21 = .ok (.aload_n 0, 1) := by decide +kernel
theorem dX12_drop_22 : decode cX12_drop 22 = .ok (.getfield 72, 3) := by decide +kernel
theorem dX12_drop_25 : decode cX12_drop 25 = .ok (.iload_n 1, 1) := by decide +kernel
theorem dX12_drop_26 : decode cX12_drop 26 = .ok (.iconst (-1), 1) := by decide +kernel
theorem dX12_drop_27 : decode cX12_drop 27 = .ok (.iastore, 1) := by decide +kernel
theorem dX12_drop_28 : decode cX12_drop 28 = .ok (.aload_n 0, 1) := by decide +kernel
theorem dX12_drop_29 : decode cX12_drop 29 = .ok (.getfield 75, 3) := by decide +kernel
theorem dX12_drop_32 : decode cX12_drop 32 = .ok (.iload_n 1, 1) := by decide +kernel
theorem dX12_drop_33 : decode cX12_drop 33 = .ok (.iaload, 1) := by decide +kernel
theorem dX12_drop_34 : decode cX12_drop 34 = .ok (.ireturn, 1) := by decide +kernel
theorem dX12_item_0 : decode cX12_item 0 = .ok (.iload_n 1, 1) := by decide +kernel
theorem dX12_item_1 : decode cX12_item 1 = .ok (.invokestatic 143, 3) := by decide +kernel
theorem dX12_item_4 : decode cX12_item 4 = .ok (.ifCond .eq 10, 3) := by decide +kernel
theorem dX12_item_7 : decode cX12_item 7 = .ok (.iload_n 2, 1) := by decide +kernel
theorem dX12_item_8 : decode cX12_item 8 = .ok (.invokestatic 283, 3) := by decide +kernel
theorem dX12_item_11 : decode cX12_item 11 = .ok (.ifCond .ne 5, 3) := by decide +kernel
theorem dX12_item_14 : decode cX12_item 14 = .ok (.iconst (-1), 1) := by decide +kernel
theorem dX12_item_15 : decode cX12_item 15 = .ok (.ireturn, 1) := by decide +kernel
theorem dX12_item_16 : decode cX12_item 16 = .ok (.aload_n 0, 1) := by decide +kernel
theorem dX12_item_17 : decode cX12_item 17 = .ok (.iload_n 1, 1) := by decide +kernel
theorem dX12_item_18 : decode cX12_item 18 = .ok (.iload_n 2, 1) := by decide +kernel
theorem dX12_item_19 : decode cX12_item 19 = .ok (.iload_n 3, 1) := by decide +kernel
theorem dX12_item_20 : decode cX12_item 20 = .ok (.iconst 1, 1) := by decide +kernel
theorem dX12_item_21 : decode cX12_item 21 = .ok (.invokevirtual 146, 3) := by decide +kernel
theorem dX12_item_24 : decode cX12_item 24 = .ok (.istore 5, 2) := by decide +kernel
theorem dX12_item_26 : decode cX12_item 26 = .ok (.iload 5, 2) := by decide +kernel
theorem dX12_item_28 : decode cX12_item 28 = .ok (.ifCond .ge 6, 3) := by decide +kernel
theorem dX12_item_31 : decode cX12_item 31 = .ok (.iload 5, 2) := by decide +kernel
theorem dX12_item_33 : decode cX12_item 33 = .ok (.ireturn, 1) := by decide +kernel
theorem dX12_item_34 : decode cX12_item 34 = .ok (.aload_n 0, 1) := by decide +kernel
theorem dX12_item_35 : decode cX12_item 35 = .ok (.getfield 78, 3) := by decide +kernel
theorem dX12_item_38 : decode cX12_item 38 = .ok (.bipush 64, 2) := by decide +kernel
theorem dX12_item_40 : decode cX12_item 40 = .ok (.iload_n 1, 1) := by decide +kernel
theorem dX12_item_41 : decode cX12_item 41 = .ok (.imul, 1) := by decide +kernel
theorem dX12_item_42 : decode cX12_item 42 = .ok (.iload_n 3, 1) := by decide +kernel
theorem dX12_item_43 : decode cX12_item 43 = .ok (.iadd, 1) := by decide +kernel
theorem dX12_item_44 : decode cX12_item 44 = .ok (.iload_n 2, 1) := by decide +kernel
theorem dX12_item_45 : decode cX12_item 45 = .ok (.ifCond .ne 16, 3) := by decide +kernel
theorem dX12_item_48 : decode cX12_item 48 = .ok (.iload 4, 2) := by decide +kernel
theorem dX12_item_50 : decode cX12_item 50 = .ok (.ifCond .eq 7, 3) := by decide +kernel
theorem dX12_item_53 : decode cX12_item 53 = .ok (.iconst 1, 1) := by decide +kernel
theorem dX12_item_54 : decode cX12_item 54 = .ok (.goto 20, 3) := by decide +kernel
theorem dX12_item_57 : decode cX12_item 57 = .ok (.iconst 0, 1) := by decide +kernel
theorem dX12_item_58 : decode cX12_item 58 = .ok (.goto 16, 3) := by decide +kernel
theorem dX12_item_61 : decode cX12_item 61 = .ok (.iload_n 2, 1) := by decide +kernel
theorem dX12_item_62 : decode cX12_item 62 = .ok (.iconst 1, 1) := by decide +kernel
theorem dX12_item_63 : decode cX12_item 63 = .ok (.if_icmp .ne 9, 3) := by decide +kernel
theorem dX12_item_66 : decode cX12_item 66 = .ok (.iload 4, 2) := by decide +kernel
theorem dX12_item_68 : decode cX12_item 68 = .ok (.i2b, 1) := by decide +kernel
theorem dX12_item_69 : decode cX12_item 69 = .ok (.goto 5, 3) := by decide +kernel
theorem dX12_item_72 : decode cX12_item 72 = .ok (.iload 4, 2) := by decide +kernel
theorem dX12_item_74 : decode cX12_item 74 = .ok (.iastore, 1) := by decide +kernel
theorem dX12_item_75 : decode cX12_item 75 = .ok (.iconst 1, 1) := by decide +kernel
theorem dX12_item_76 : decode cX12_item 76 = .ok (.ireturn, 1) := by decide +kernel
theorem dX12_copy_0 : decode cX12_copy 0 = .ok (.iload_n 1, 1) := by decide +kernel
theorem dX12_copy_1 : decode cX12_copy 1 = .ok (.invokestatic 143, 3) := by decide +kernel
theorem dX12_copy_4 : decode cX12_copy 4 = .ok (.ifCond .eq 10, 3) := by decide +kernel
theorem dX12_copy_7 : decode cX12_copy 7 = .ok (.iload_n 3, 1) := by decide +kernel
theorem dX12_copy_8 : decode cX12_copy 8 = .ok (.invokestatic 143, 3) := by decide +kernel
theorem dX12_copy_11 : decode cX12_copy 11 = .ok (.ifCond .ne 5, 3) := by decide +kernel
theorem dX12_copy_14 : decode cX12_copy 14 = .ok (.iconst (-1), 1) := by decide +kernel
theorem dX12_copy_15 : decode cX12_copy 15 = .ok (.ireturn, 1) := by decide +kernel
theorem dX12_copy_16 : decode cX12_copy 16 = .ok (.aload_n 0, 1) := by decide +kernel
theorem dX12_copy_17 : decode cX12_copy 17 = .ok (.getfield 72, 3) := by decide +kernel
theorem dX12_copy_20 : decode cX12_copy 20 = .ok (.iload_n 1, 1) := by decide +kernel
theorem dX12_copy_21 : decode cX12_copy 21 = .ok (.iaload, 1) := by decide +kernel
theorem dX12_copy_22 : decode cX12_copy 22 = .ok (.ifCond .lt 12, 3) := by decide +kernel
theorem dX12_copy_25 : decode cX12_copy 25 = .ok (.aload_n 0, 1) := by decide +kernel
theorem dX12_copy_26 : decode cX12_copy 26 = .ok (.getfield 72, 3) := by decide +kernel
theorem dX12_copy_29 : decode cX12_copy 29 = .ok (.iload_n 3, 1) := by decide +kernel
theorem dX12_copy_30 : decode cX12_copy 30 = .ok (.iaload, 1) := by decide +kernel
theorem dX12_copy_31 : decode cX12_copy 31 = .ok (.ifCond .ge 6, 3) := by decide +kernel
theorem dX12_copy_34 : decode cX12_copy 34 = .ok (.bipush (-11), 2) := by decide +kernel
theorem dX12_copy_36 : decode cX12_copy 36 = .ok (.ireturn, 1) := by decide +kernel
theorem dX12_copy_37 : decode cX12_copy 37 = .ok (.aload_n 0, 1) := by decide +kernel
theorem dX12_copy_38 : decode cX12_copy 38 = .ok (.getfield 72, 3) := by decide +kernel
theorem dX12_copy_41 : decode cX12_copy 41 = .ok (.iload_n 1, 1) := by decide +kernel
theorem dX12_copy_42 : decode cX12_copy 42 = .ok (.iaload, 1) := by decide +kernel
theorem dX12_copy_43 : decode cX12_copy 43 = .ok (.aload_n 0, 1) := by decide +kernel
theorem dX12_copy_44 : decode cX12_copy 44 = .ok (.getfield 72, 3) := by decide +kernel
theorem dX12_copy_47 : decode cX12_copy 47 = .ok (.iload_n 3, 1) := by decide +kernel
theorem dX12_copy_48 : decode cX12_copy 48 = .ok (.iaload, 1) := by decide +kernel
theorem dX12_copy_49 : decode cX12_copy 49 = .ok (.if_icmp .eq 6, 3) := by decide +kernel
theorem dX12_copy_52 : decode cX12_copy 52 = .ok (.bipush (-12), 2) := by decide +kernel
theorem dX12_copy_54 : decode cX12_copy 54 = .ok (.ireturn, 1) := by decide +kernel
theorem dX12_copy_55 : decode cX12_copy 55 = .ok (.iload 5, 2) := by decide +kernel
theorem dX12_copy_57 : decode cX12_copy 57 = .ok (.ifCond .lt 38, 3) := by decide +kernel
theorem dX12_copy_60 : decode cX12_copy 60 = .ok (.aload_n 0, 1) := by decide +kernel
theorem dX12_copy_61 : decode cX12_copy 61 = .ok (.iload_n 1, 1) := by decide +kernel
theorem dX12_copy_62 : decode cX12_copy 62 = .ok (.aload_n 0, 1) := by decide +kernel
theorem dX12_copy_63 : decode cX12_copy 63 = .ok (.getfield 72, 3) := by decide +kernel
theorem dX12_copy_66 : decode cX12_copy 66 = .ok (.iload_n 1, 1) := by decide +kernel
theorem dX12_copy_67 : decode cX12_copy 67 = .ok (.iaload, 1) := by decide +kernel
theorem dX12_copy_68 : decode cX12_copy 68 = .ok (.iload_n 2, 1) := by decide +kernel
theorem dX12_copy_69 : decode cX12_copy 69 = .ok (.iload 5, 2) := by decide +kernel
theorem dX12_copy_71 : decode cX12_copy 71 = .ok (.invokevirtual 146, 3) := by decide +kernel
theorem dX12_copy_74 : decode cX12_copy 74 = .ok (.ifCond .lt 21, 3) := by decide +kernel
theorem dX12_copy_77 : decode cX12_copy 77 = .ok (.aload_n 0, 1) := by decide +kernel
theorem dX12_copy_78 : decode cX12_copy 78 = .ok (.iload_n 3, 1) := by decide +kernel
theorem dX12_copy_79 : decode cX12_copy 79 = .ok (.aload_n 0, 1) := by decide +kernel
theorem dX12_copy_80 : decode cX12_copy 80 = .ok (.getfield 72, 3) := by decide +kernel
theorem dX12_copy_83 : decode cX12_copy 83 = .ok (.iload_n 3, 1) := by decide +kernel
theorem dX12_copy_84 : decode cX12_copy 84 = .ok (.iaload, 1) := by decide +kernel
theorem dX12_copy_85 : decode cX12_copy 85 = .ok (.iload 4, 2) := by decide +kernel
theorem dX12_copy_87 : decode cX12_copy 87 = .ok (.iload 5, 2) := by decide +kernel
theorem dX12_copy_89 : decode cX12_copy 89 = .ok (.invokevirtual 146, 3) := by decide +kernel
theorem dX12_copy_92 : decode cX12_copy 92 = .ok (.ifCond .ge 6, 3) := by decide +kernel
theorem dX12_copy_95 : decode cX12_copy 95 = .ok (.bipush (-13), 2) := by decide +kernel
theorem dX12_copy_97 : decode cX12_copy 97 = .ok (.ireturn, 1) := by decide +kernel
theorem dX12_copy_98 : decode cX12_copy 98 = .ok (.iconst 0, 1) := by decide +kernel
theorem dX12_copy_99 : decode cX12_copy 99 = .ok (.istore 6, 2) := by decide +kernel
theorem dX12_copy_101 : decode cX12_copy 101 = .ok (.iload 6, 2) := by decide +kernel
theorem dX12_copy_103 : decode cX12_copy 103 = .ok (.iload 5, 2) := by decide +kernel
theorem dX12_copy_105 : decode cX12_copy 105 = .ok (.if_icmp .ge 30, 3) := by decide +kernel
theorem dX12_copy_108 : decode cX12_copy 108 = .ok (.aload_n 0, 1) := by decide +kernel
theorem dX12_copy_109 : decode cX12_copy 109 = .ok (.getfield 81, 3) := by decide +kernel
theorem dX12_copy_112 : decode cX12_copy 112 = .ok (.iload 6, 2) := by decide +kernel
theorem dX12_copy_114 : decode cX12_copy 114 = .ok (.aload_n 0, 1) := by decide +kernel
theorem dX12_copy_115 : decode cX12_copy 115 = .ok (.getfield 78, 3) := by decide +kernel
theorem dX12_copy_118 : decode cX12_copy 118 = .ok (.bipush 64, 2) := by decide +kernel
theorem dX12_copy_120 : decode cX12_copy 120 = .ok (.iload_n 1, 1) := by decide +kernel
theorem dX12_copy_121 : decode cX12_copy 121 = .ok (.imul, 1) := by decide +kernel
theorem dX12_copy_122 : decode cX12_copy 122 = .ok (.iload_n 2, 1) := by decide +kernel
theorem dX12_copy_123 : decode cX12_copy 123 = .ok (.iadd, 1) := by decide +kernel
theorem dX12_copy_124 : decode cX12_copy 124 = .ok (.iload 6, 2) := by decide +kernel
theorem dX12_copy_126 : decode cX12_copy 126 = .ok (.iadd, 1) := by decide +kernel
theorem dX12_copy_127 : decode cX12_copy 127 = .ok (.iaload, 1) := by decide +kernel
theorem dX12_copy_128 : decode cX12_copy 128 = .ok (.iastore, 1) := by decide +kernel
theorem dX12_copy_129 : decode cX12_copy 129 = .ok (.iinc 6 1, 3) := by decide +kernel
theorem dX12_copy_132 : decode cX12_copy 132 = .ok (.goto (-31), 3) := by decide +kernel
theorem dX12_copy_135 : decode cX12_copy 135 = .ok (.iconst 0, 1) := by decide +kernel
theorem dX12_copy_136 : decode cX12_copy 136 = .ok (.istore 6, 2) := by decide +kernel
theorem dX12_copy_138 : decode cX12_copy 138 = .ok (.iload 6, 2) := by decide +kernel
theorem dX12_copy_140 : decode cX12_copy 140 = .ok (.iload 5, 2) := by decide +kernel
theorem dX12_copy_142 : decode cX12_copy 142 = .ok (.if_icmp .ge 31, 3) := by decide +kernel
theorem dX12_copy_145 : decode cX12_copy 145 = .ok (.aload_n 0, 1) := by decide +kernel
theorem dX12_copy_146 : decode cX12_copy 146 = .ok (.getfield 78, 3) := by decide +kernel
theorem dX12_copy_149 : decode cX12_copy 149 = .ok (.bipush 64, 2) := by decide +kernel
theorem dX12_copy_151 : decode cX12_copy 151 = .ok (.iload_n 3, 1) := by decide +kernel
theorem dX12_copy_152 : decode cX12_copy 152 = .ok (.imul, 1) := by decide +kernel
theorem dX12_copy_153 : decode cX12_copy 153 = .ok (.iload 4, 2) := by decide +kernel
theorem dX12_copy_155 : decode cX12_copy 155 = .ok (.iadd, 1) := by decide +kernel
theorem dX12_copy_156 : decode cX12_copy 156 = .ok (.iload 6, 2) := by decide +kernel
theorem dX12_copy_158 : decode cX12_copy 158 = .ok (.iadd, 1) := by decide +kernel
theorem dX12_copy_159 : decode cX12_copy 159 = .ok (.aload_n 0, 1) := by decide +kernel
theorem dX12_copy_160 : decode cX12_copy 160 = .ok (.getfield 81, 3) := by decide +kernel
theorem dX12_copy_163 : decode cX12_copy 163 = .ok (.iload 6, 2) := by decide +kernel
theorem dX12_copy_165 : decode cX12_copy 165 = .ok (.iaload, 1) := by decide +kernel
theorem dX12_copy_166 : decode cX12_copy 166 = .ok (.iastore, 1) := by decide +kernel
theorem dX12_copy_167 : decode cX12_copy 167 = .ok (.iinc 6 1, 3) := by decide +kernel
theorem dX12_copy_170 : decode cX12_copy 170 = .ok (.goto (-32), 3) := by decide +kernel
theorem dX12_copy_173 : decode cX12_copy 173 = .ok (.iload 5, 2) := by decide +kernel
theorem dX12_copy_175 : decode cX12_copy 175 = .ok (.ireturn, 1) := by decide +kernel
theorem dJ9_abs_0f7a4_0 : decode cJ9_abs_0f7a4 0 = .ok (.iload_n 0, 1) := by decide +kernel
theorem dJ9_abs_0f7a4_1 : decode cJ9_abs_0f7a4 1 = .ok (.ifCond .ge 8, 3) := by decide +kernel
theorem dJ9_abs_0f7a4_4 : decode cJ9_abs_0f7a4 4 = .ok (.iload_n 0, 1) := by decide +kernel
theorem dJ9_abs_0f7a4_5 : decode cJ9_abs_0f7a4 5 = .ok (.ineg, 1) := by decide +kernel
theorem dJ9_abs_0f7a4_6 : decode cJ9_abs_0f7a4 6 = .ok (.goto 4, 3) := by decide +kernel
theorem dJ9_abs_0f7a4_9 : decode cJ9_abs_0f7a4 9 = .ok (.iload_n 0, 1) := by decide +kernel
theorem dJ9_abs_0f7a4_10 : decode cJ9_abs_0f7a4 10 = .ok (.ireturn, 1) := by decide +kernel
theorem dJ9_min_f86c9_0 : decode cJ9_min_f86c9 0 = .ok (.lload_n 0, 1) := by decide +kernel
theorem dJ9_min_f86c9_1 : decode cJ9_min_f86c9 1 = .ok (.lload_n 2, 1) := by decide +kernel
theorem dJ9_min_f86c9_2 : decode cJ9_min_f86c9 2 = .ok (.lcmp, 1) := by decide +kernel
theorem dJ9_min_f86c9_3 : decode cJ9_min_f86c9 3 = .ok (.ifCond .gt 7, 3) := by decide +kernel
theorem dJ9_min_f86c9_6 : decode cJ9_min_f86c9 6 = .ok (.lload_n 0, 1) := by decide +kernel
theorem dJ9_min_f86c9_7 : decode cJ9_min_f86c9 7 = .ok (.goto 4, 3) := by decide +kernel
theorem dJ9_min_f86c9_10 : decode cJ9_min_f86c9 10 = .ok (.lload_n 2, 1) := by decide +kernel
theorem dJ9_min_f86c9_11 : decode cJ9_min_f86c9 11 = .ok (.lreturn, 1) := by decide +kernel
theorem dJ7_fill_d0a16_0 : decode cJ7_fill_d0a16 0 = .ok (.iconst 0, 1) := by decide +kernel
theorem dJ7_fill_d0a16_1 : decode cJ7_fill_d0a16 1 = .ok (.istore_n 3, 1) := by decide +kernel
theorem dJ7_fill_d0a16_2 : decode cJ7_fill_d0a16 2 = .ok (.aload_n 0, 1) := by decide +kernel
theorem dJ7_fill_d0a16_3 : decode cJ7_fill_d0a16 3 = .ok (.arraylength, 1) := by decide +kernel
theorem dJ7_fill_d0a16_4 : decode cJ7_fill_d0a16 4 = .ok (.istore 4, 2) := by decide +kernel
theorem dJ7_fill_d0a16_6 : decode cJ7_fill_d0a16 6 = .ok (.iload_n 3, 1) := by decide +kernel
theorem dJ7_fill_d0a16_7 : decode cJ7_fill_d0a16 7 = .ok (.iload 4, 2) := by decide +kernel
theorem dJ7_fill_d0a16_9 : decode cJ7_fill_d0a16 9 = .ok (.if_icmp .ge 13, 3) := by decide +kernel
theorem dJ7_fill_d0a16_12 : decode cJ7_fill_d0a16 12 = .ok (.aload_n 0, 1) := by decide +kernel
theorem dJ7_fill_d0a16_13 : decode cJ7_fill_d0a16 13 = .ok (.iload_n 3, 1) := by decide +kernel
theorem dJ7_fill_d0a16_14 : decode cJ7_fill_d0a16 14 = .ok (.lload_n 1, 1) := by decide +kernel
theorem dJ7_fill_d0a16_15 : decode cJ7_fill_d0a16 15 = .ok (.lastore, 1) := by decide +kernel
theorem dJ7_fill_d0a16_16 : decode cJ7_fill_d0a16 16 = .ok (.iinc 3 1, 3) := by decide +kernel
theorem dJ7_fill_d0a16_19 : decode cJ7_fill_d0a16 19 = .ok (.goto (-13), 3) := by decide +kernel
theorem dJ7_fill_d0a16_22 : decode cJ7_fill_d0a16 22 = .ok (.return_, 1) := by decide +kernel
theorem dJ7_fill_53178_0 : decode cJ7_fill_53178 0 = .ok (.iconst 0, 1) := by decide +kernel
theorem dJ7_fill_53178_1 : decode cJ7_fill_53178 1 = .ok (.istore_n 2, 1) := by decide +kernel
theorem dJ7_fill_53178_2 : decode cJ7_fill_53178 2 = .ok (.aload_n 0, 1) := by decide +kernel
theorem dJ7_fill_53178_3 : decode cJ7_fill_53178 3 = .ok (.arraylength, 1) := by decide +kernel
theorem dJ7_fill_53178_4 : decode cJ7_fill_53178 4 = .ok (.istore_n 3, 1) := by decide +kernel
theorem dJ7_fill_53178_5 : decode cJ7_fill_53178 5 = .ok (.iload_n 2, 1) := by decide +kernel
theorem dJ7_fill_53178_6 : decode cJ7_fill_53178 6 = .ok (.iload_n 3, 1) := by decide +kernel
theorem dJ7_fill_53178_7 : decode cJ7_fill_53178 7 = .ok (.if_icmp .ge 13, 3) := by decide +kernel
theorem dJ7_fill_53178_10 : decode cJ7_fill_53178 10 = .ok (.aload_n 0, 1) := by decide +kernel
theorem dJ7_fill_53178_11 : decode cJ7_fill_53178 11 = .ok (.iload_n 2, 1) := by decide +kernel
theorem dJ7_fill_53178_12 : decode cJ7_fill_53178 12 = .ok (.iload_n 1, 1) := by decide +kernel
theorem dJ7_fill_53178_13 : decode cJ7_fill_53178 13 = .ok (.iastore, 1) := by decide +kernel
theorem dJ7_fill_53178_14 : decode cJ7_fill_53178 14 = .ok (.iinc 2 1, 3) := by decide +kernel
theorem dJ7_fill_53178_17 : decode cJ7_fill_53178 17 = .ok (.goto (-12), 3) := by decide +kernel
theorem dJ7_fill_53178_20 : decode cJ7_fill_53178 20 = .ok (.return_, 1) := by decide +kernel
