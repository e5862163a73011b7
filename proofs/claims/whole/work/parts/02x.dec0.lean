theorem dX0_init_0 : decode cX0_init 0 = .ok (.aload_n 0, 1) := by decide +kernel
theorem dX0_init_1 : decode cX0_init 1 = .ok (.invokespecial 3, 3) := by decide +kernel
theorem dX0_init_4 : decode cX0_init 4 = .ok (.aload_n 0, 1) := by decide +kernel
theorem dX0_init_5 : decode cX0_init 5 = .ok (.sipush 256, 3) := by decide +kernel
theorem dX0_init_8 : decode cX0_init 8 = .ok (.newarray .long, 2) := by decide +kernel
theorem dX0_init_10 : decode cX0_init 10 = .ok (.putfield 9, 3) := by decide +kernel
theorem dX0_init_13 : decode cX0_init 13 = .ok (.aload_n 0, 1) := by decide +kernel
theorem dX0_init_14 : decode cX0_init 14 = .ok (.sipush 256, 3) := by decide +kernel
theorem dX0_init_17 : decode cX0_init 17 = .ok (.newarray .long, 2) := by decide +kernel
theorem dX0_init_19 : decode cX0_init 19 = .ok (.putfield 15, 3) := by decide +kernel
theorem dX0_init_22 : decode cX0_init 22 = .ok (.return_, 1) := by decide +kernel
theorem dX0_countSound_0 : decode cX0_countSound 0 = .ok (.aload_n 0, 1) := by decide +kernel
theorem dX0_countSound_1 : decode cX0_countSound 1 = .ok (.getfield 9, 3) := by decide +kernel
theorem dX0_countSound_4 : decode cX0_countSound 4 = .ok (.lconst 0, 1) := by decide +kernel
theorem dX0_countSound_5 : decode cX0_countSound 5 = .ok (.invokestatic 18, 3) := by decide +kernel
theorem dX0_countSound_8 : decode cX0_countSound 8 = .ok (.aload_n 0, 1) := by decide +kernel
theorem dX0_countSound_9 : decode cX0_countSound 9 = .ok (.getfield 9, 3) := by decide +kernel
theorem dX0_countSound_12 : decode cX0_countSound 12 = .ok (.iconst 0, 1) := by decide +kernel
theorem dX0_countSound_13 : decode cX0_countSound 13 = .ok (.lconst 1, 1) := by decide +kernel
theorem dX0_countSound_14 : decode cX0_countSound 14 = .ok (.lastore, 1) := by decide +kernel
theorem dX0_countSound_15 : decode cX0_countSound 15 = .ok (.iconst 0, 1) := by decide +kernel
theorem dX0_countSound_16 : decode cX0_countSound 16 = .ok (.istore_n 2, 1) := by decide +kernel
theorem dX0_countSound_17 : decode cX0_countSound 17 = .ok (.iload_n 2, 1) := by decide +kernel
theorem dX0_countSound_18 : decode cX0_countSound 18 = .ok (.aload_n 1, 1) := by decide +kernel
theorem dX0_countSound_19 : decode cX0_countSound 19 = .ok (.getfield 24, 3) := by decide +kernel
theorem dX0_countSound_22 : decode cX0_countSound 22 = .ok (.if_icmp .ge 71, 3) := by decide +kernel
theorem dX0_countSound_25 : decode cX0_countSound 25 = .ok (.iload_n 2, 1) := by decide +kernel
theorem dX0_countSound_26 : decode cX0_countSound 26 = .ok (.ifCond .le 10, 3) := by decide +kernel
theorem dX0_countSound_29 : decode cX0_countSound 29 = .ok (.aload_n 0, 1) := by decide +kernel
theorem dX0_countSound_30 : decode cX0_countSound 30 = .ok (.getfield 9, 3) := by decide +kernel
theorem dX0_countSound_33 : decode cX0_countSound 33 = .ok (.iconst 0, 1) := by decide +kernel
theorem dX0_countSound_34 : decode cX0_countSound 34 = .ok (.lconst 0, 1) := by decide +kernel
theorem dX0_countSound_35 : decode cX0_countSound 35 = .ok (.lastore, 1) := by decide +kernel
theorem dX0_countSound_36 : decode cX0_countSound 36 = .ok (.iconst 0, 1) := by decide +kernel
theorem dX0_countSound_37 : decode cX0_countSound 37 = .ok (.istore_n 3, 1) := by decide +kernel
theorem dX0_countSound_38 : decode cX0_countSound 38 = .ok (.iload_n 3, 1) := by decide +kernel
theorem dX0_countSound_39 : decode cX0_countSound 39 = .ok (.aload_n 1, 1) := by decide +kernel
theorem dX0_countSound_40 : decode cX0_countSound 40 = .ok (.getfield 30, 3) := by decide +kernel
theorem dX0_countSound_43 : decode cX0_countSound 43 = .ok (.if_icmp .ge 44, 3) := by decide +kernel
theorem dX0_countSound_46 : decode cX0_countSound 46 = .ok (.aload_n 0, 1) := by decide +kernel
theorem dX0_countSound_47 : decode cX0_countSound 47 = .ok (.getfield 15, 3) := by decide +kernel
theorem dX0_countSound_50 : decode cX0_countSound 50 = .ok (.lconst 0, 1) := by decide +kernel
theorem dX0_countSound_51 : decode cX0_countSound 51 = .ok (.invokestatic 18, 3) := by decide +kernel
theorem dX0_countSound_54 : decode cX0_countSound 54 = .ok (.aload_n 0, 1) := by decide +kernel
theorem dX0_countSound_55 : decode cX0_countSound 55 = .ok (.aload_n 1, 1) := by decide +kernel
theorem dX0_countSound_56 : decode cX0_countSound 56 = .ok (.iload_n 2, 1) := by decide +kernel
theorem dX0_countSound_57 : decode cX0_countSound 57 = .ok (.iload_n 3, 1) := by decide +kernel
theorem dX0_countSound_58 : decode cX0_countSound 58 = .ok (.invokevirtual 33, 3) := by decide +kernel
theorem dX0_countSound_61 : decode cX0_countSound 61 = .ok (.aload_n 0, 1) := by decide +kernel
theorem dX0_countSound_62 : decode cX0_countSound 62 = .ok (.getfield 9, 3) := by decide +kernel
theorem dX0_countSound_65 : decode cX0_countSound 65 = .ok (.astore 4, 2) := by decide +kernel
theorem dX0_countSound_67 : decode cX0_countSound 67 = .ok (.aload_n 0, 1) := by decide +kernel
theorem dX0_countSound_68 : decode cX0_countSound 68 = .ok (.aload_n 0, 1) := by decide +kernel
theorem dX0_countSound_69 : decode cX0_countSound 69 = .ok (.getfield 15, 3) := by decide +kernel
theorem dX0_countSound_72 : decode cX0_countSound 72 = .ok (.putfield 9, 3) := by decide +kernel
theorem dX0_countSound_75 : decode cX0_countSound 75 = .ok (.aload_n 0, 1) := by decide +kernel
theorem dX0_countSound_76 : decode cX0_countSound 76 = .ok (.aload 4, 2) := by decide +kernel
theorem dX0_countSound_78 : decode cX0_countSound 78 = .ok (.putfield 15, 3) := by decide +kernel
theorem dX0_countSound_81 : decode cX0_countSound 81 = .ok (.iinc 3 1, 3) := by decide +kernel
theorem dX0_countSound_84 : decode cX0_countSound 84 = .ok (.goto (-46), 3) := by decide +kernel
theorem dX0_countSound_87 : decode cX0_countSound 87 = .ok (.iinc 2 1, 3) := by decide +kernel
theorem dX0_countSound_90 : decode cX0_countSound 90 = .ok (.goto (-73), 3) := by decide +kernel
theorem dX0_countSound_93 : decode cX0_countSound 93 = .ok (.aload_n 0, 1) := by decide +kernel
theorem dX0_countSound_94 : decode cX0_countSound 94 = .ok (.getfield 9, 3) := by decide +kernel
theorem dX0_countSound_97 : decode cX0_countSound 97 = .ok (.iconst 0, 1) := by decide +kernel
theorem dX0_countSound_98 : decode cX0_countSound 98 = .ok (.laload, 1) := by decide +kernel
theorem dX0_countSound_99 : decode cX0_countSound 99 = .ok (.lreturn, 1) := by decide +kernel
theorem dX0_pass_0 : decode cX0_pass 0 = .ok (.iconst 1, 1) := by decide +kernel
theorem dX0_pass_1 : decode cX0_pass 1 = .ok (.iload_n 3, 1) := by decide +kernel
theorem dX0_pass_2 : decode cX0_pass 2 = .ok (.ishl, 1) := by decide +kernel
theorem dX0_pass_3 : decode cX0_pass 3 = .ok (.istore 4, 2) := by decide +kernel
theorem dX0_pass_5 : decode cX0_pass 5 = .ok (.aload_n 1, 1) := by decide +kernel
theorem dX0_pass_6 : decode cX0_pass 6 = .ok (.iload_n 2, 1) := by decide +kernel
theorem dX0_pass_7 : decode cX0_pass 7 = .ok (.iload_n 3, 1) := by decide +kernel
theorem dX0_pass_8 : decode cX0_pass 8 = .ok (.invokevirtual 37, 3) := by decide +kernel
theorem dX0_pass_11 : decode cX0_pass 11 = .ok (.ifCond .lt 7, 3) := by decide +kernel
theorem dX0_pass_14 : decode cX0_pass 14 = .ok (.iconst 1, 1) := by decide +kernel
theorem dX0_pass_15 : decode cX0_pass 15 = .ok (.goto 4, 3) := by decide +kernel
theorem dX0_pass_18 : decode cX0_pass 18 = .ok (.iconst 0, 1) := by decide +kernel
theorem dX0_pass_19 : decode cX0_pass 19 = .ok (.istore 5, 2) := by decide +kernel
theorem dX0_pass_21 : decode cX0_pass 21 = .ok (.iload 5, 2) := by decide +kernel
theorem dX0_pass_23 : decode cX0_pass 23 = .ok (.ifCond .eq 18, 3) := by decide +kernel
theorem dX0_pass_26 : decode cX0_pass 26 = .ok (.aload_n 1, 1) := by decide +kernel
theorem dX0_pass_27 : decode cX0_pass 27 = .ok (.iload_n 2, 1) := by decide +kernel
theorem dX0_pass_28 : decode cX0_pass 28 = .ok (.iconst 1, 1) := by decide +kernel
theorem dX0_pass_29 : decode cX0_pass 29 = .ok (.iadd, 1) := by decide +kernel
theorem dX0_pass_30 : decode cX0_pass 30 = .ok (.iload_n 3, 1) := by decide +kernel
theorem dX0_pass_31 : decode cX0_pass 31 = .ok (.invokevirtual 37, 3) := by decide +kernel
theorem dX0_pass_34 : decode cX0_pass 34 = .ok (.ifCond .lt 7, 3) := by decide +kernel
theorem dX0_pass_37 : decode cX0_pass 37 = .ok (.iconst 1, 1) := by decide +kernel
theorem dX0_pass_38 : decode cX0_pass 38 = .ok (.goto 4, 3) := by decide +kernel
theorem dX0_pass_41 : decode cX0_pass 41 = .ok (.iconst 0, 1) := by decide +kernel
theorem dX0_pass_42 : decode cX0_pass 42 = .ok (.istore 6, 2) := by decide +kernel
theorem dX0_pass_44 : decode cX0_pass 44 = .ok (.iload 5, 2) := by decide +kernel
theorem dX0_pass_46 : decode cX0_pass 46 = .ok (.ifCond .eq 18, 3) := by decide +kernel
theorem dX0_pass_49 : decode cX0_pass 49 = .ok (.aload_n 1, 1) := by decide +kernel
theorem dX0_pass_50 : decode cX0_pass 50 = .ok (.iload_n 2, 1) := by decide +kernel
theorem dX0_pass_51 : decode cX0_pass 51 = .ok (.iload_n 3, 1) := by decide +kernel
theorem dX0_pass_52 : decode cX0_pass 52 = .ok (.iconst 1, 1) := by decide +kernel
theorem dX0_pass_53 : decode cX0_pass 53 = .ok (.iadd, 1) := by decide +kernel
theorem dX0_pass_54 : decode cX0_pass 54 = .ok (.invokevirtual 37, 3) := by decide +kernel
theorem dX0_pass_57 : decode cX0_pass 57 = .ok (.ifCond .lt 7, 3) := by decide +kernel
theorem dX0_pass_60 : decode cX0_pass 60 = .ok (.iconst 1, 1) := by decide +kernel
theorem dX0_pass_61 : decode cX0_pass 61 = .ok (.goto 4, 3) := by decide +kernel
theorem dX0_pass_64 : decode cX0_pass 64 = .ok (.iconst 0, 1) := by decide +kernel
theorem dX0_pass_65 : decode cX0_pass 65 = .ok (.istore 7, 2) := by decide +kernel
theorem dX0_pass_67 : decode cX0_pass 67 = .ok (.iconst 0, 1) := by decide +kernel
theorem dX0_pass_68 : decode cX0_pass 68 = .ok (.istore 8, 2) := by decide +kernel
theorem dX0_pass_70 : decode cX0_pass 70 = .ok (.iload 8, 2) := by decide +kernel
theorem dX0_pass_72 : decode cX0_pass 72 = .ok (.iconst 1, 1) := by decide +kernel
theorem dX0_pass_73 : decode cX0_pass 73 = .ok (.aload_n 1, 1) := by decide +kernel
theorem dX0_pass_74 : decode cX0_pass 74 = .ok (.getfield 30, 3) := by decide +kernel
theorem dX0_pass_77 : decode cX0_pass 77 = .ok (.ishl, 1) := by decide +kernel
theorem dX0_pass_78 : decode cX0_pass 78 = .ok (.if_icmp .ge 113, 3) := by decide +kernel
theorem dX0_pass_81 : decode cX0_pass 81 = .ok (.aload_n 0, 1) := by decide +kernel
theorem dX0_pass_82 : decode cX0_pass 82 = .ok (.getfield 9, 3) := by decide +kernel
theorem dX0_pass_85 : decode cX0_pass 85 = .ok (.iload 8, 2) := by decide +kernel
theorem dX0_pass_87 : decode cX0_pass 87 = .ok (.laload, 1) := by decide +kernel
theorem dX0_pass_88 : decode cX0_pass 88 = .ok (.lstore 9, 2) := by decide +kernel
theorem dX0_pass_90 : decode cX0_pass 90 = .ok (.lload 9, 2) := by decide +kernel
theorem dX0_pass_92 : decode cX0_pass 92 = .ok (.lconst 0, 1) := by decide +kernel
theorem dX0_pass_93 : decode cX0_pass 93 = .ok (.lcmp, 1) := by decide +kernel
theorem dX0_pass_94 : decode cX0_pass 94 = .ok (.ifCond .ne 6, 3) := by decide +kernel
theorem dX0_pass_97 : decode cX0_pass 97 = .ok (.goto 88, 3) := by decide +kernel
theorem dX0_pass_100 : decode cX0_pass 100 = .ok (.iload 5, 2) := by decide +kernel
theorem dX0_pass_102 : decode cX0_pass 102 = .ok (.ifCond .eq 11, 3) := by decide +kernel
theorem dX0_pass_105 : decode cX0_pass 105 = .ok (.iload 8, 2) := by decide +kernel
theorem dX0_pass_107 : decode cX0_pass 107 = .ok (.iload 4, 2) := by decide +kernel
theorem dX0_pass_109 : decode cX0_pass 109 = .ok (.iand, 1) := by decide +kernel
theorem dX0_pass_110 : decode cX0_pass 110 = .ok (.ifCond .eq 23, 3) := by decide +kernel
theorem dX0_pass_113 : decode cX0_pass 113 = .ok (.aload_n 0, 1) := by decide +kernel
theorem dX0_pass_114 : decode cX0_pass 114 = .ok (.getfield 15, 3) := by decide +kernel
theorem dX0_pass_117 : decode cX0_pass 117 = .ok (.iload 8, 2) := by decide +kernel
theorem dX0_pass_119 : decode cX0_pass 119 = .ok (.iload 4, 2) := by decide +kernel
theorem dX0_pass_121 : decode cX0_pass 121 = .ok (.iconst (-1), 1) := by decide +kernel
theorem dX0_pass_122 : decode cX0_pass 122 = .ok (.ixor, 1) := by decide +kernel
theorem dX0_pass_123 : decode cX0_pass 123 = .ok (.iand, 1) := by decide +kernel
theorem dX0_pass_124 : decode cX0_pass 124 = .ok (.dup2, 1) := by decide +kernel
theorem dX0_pass_125 : decode cX0_pass 125 = .ok (.laload, 1) := by decide +kernel
theorem dX0_pass_126 : decode cX0_pass 126 = .ok (.lload 9, 2) := by decide +kernel
theorem dX0_pass_128 : decode cX0_pass 128 = .ok (.ladd, 1) := by decide +kernel
theorem dX0_pass_129 : decode cX0_pass 129 = .ok (.lastore, 1) := by decide +kernel
theorem dX0_pass_130 : decode cX0_pass 130 = .ok (.goto 55, 3) := by decide +kernel
theorem dX0_pass_133 : decode cX0_pass 133 = .ok (.iload 6, 2) := by decide +kernel
theorem dX0_pass_135 : decode cX0_pass 135 = .ok (.ifCond .eq 18, 3) := by decide +kernel
theorem dX0_pass_138 : decode cX0_pass 138 = .ok (.aload_n 0, 1) := by decide +kernel
theorem dX0_pass_139 : decode cX0_pass 139 = .ok (.getfield 15, 3) := by decide +kernel
theorem dX0_pass_142 : decode cX0_pass 142 = .ok (.iload 8, 2) := by decide +kernel
theorem dX0_pass_144 : decode cX0_pass 144 = .ok (.iload 4, 2) := by decide +kernel
theorem dX0_pass_146 : decode cX0_pass 146 = .ok (.iadd, 1) := by decide +kernel
theorem dX0_pass_147 : decode cX0_pass 147 = .ok (.dup2, 1) := by decide +kernel
theorem dX0_pass_148 : decode cX0_pass 148 = .ok (.laload, 1) := by decide +kernel
theorem dX0_pass_149 : decode cX0_pass 149 = .ok (.lload 9, 2) := by decide +kernel
theorem dX0_pass_151 : decode cX0_pass 151 = .ok (.ladd, 1) := by decide +kernel
theorem dX0_pass_152 : decode cX0_pass 152 = .ok (.lastore, 1) := by decide +kernel
theorem dX0_pass_153 : decode cX0_pass 153 = .ok (.iload 7, 2) := by decide +kernel
theorem dX0_pass_155 : decode cX0_pass 155 = .ok (.ifCond .eq 30, 3) := by decide +kernel
theorem dX0_pass_158 : decode cX0_pass 158 = .ok (.iload 8, 2) := by decide +kernel
theorem dX0_pass_160 : decode cX0_pass 160 = .ok (.iconst 2, 1) := by decide +kernel
theorem dX0_pass_161 : decode cX0_pass 161 = .ok (.iload 4, 2) := by decide +kernel
theorem dX0_pass_163 : decode cX0_pass 163 = .ok (.imul, 1) := by decide +kernel
theorem dX0_pass_164 : decode cX0_pass 164 = .ok (.iand, 1) := by decide +kernel
theorem dX0_pass_165 : decode cX0_pass 165 = .ok (.ifCond .ne 20, 3) := by decide +kernel
theorem dX0_pass_168 : decode cX0_pass 168 = .ok (.aload_n 0, 1) := by decide +kernel
theorem dX0_pass_169 : decode cX0_pass 169 = .ok (.getfield 15, 3) := by decide +kernel
theorem dX0_pass_172 : decode cX0_pass 172 = .ok (.iload 8, 2) := by decide +kernel
theorem dX0_pass_174 : decode cX0_pass 174 = .ok (.iconst 2, 1) := by decide +kernel
theorem dX0_pass_175 : decode cX0_pass 175 = .ok (.iload 4, 2) := by decide +kernel
theorem dX0_pass_177 : decode cX0_pass 177 = .ok (.imul, 1) := by decide +kernel
theorem dX0_pass_178 : decode cX0_pass 178 = .ok (.iadd, 1) := by decide +kernel
theorem dX0_pass_179 : decode cX0_pass 179 = .ok (.dup2, 1) := by decide +kernel
theorem dX0_pass_180 : decode cX0_pass 180 = .ok (.laload, 1) := by decide +kernel
theorem dX0_pass_181 : decode cX0_pass 181 = .ok (.lload 9, 2) := by decide +kernel
theorem dX0_pass_183 : decode cX0_pass 183 = .ok (.ladd, 1) := by decide +kernel
theorem dX0_pass_184 : decode cX0_pass 184 = .ok (.lastore, 1) := by decide +kernel
theorem dX0_pass_185 : decode cX0_pass 185 = .ok (.iinc 8 1, 3) := by decide +kernel
theorem dX0_pass_188 : decode cX0_pass 188 = .ok (.goto (-118), 3) := by decide +kernel
theorem dX0_pass_191 : decode cX0_pass 191 = .ok (.return_, 1) := by decide +kernel
theorem dX1_init_0 : decode cX1_init 0 = .ok (.aload_n 0, 1) := by decide +kernel
theorem dX1_init_1 : decode cX1_init 1 = .ok (.invokespecial 3, 3) := by decide +kernel
theorem dX1_init_4 : decode cX1_init 4 = .ok (.aload_n 0, 1) := by decide +kernel
theorem dX1_init_5 : decode cX1_init 5 = .ok (.bipush 81, 2) := by decide +kernel
theorem dX1_init_7 : decode cX1_init 7 = .ok (.newarray .int, 2) := by decide +kernel
theorem dX1_init_9 : decode cX1_init 9 = .ok (.putfield 9, 3) := by decide +kernel
theorem dX1_init_12 : decode cX1_init 12 = .ok (.aload_n 0, 1) := by decide +kernel
theorem dX1_init_13 : decode cX1_init 13 = .ok (.bipush 81, 2) := by decide +kernel
theorem dX1_init_15 : decode cX1_init 15 = .ok (.newarray .int, 2) := by decide +kernel
theorem dX1_init_17 : decode cX1_init 17 = .ok (.putfield 15, 3) := by decide +kernel
theorem dX1_init_20 : decode cX1_init 20 = .ok (.aload_n 0, 1) := by decide +kernel
theorem dX1_init_21 : decode cX1_init 21 = .ok (.new 18, 3) := by decide +kernel
theorem dX1_init_24 : decode cX1_init 24 = .ok (.dup, 1) := by decide +kernel
theorem dX1_init_25 : decode cX1_init 25 = .ok (.invokespecial 20, 3) := by decide +kernel
theorem dX1_init_28 : decode cX1_init 28 = .ok (.putfield 21, 3) := by decide +kernel
theorem dX1_init_31 : decode cX1_init 31 = .ok (.return_, 1) := by decide +kernel
theorem dX1_measure_0 : decode cX1_measure 0 = .ok (.aload_n 3, 1) := by decide +kernel
theorem dX1_measure_1 : decode cX1_measure 1 = .ok (.iconst 0, 1) := by decide +kernel
theorem dX1_measure_2 : decode cX1_measure 2 = .ok (.invokestatic 25, 3) := by decide +kernel
theorem dX1_measure_5 : decode cX1_measure 5 = .ok (.aload_n 0, 1) := by decide +kernel
theorem dX1_measure_6 : decode cX1_measure 6 = .ok (.getfield 21, 3) := by decide +kernel
theorem dX1_measure_9 : decode cX1_measure 9 = .ok (.invokevirtual 31, 3) := by decide +kernel
theorem dX1_measure_12 : decode cX1_measure 12 = .ok (.iconst 0, 1) := by decide +kernel
theorem dX1_measure_13 : decode cX1_measure 13 = .ok (.istore 4, 2) := by decide +kernel
theorem dX1_measure_15 : decode cX1_measure 15 = .ok (.iload 4, 2) := by decide +kernel
theorem dX1_measure_17 : decode cX1_measure 17 = .ok (.bipush 81, 2) := by decide +kernel
theorem dX1_measure_19 : decode cX1_measure 19 = .ok (.if_icmp .ge 46, 3) := by decide +kernel
theorem dX1_measure_22 : decode cX1_measure 22 = .ok (.aload_n 0, 1) := by decide +kernel
theorem dX1_measure_23 : decode cX1_measure 23 = .ok (.getfield 21, 3) := by decide +kernel
theorem dX1_measure_26 : decode cX1_measure 26 = .ok (.getfield 34, 3) := by decide +kernel
theorem dX1_measure_29 : decode cX1_measure 29 = .ok (.ifCond .ne 36, 3) := by decide +kernel
theorem dX1_measure_32 : decode cX1_measure 32 = .ok (.aload_n 1, 1) := by decide +kernel
theorem dX1_measure_33 : decode cX1_measure 33 = .ok (.iload 4, 2) := by decide +kernel
theorem dX1_measure_35 : decode cX1_measure 35 = .ok (.bipush 9, 2) := by decide +kernel
theorem dX1_measure_37 : decode cX1_measure 37 = .ok (.irem, 1) := by decide +kernel
theorem dX1_measure_38 : decode cX1_measure 38 = .ok (.iload 4, 2) := by decide +kernel
theorem dX1_measure_40 : decode cX1_measure 40 = .ok (.bipush 9, 2) := by decide +kernel
theorem dX1_measure_42 : decode cX1_measure 42 = .ok (.idiv, 1) := by decide +kernel
theorem dX1_measure_43 : decode cX1_measure 43 = .ok (.invokevirtual 38, 3) := by decide +kernel
theorem dX1_measure_46 : decode cX1_measure 46 = .ok (.ifCond .eq 13, 3) := by decide +kernel
theorem dX1_measure_49 : decode cX1_measure 49 = .ok (.aload_n 0, 1) := by decide +kernel
theorem dX1_measure_50 : decode cX1_measure 50 = .ok (.getfield 21, 3) := by decide +kernel
theorem dX1_measure_53 : decode cX1_measure 53 = .ok (.iload 4, 2) := by decide +kernel
theorem dX1_measure_55 : decode cX1_measure 55 = .ok (.invokevirtual 44, 3) := by decide +kernel
theorem dX1_measure_58 : decode cX1_measure 58 = .ok (.pop, 1) := by decide +kernel
theorem dX1_measure_59 : decode cX1_measure 59 = .ok (.iinc 4 1, 3) := by decide +kernel
theorem dX1_measure_62 : decode cX1_measure 62 = .ok (.goto (-47), 3) := by decide +kernel
theorem dX1_measure_65 : decode cX1_measure 65 = .ok (.iconst 0, 1) := by decide +kernel
theorem dX1_measure_66 : decode cX1_measure 66 = .ok (.istore 4, 2) := by decide +kernel
theorem dX1_measure_68 : decode cX1_measure 68 = .ok (.iload 4, 2) := by decide +kernel
theorem dX1_measure_70 : decode cX1_measure 70 = .ok (.bipush 100, 2) := by decide +kernel
theorem dX1_measure_72 : decode cX1_measure 72 = .ok (.if_icmp .ge 119, 3) := by decide +kernel
theorem dX1_measure_75 : decode cX1_measure 75 = .ok (.iload 4, 2) := by decide +kernel
theorem dX1_measure_77 : decode cX1_measure 77 = .ok (.aload_n 0, 1) := by decide +kernel
theorem dX1_measure_78 : decode cX1_measure 78 = .ok (.getfield 21, 3) := by decide +kernel
theorem dX1_measure_81 : decode cX1_measure 81 = .ok (.getfield 34, 3) := by decide +kernel
theorem dX1_measure_84 : decode cX1_measure 84 = .ok (.if_icmp .ge 107, 3) := by decide +kernel
theorem dX1_measure_87 : decode cX1_measure 87 = .ok (.aload_n 0, 1) := by decide +kernel
theorem dX1_measure_88 : decode cX1_measure 88 = .ok (.getfield 21, 3) := by decide +kernel
theorem dX1_measure_91 : decode cX1_measure 91 = .ok (.getfield 48, 3) := by decide +kernel
theorem dX1_measure_94 : decode cX1_measure 94 = .ok (.iload 4, 2) := by decide +kernel
theorem dX1_measure_96 : decode cX1_measure 96 = .ok (.iaload, 1) := by decide +kernel
theorem dX1_measure_97 : decode cX1_measure 97 = .ok (.istore 5, 2) := by decide +kernel
theorem dX1_measure_99 : decode cX1_measure 99 = .ok (.iconst 0, 1) := by decide +kernel
theorem dX1_measure_100 : decode cX1_measure 100 = .ok (.istore 6, 2) := by decide +kernel
theorem dX1_measure_102 : decode cX1_measure 102 = .ok (.iload 6, 2) := by decide +kernel
theorem dX1_measure_104 : decode cX1_measure 104 = .ok (.iconst 4, 1) := by decide +kernel
theorem dX1_measure_105 : decode cX1_measure 105 = .ok (.if_icmp .ge 80, 3) := by decide +kernel
theorem dX1_measure_108 : decode cX1_measure 108 = .ok (.aload_n 1, 1) := by decide +kernel
theorem dX1_measure_109 : decode cX1_measure 109 = .ok (.aload_n 2, 1) := by decide +kernel
theorem dX1_measure_110 : decode cX1_measure 110 = .ok (.iload 5, 2) := by decide +kernel
theorem dX1_measure_112 : decode cX1_measure 112 = .ok (.bipush 9, 2) := by decide +kernel
theorem dX1_measure_114 : decode cX1_measure 114 = .ok (.irem, 1) := by decide +kernel
theorem dX1_measure_115 : decode cX1_measure 115 = .ok (.iload 5, 2) := by decide +kernel
theorem dX1_measure_117 : decode cX1_measure 117 = .ok (.bipush 9, 2) := by decide +kernel
theorem dX1_measure_119 : decode cX1_measure 119 = .ok (.idiv, 1) := by decide +kernel
theorem dX1_measure_120 : decode cX1_measure 120 = .ok (.iload 6, 2) := by decide +kernel
theorem dX1_measure_122 : decode cX1_measure 122 = .ok (.invokestatic 51, 3) := by decide +kernel
theorem dX1_measure_125 : decode cX1_measure 125 = .ok (.istore 7, 2) := by decide +kernel
theorem dX1_measure_127 : decode cX1_measure 127 = .ok (.iload 5, 2) := by decide +kernel
theorem dX1_measure_129 : decode cX1_measure 129 = .ok (.iload 6, 2) := by decide +kernel
theorem dX1_measure_131 : decode cX1_measure 131 = .ok (.invokestatic 55, 3) := by decide +kernel
theorem dX1_measure_134 : decode cX1_measure 134 = .ok (.istore 8, 2) := by decide +kernel
theorem dX1_measure_136 : decode cX1_measure 136 = .ok (.iload 7, 2) := by decide +kernel
theorem dX1_measure_138 : decode cX1_measure 138 = .ok (.ifCond .eq 41, 3) := by decide +kernel
theorem dX1_measure_141 : decode cX1_measure 141 = .ok (.iload 8, 2) := by decide +kernel
theorem dX1_measure_143 : decode cX1_measure 143 = .ok (.ifCond .lt 36, 3) := by decide +kernel
theorem dX1_measure_146 : decode cX1_measure 146 = .ok (.iload 8, 2) := by decide +kernel
theorem dX1_measure_148 : decode cX1_measure 148 = .ok (.bipush 81, 2) := by decide +kernel
theorem dX1_measure_150 : decode cX1_measure 150 = .ok (.if_icmp .lt 6, 3) := by decide +kernel
theorem dX1_measure_153 : decode cX1_measure 153 = .ok (.goto 26, 3) := by decide +kernel
theorem dX1_measure_156 : decode cX1_measure 156 = .ok (.aload_n 0, 1) := by decide +kernel
theorem dX1_measure_157 : decode cX1_measure 157 = .ok (.getfield 21, 3) := by decide +kernel
theorem dX1_measure_160 : decode cX1_measure 160 = .ok (.iload 8, 2) := by decide +kernel
theorem dX1_measure_162 : decode cX1_measure 162 = .ok (.invokevirtual 44, 3) := by decide +kernel
theorem dX1_measure_165 : decode cX1_measure 165 = .ok (.ifCond .eq 14, 3) := by decide +kernel
theorem dX1_measure_168 : decode cX1_measure 168 = .ok (.aload_n 3, 1) := by decide +kernel
theorem dX1_measure_169 : decode cX1_measure 169 = .ok (.iload 8, 2) := by decide +kernel
theorem dX1_measure_171 : decode cX1_measure 171 = .ok (.aload_n 3, 1) := by decide +kernel
theorem dX1_measure_172 : decode cX1_measure 172 = .ok (.iload 5, 2) := by decide +kernel
theorem dX1_measure_174 : decode cX1_measure 174 = .ok (.iaload, 1) := by decide +kernel
theorem dX1_measure_175 : decode cX1_measure 175 = .ok (.iload 7, 2) := by decide +kernel
theorem dX1_measure_177 : decode cX1_measure 177 = .ok (.iadd, 1) := by decide +kernel
theorem dX1_measure_178 : decode cX1_measure 178 = .ok (.iastore, 1) := by decide +kernel
theorem dX1_measure_179 : decode cX1_measure 179 = .ok (.iinc 6 1, 3) := by decide +kernel
theorem dX1_measure_182 : decode cX1_measure 182 = .ok (.goto (-80), 3) := by decide +kernel
theorem dX1_measure_185 : decode cX1_measure 185 = .ok (.iinc 4 1, 3) := by decide +kernel
theorem dX1_measure_188 : decode cX1_measure 188 = .ok (.goto (-120), 3) := by decide +kernel
theorem dX1_measure_191 : decode cX1_measure 191 = .ok (.return_, 1) := by decide +kernel
theorem dX1_cornerBeside_0 : decode cX1_cornerBeside 0 = .ok (.iload_n 1, 1) := by decide +kernel
theorem dX1_cornerBeside_1 : decode cX1_cornerBeside 1 = .ok (.tableswitch 40 0 2 #[27, 31, 36], 27) := by decide +kernel
theorem dX1_cornerBeside_28 : decode cX1_cornerBeside 28 = .ok (.iload_n 0, 1) := by decide +kernel
theorem dX1_cornerBeside_29 : decode cX1_cornerBeside 29 = .ok (.iconst 1, 1) := by decide +kernel
theorem dX1_cornerBeside_30 : decode cX1_cornerBeside 30 = .ok (.iadd, 1) := by decide +kernel
theorem dX1_cornerBeside_31 : decode cX1_cornerBeside 31 = .ok (.ireturn, 1) := by decide +kernel
theorem dX1_cornerBeside_32 : decode cX1_cornerBeside 32 = .ok (.iload_n 0, 1) := by decide +kernel
theorem dX1_cornerBeside_33 : decode cX1_cornerBeside 33 = .ok (.bipush 9, 2) := by decide +kernel
theorem dX1_cornerBeside_35 : decode cX1_cornerBeside 35 = .ok (.iadd, 1) := by decide +kernel
theorem dX1_cornerBeside_36 : decode cX1_cornerBeside 36 = .ok (.ireturn, 1) := by decide +kernel
theorem dX1_cornerBeside_37 : decode cX1_cornerBeside 37 = .ok (.iload_n 0, 1) := by decide +kernel
theorem dX1_cornerBeside_38 : decode cX1_cornerBeside 38 = .ok (.iconst 1, 1) := by decide +kernel
theorem dX1_cornerBeside_39 : decode cX1_cornerBeside 39 = .ok (.isub, 1) := by decide +kernel
theorem dX1_cornerBeside_40 : decode cX1_cornerBeside 40 = .ok (.ireturn, 1) := by decide +kernel
theorem dX1_cornerBeside_41 : decode cX1_cornerBeside 41 = .ok (.iload_n 0, 1) := by decide +kernel
theorem dX1_cornerBeside_42 : decode cX1_cornerBeside 42 = .ok (.bipush 9, 2) := by decide +kernel
theorem dX1_cornerBeside_44 : decode cX1_cornerBeside 44 = .ok (.isub, 1) := by decide +kernel
theorem dX1_cornerBeside_45 : decode cX1_cornerBeside 45 = .ok (.ireturn, 1) := by decide +kernel
theorem dX1_stepFrom_0 : decode cX1_stepFrom 0 = .ok (.iload 4, 2) := by decide +kernel
theorem dX1_stepFrom_2 : decode cX1_stepFrom 2 = .ok (.tableswitch 53 0 2 #[26, 34, 42], 26) := by decide +kernel
theorem dX1_stepFrom_28 : decode cX1_stepFrom 28 = .ok (.aload_n 0, 1) := by decide +kernel
theorem dX1_stepFrom_29 : decode cX1_stepFrom 29 = .ok (.aload_n 1, 1) := by decide +kernel
theorem dX1_stepFrom_30 : decode cX1_stepFrom 30 = .ok (.iload_n 2, 1) := by decide +kernel
theorem dX1_stepFrom_31 : decode cX1_stepFrom 31 = .ok (.iload_n 3, 1) := by decide +kernel
theorem dX1_stepFrom_32 : decode cX1_stepFrom 32 = .ok (.invokestatic 59, 3) := by decide +kernel
theorem dX1_stepFrom_35 : decode cX1_stepFrom 35 = .ok (.ireturn, 1) := by decide +kernel
theorem dX1_stepFrom_36 : decode cX1_stepFrom 36 = .ok (.aload_n 0, 1) := by decide +kernel
theorem dX1_stepFrom_37 : decode cX1_stepFrom 37 = .ok (.aload_n 1, 1) := by decide +kernel
theorem dX1_stepFrom_38 : decode cX1_stepFrom 38 = .ok (.iload_n 2, 1) := by decide +kernel
theorem dX1_stepFrom_39 : decode cX1_stepFrom 39 = .ok (.iload_n 3, 1) := by decide +kernel
theorem dX1_stepFrom_40 : decode cX1_stepFrom 40 = .ok (.invokestatic 63, 3) := by decide +kernel
theorem dX1_stepFrom_43 : decode cX1_stepFrom 43 = .ok (.ireturn, 1) := by decide +kernel
theorem dX1_stepFrom_44 : decode cX1_stepFrom 44 = .ok (.aload_n 0, 1) := by decide +kernel
theorem dX1_stepFrom_45 : decode cX1_stepFrom 45 = .ok (.aload_n 1, 1) := by decide +kernel
theorem dX1_stepFrom_46 : decode cX1_stepFrom 46 = .ok (.iload_n 2, 1) := by decide +kernel
theorem dX1_stepFrom_47 : decode cX1_stepFrom 47 = .ok (.iconst 1, 1) := by decide +kernel
theorem dX1_stepFrom_48 : decode cX1_stepFrom 48 = .ok (.isub, 1) := by decide +kernel
theorem dX1_stepFrom_49 : decode cX1_stepFrom 49 = .ok (.iload_n 3, 1) := by decide +kernel
theorem dX1_stepFrom_50 : decode cX1_stepFrom 50 = .ok (.invokestatic 59, 3) := by decide +kernel
theorem dX1_stepFrom_53 : decode cX1_stepFrom 53 = .ok (.ineg, 1) := by decide +kernel
theorem dX1_stepFrom_54 : decode cX1_stepFrom 54 = .ok (.ireturn, 1) := by decide +kernel
theorem dX1_stepFrom_55 : decode cX1_stepFrom 55 = .ok (.aload_n 0, 1) := by decide +kernel
theorem dX1_stepFrom_56 : decode cX1_stepFrom 56 = .ok (.aload_n 1, 1) := by decide +kernel
theorem dX1_stepFrom_57 : decode cX1_stepFrom 57 = .ok (.iload_n 2, 1) := by decide +kernel
theorem dX1_stepFrom_58 : decode cX1_stepFrom 58 = .ok (.iload_n 3, 1) := by decide +kernel
theorem dX1_stepFrom_59 : decode cX1_stepFrom 59 = .ok (.iconst 1, 1) := by decide +kernel
theorem dX1_stepFrom_60 : decode cX1_stepFrom 60 = .ok (.isub, 1) := by decide +kernel
theorem dX1_stepFrom_61 : decode cX1_stepFrom 61 = .ok (.invokestatic 63, 3) := by decide +kernel
theorem dX1_stepFrom_64 : decode cX1_stepFrom 64 = .ok (.ineg, 1) := by decide +kernel
theorem dX1_stepFrom_65 : decode cX1_stepFrom 65 = .ok (.ireturn, 1) := by decide +kernel
theorem dX1_stepEast_0 : decode cX1_stepEast 0 = .ok (.aload_n 1, 1) := by decide +kernel
theorem dX1_stepEast_1 : decode cX1_stepEast 1 = .ok (.aload_n 0, 1) := by decide +kernel
theorem dX1_stepEast_2 : decode cX1_stepEast 2 = .ok (.iload_n 2, 1) := by decide +kernel
theorem dX1_stepEast_3 : decode cX1_stepEast 3 = .ok (.iload_n 3, 1) := by decide +kernel
theorem dX1_stepEast_4 : decode cX1_stepEast 4 = .ok (.iconst 1, 1) := by decide +kernel
theorem dX1_stepEast_5 : decode cX1_stepEast 5 = .ok (.isub, 1) := by decide +kernel
theorem dX1_stepEast_6 : decode cX1_stepEast 6 = .ok (.invokevirtual 66, 3) := by decide +kernel
theorem dX1_stepEast_9 : decode cX1_stepEast 9 = .ok (.aload_n 0, 1) := by decide +kernel
theorem dX1_stepEast_10 : decode cX1_stepEast 10 = .ok (.iload_n 2, 1) := by decide +kernel
theorem dX1_stepEast_11 : decode cX1_stepEast 11 = .ok (.iload_n 3, 1) := by decide +kernel
theorem dX1_stepEast_12 : decode cX1_stepEast 12 = .ok (.invokevirtual 66, 3) := by decide +kernel
theorem dX1_stepEast_15 : decode cX1_stepEast 15 = .ok (.invokestatic 69, 3) := by decide +kernel
theorem dX1_stepEast_18 : decode cX1_stepEast 18 = .ok (.ifCond .ne 5, 3) := by decide +kernel
theorem dX1_stepEast_21 : decode cX1_stepEast 21 = .ok (.iconst 0, 1) := by decide +kernel
theorem dX1_stepEast_22 : decode cX1_stepEast 22 = .ok (.ireturn, 1) := by decide +kernel
theorem dX1_stepEast_23 : decode cX1_stepEast 23 = .ok (.iload_n 2, 1) := by decide +kernel
theorem dX1_stepEast_24 : decode cX1_stepEast 24 = .ok (.iload_n 3, 1) := by decide +kernel
theorem dX1_stepEast_25 : decode cX1_stepEast 25 = .ok (.iadd, 1) := by decide +kernel
theorem dX1_stepEast_26 : decode cX1_stepEast 26 = .ok (.iconst 1, 1) := by decide +kernel
theorem dX1_stepEast_27 : decode cX1_stepEast 27 = .ok (.iand, 1) := by decide +kernel
theorem dX1_stepEast_28 : decode cX1_stepEast 28 = .ok (.ifCond .ne 7, 3) := by decide +kernel
theorem dX1_stepEast_31 : decode cX1_stepEast 31 = .ok (.iconst (-1), 1) := by decide +kernel
theorem dX1_stepEast_32 : decode cX1_stepEast 32 = .ok (.goto 4, 3) := by decide +kernel
theorem dX1_stepEast_35 : decode cX1_stepEast 35 = .ok (.iconst 1, 1) := by decide +kernel
theorem dX1_stepEast_36 : decode cX1_stepEast 36 = .ok (.ireturn, 1) := by decide +kernel
theorem dX1_stepSouth_0 : decode cX1_stepSouth 0 = .ok (.aload_n 1, 1) := by decide +kernel
theorem dX1_stepSouth_1 : decode cX1_stepSouth 1 = .ok (.aload_n 0, 1) := by decide +kernel
theorem dX1_stepSouth_2 : decode cX1_stepSouth 2 = .ok (.iload_n 2, 1) := by decide +kernel
theorem dX1_stepSouth_3 : decode cX1_stepSouth 3 = .ok (.iconst 1, 1) := by decide +kernel
theorem dX1_stepSouth_4 : decode cX1_stepSouth 4 = .ok (.isub, 1) := by decide +kernel
theorem dX1_stepSouth_5 : decode cX1_stepSouth 5 = .ok (.iload_n 3, 1) := by decide +kernel
theorem dX1_stepSouth_6 : decode cX1_stepSouth 6 = .ok (.invokevirtual 66, 3) := by decide +kernel
theorem dX1_stepSouth_9 : decode cX1_stepSouth 9 = .ok (.aload_n 0, 1) := by decide +kernel
theorem dX1_stepSouth_10 : decode cX1_stepSouth 10 = .ok (.iload_n 2, 1) := by decide +kernel
theorem dX1_stepSouth_11 : decode cX1_stepSouth 11 = .ok (.iload_n 3, 1) := by decide +kernel
theorem dX1_stepSouth_12 : decode cX1_stepSouth 12 = .ok (.invokevirtual 66, 3) := by decide +kernel
theorem dX1_stepSouth_15 : decode cX1_stepSouth 15 = .ok (.invokestatic 69, 3) := by decide +kernel
theorem dX1_stepSouth_18 : decode cX1_stepSouth 18 = .ok (.ifCond .ne 5, 3) := by decide +kernel
theorem dX1_stepSouth_21 : decode cX1_stepSouth 21 = .ok (.iconst 0, 1) := by decide +kernel
theorem dX1_stepSouth_22 : decode cX1_stepSouth 22 = .ok (.ireturn, 1) := by decide +kernel
theorem dX1_stepSouth_23 : decode cX1_stepSouth 23 = .ok (.iload_n 2, 1) := by decide +kernel
theorem dX1_stepSouth_24 : decode cX1_stepSouth 24 = .ok (.iload_n 3, 1) := by decide +kernel
theorem dX1_stepSouth_25 : decode cX1_stepSouth 25 = .ok (.iadd, 1) := by decide +kernel
theorem dX1_stepSouth_26 : decode cX1_stepSouth 26 = .ok (.iconst 1, 1) := by decide +kernel
theorem dX1_stepSouth_27 : decode cX1_stepSouth 27 = .ok (.iand, 1) := by decide +kernel
theorem dX1_stepSouth_28 : decode cX1_stepSouth 28 = .ok (.ifCond .ne 7, 3) := by decide +kernel
theorem dX1_stepSouth_31 : decode cX1_stepSouth 31 = .ok (.iconst 1, 1) := by decide +kernel
theorem dX1_stepSouth_32 : decode cX1_stepSouth 32 = .ok (.goto 4, 3) := by decide +kernel
theorem dX1_stepSouth_35 : decode cX1_stepSouth 35 = .ok (.iconst (-1), 1) := by decide +kernel
theorem dX1_stepSouth_36 : decode cX1_stepSouth 36 = .ok (.ireturn, 1) := by decide +kernel
theorem dX1_canGoBetween_0 : decode cX1_canGoBetween 0 = .ok (.iload_n 1, 1) := by decide +kernel
theorem dX1_canGoBetween_1 : decode cX1_canGoBetween 1 = .ok (.ifCond .lt 7, 3) := by decide +kernel
theorem dX1_canGoBetween_4 : decode cX1_canGoBetween 4 = .ok (.iload_n 2, 1) := by decide +kernel
theorem dX1_canGoBetween_5 : decode cX1_canGoBetween 5 = .ok (.ifCond .ge 17, 3) := by decide +kernel
theorem dX1_canGoBetween_8 : decode cX1_canGoBetween 8 = .ok (.iload_n 1, 1) := by decide +kernel
theorem dX1_canGoBetween_9 : decode cX1_canGoBetween 9 = .ok (.ifCond .ge 7, 3) := by decide +kernel
theorem dX1_canGoBetween_12 : decode cX1_canGoBetween 12 = .ok (.iload_n 2, 1) := by decide +kernel
theorem dX1_canGoBetween_13 : decode cX1_canGoBetween 13 = .ok (.ifCond .lt 7, 3) := by decide +kernel
theorem dX1_canGoBetween_16 : decode cX1_canGoBetween 16 = .ok (.iconst 1, 1) := by decide +kernel
theorem dX1_canGoBetween_17 : decode cX1_canGoBetween 17 = .ok (.goto 4, 3) := by decide +kernel
theorem dX1_canGoBetween_20 : decode cX1_canGoBetween 20 = .ok (.iconst 0, 1) := by decide +kernel
theorem dX1_canGoBetween_21 : decode cX1_canGoBetween 21 = .ok (.ireturn, 1) := by decide +kernel
theorem dX1_canGoBetween_22 : decode cX1_canGoBetween 22 = .ok (.aload_n 0, 1) := by decide +kernel
theorem dX1_canGoBetween_23 : decode cX1_canGoBetween 23 = .ok (.getfield 73, 3) := by decide +kernel
theorem dX1_canGoBetween_26 : decode cX1_canGoBetween 26 = .ok (.iload_n 1, 1) := by decide +kernel
theorem dX1_canGoBetween_27 : decode cX1_canGoBetween 27 = .ok (.iaload, 1) := by decide +kernel
theorem dX1_canGoBetween_28 : decode cX1_canGoBetween 28 = .ok (.aload_n 0, 1) := by decide +kernel
theorem dX1_canGoBetween_29 : decode cX1_canGoBetween 29 = .ok (.getfield 73, 3) := by decide +kernel
theorem dX1_canGoBetween_32 : decode cX1_canGoBetween 32 = .ok (.iload_n 2, 1) := by decide +kernel
theorem dX1_canGoBetween_33 : decode cX1_canGoBetween 33 = .ok (.iaload, 1) := by decide +kernel
theorem dX1_canGoBetween_34 : decode cX1_canGoBetween 34 = .ok (.if_icmp .eq 7, 3) := by decide +kernel
theorem dX1_canGoBetween_37 : decode cX1_canGoBetween 37 = .ok (.iconst 1, 1) := by decide +kernel
theorem dX1_canGoBetween_38 : decode cX1_canGoBetween 38 = .ok (.goto 4, 3) := by decide +kernel
theorem dX1_canGoBetween_41 : decode cX1_canGoBetween 41 = .ok (.iconst 0, 1) := by decide +kernel
theorem dX1_canGoBetween_42 : decode cX1_canGoBetween 42 = .ok (.ireturn, 1) := by decide +kernel
theorem dX1_wayOfTurn_0 : decode cX1_wayOfTurn 0 = .ok (.aload_n 1, 1) := by decide +kernel
theorem dX1_wayOfTurn_1 : decode cX1_wayOfTurn 1 = .ok (.iload_n 3, 1) := by decide +kernel
theorem dX1_wayOfTurn_2 : decode cX1_wayOfTurn 2 = .ok (.iconst 1, 1) := by decide +kernel
theorem dX1_wayOfTurn_3 : decode cX1_wayOfTurn 3 = .ok (.isub, 1) := by decide +kernel
theorem dX1_wayOfTurn_4 : decode cX1_wayOfTurn 4 = .ok (.iload 4, 2) := by decide +kernel
theorem dX1_wayOfTurn_6 : decode cX1_wayOfTurn 6 = .ok (.iconst 1, 1) := by decide +kernel
theorem dX1_wayOfTurn_7 : decode cX1_wayOfTurn 7 = .ok (.isub, 1) := by decide +kernel
theorem dX1_wayOfTurn_8 : decode cX1_wayOfTurn 8 = .ok (.invokevirtual 66, 3) := by decide +kernel
theorem dX1_wayOfTurn_11 : decode cX1_wayOfTurn 11 = .ok (.istore 5, 2) := by decide +kernel
theorem dX1_wayOfTurn_13 : decode cX1_wayOfTurn 13 = .ok (.aload_n 1, 1) := by decide +kernel
theorem dX1_wayOfTurn_14 : decode cX1_wayOfTurn 14 = .ok (.iload_n 3, 1) := by decide +kernel
theorem dX1_wayOfTurn_15 : decode cX1_wayOfTurn 15 = .ok (.iload 4, 2) := by decide +kernel
theorem dX1_wayOfTurn_17 : decode cX1_wayOfTurn 17 = .ok (.iconst 1, 1) := by decide +kernel
theorem dX1_wayOfTurn_18 : decode cX1_wayOfTurn 18 = .ok (.isub, 1) := by decide +kernel
theorem dX1_wayOfTurn_19 : decode cX1_wayOfTurn 19 = .ok (.invokevirtual 66, 3) := by decide +kernel
theorem dX1_wayOfTurn_22 : decode cX1_wayOfTurn 22 = .ok (.istore 6, 2) := by decide +kernel
theorem dX1_wayOfTurn_24 : decode cX1_wayOfTurn 24 = .ok (.aload_n 1, 1) := by decide +kernel
theorem dX1_wayOfTurn_25 : decode cX1_wayOfTurn 25 = .ok (.iload_n 3, 1) := by decide +kernel
theorem dX1_wayOfTurn_26 : decode cX1_wayOfTurn 26 = .ok (.iconst 1, 1) := by decide +kernel
theorem dX1_wayOfTurn_27 : decode cX1_wayOfTurn 27 = .ok (.isub, 1) := by decide +kernel
theorem dX1_wayOfTurn_28 : decode cX1_wayOfTurn 28 = .ok (.iload 4, 2) := by decide +kernel
theorem dX1_wayOfTurn_30 : decode cX1_wayOfTurn 30 = .ok (.invokevirtual 66, 3) := by decide +kernel
theorem dX1_wayOfTurn_33 : decode cX1_wayOfTurn 33 = .ok (.istore 7, 2) := by decide +kernel
theorem dX1_wayOfTurn_35 : decode cX1_wayOfTurn 35 = .ok (.aload_n 1, 1) := by decide +kernel
theorem dX1_wayOfTurn_36 : decode cX1_wayOfTurn 36 = .ok (.iload_n 3, 1) := by decide +kernel
theorem dX1_wayOfTurn_37 : decode cX1_wayOfTurn 37 = .ok (.iload 4, 2) := by decide +kernel
theorem dX1_wayOfTurn_39 : decode cX1_wayOfTurn 39 = .ok (.invokevirtual 66, 3) := by decide +kernel
theorem dX1_wayOfTurn_42 : decode cX1_wayOfTurn 42 = .ok (.istore 8, 2) := by decide +kernel
theorem dX1_wayOfTurn_44 : decode cX1_wayOfTurn 44 = .ok (.iload 5, 2) := by decide +kernel
theorem dX1_wayOfTurn_46 : decode cX1_wayOfTurn 46 = .ok (.ifCond .lt 18, 3) := by decide +kernel
theorem dX1_wayOfTurn_49 : decode cX1_wayOfTurn 49 = .ok (.iload 6, 2) := by decide +kernel
theorem dX1_wayOfTurn_51 : decode cX1_wayOfTurn 51 = .ok (.ifCond .lt 13, 3) := by decide +kernel
theorem dX1_wayOfTurn_54 : decode cX1_wayOfTurn 54 = .ok (.iload 7, 2) := by decide +kernel
theorem dX1_wayOfTurn_56 : decode cX1_wayOfTurn 56 = .ok (.ifCond .lt 8, 3) := by decide +kernel
theorem dX1_wayOfTurn_59 : decode cX1_wayOfTurn 59 = .ok (.iload 8, 2) := by decide +kernel
theorem dX1_wayOfTurn_61 : decode cX1_wayOfTurn 61 = .ok (.ifCond .ge 5, 3) := by decide +kernel
theorem dX1_wayOfTurn_64 : decode cX1_wayOfTurn 64 = .ok (.iconst (-1), 1) := by decide +kernel
theorem dX1_wayOfTurn_65 : decode cX1_wayOfTurn 65 = .ok (.ireturn, 1) := by decide +kernel
theorem dX1_wayOfTurn_66 : decode cX1_wayOfTurn 66 = .ok (.aload_n 2, 1) := by decide +kernel
theorem dX1_wayOfTurn_67 : decode cX1_wayOfTurn 67 = .ok (.getfield 73, 3) := by decide +kernel
theorem dX1_wayOfTurn_70 : decode cX1_wayOfTurn 70 = .ok (.astore 9, 2) := by decide +kernel
theorem dX1_wayOfTurn_72 : decode cX1_wayOfTurn 72 = .ok (.aload 9, 2) := by decide +kernel
theorem dX1_wayOfTurn_74 : decode cX1_wayOfTurn 74 = .ok (.iload 5, 2) := by decide +kernel
theorem dX1_wayOfTurn_76 : decode cX1_wayOfTurn 76 = .ok (.iaload, 1) := by decide +kernel
theorem dX1_wayOfTurn_77 : decode cX1_wayOfTurn 77 = .ok (.aload 9, 2) := by decide +kernel
theorem dX1_wayOfTurn_79 : decode cX1_wayOfTurn 79 = .ok (.iload 6, 2) := by decide +kernel
theorem dX1_wayOfTurn_81 : decode cX1_wayOfTurn 81 = .ok (.iaload, 1) := by decide +kernel
theorem dX1_wayOfTurn_82 : decode cX1_wayOfTurn 82 = .ok (.if_icmp .ne 23, 3) := by decide +kernel
theorem dX1_wayOfTurn_85 : decode cX1_wayOfTurn 85 = .ok (.aload 9, 2) := by decide +kernel
theorem dX1_wayOfTurn_87 : decode cX1_wayOfTurn 87 = .ok (.iload 7, 2) := by decide +kernel
theorem dX1_wayOfTurn_89 : decode cX1_wayOfTurn 89 = .ok (.iaload, 1) := by decide +kernel
theorem dX1_wayOfTurn_90 : decode cX1_wayOfTurn 90 = .ok (.aload 9, 2) := by decide +kernel
theorem dX1_wayOfTurn_92 : decode cX1_wayOfTurn 92 = .ok (.iload 8, 2) := by decide +kernel
theorem dX1_wayOfTurn_94 : decode cX1_wayOfTurn 94 = .ok (.iaload, 1) := by decide +kernel
theorem dX1_wayOfTurn_95 : decode cX1_wayOfTurn 95 = .ok (.if_icmp .ne 10, 3) := by decide +kernel
theorem dX1_wayOfTurn_98 : decode cX1_wayOfTurn 98 = .ok (.iload_n 3, 1) := by decide +kernel
theorem dX1_wayOfTurn_99 : decode cX1_wayOfTurn 99 = .ok (.iload 4, 2) := by decide +kernel
theorem dX1_wayOfTurn_101 : decode cX1_wayOfTurn 101 = .ok (.iadd, 1) := by decide +kernel
theorem dX1_wayOfTurn_102 : decode cX1_wayOfTurn 102 = .ok (.iconst 1, 1) := by decide +kernel
theorem dX1_wayOfTurn_103 : decode cX1_wayOfTurn 103 = .ok (.iand, 1) := by decide +kernel
theorem dX1_wayOfTurn_104 : decode cX1_wayOfTurn 104 = .ok (.ireturn, 1) := by decide +kernel
theorem dX1_wayOfTurn_105 : decode cX1_wayOfTurn 105 = .ok (.aload 9, 2) := by decide +kernel
theorem dX1_wayOfTurn_107 : decode cX1_wayOfTurn 107 = .ok (.iload 5, 2) := by decide +kernel
theorem dX1_wayOfTurn_109 : decode cX1_wayOfTurn 109 = .ok (.iaload, 1) := by decide +kernel
theorem dX1_wayOfTurn_110 : decode cX1_wayOfTurn 110 = .ok (.aload 9, 2) := by decide +kernel
theorem dX1_wayOfTurn_112 : decode cX1_wayOfTurn 112 = .ok (.iload 7, 2) := by decide +kernel
theorem dX1_wayOfTurn_114 : decode cX1_wayOfTurn 114 = .ok (.iaload, 1) := by decide +kernel
theorem dX1_wayOfTurn_115 : decode cX1_wayOfTurn 115 = .ok (.if_icmp .ne 25, 3) := by decide +kernel
theorem dX1_wayOfTurn_118 : decode cX1_wayOfTurn 118 = .ok (.aload 9, 2) := by decide +kernel
theorem dX1_wayOfTurn_120 : decode cX1_wayOfTurn 120 = .ok (.iload 6, 2) := by decide +kernel
theorem dX1_wayOfTurn_122 : decode cX1_wayOfTurn 122 = .ok (.iaload, 1) := by decide +kernel
theorem dX1_wayOfTurn_123 : decode cX1_wayOfTurn 123 = .ok (.aload 9, 2) := by decide +kernel
theorem dX1_wayOfTurn_125 : decode cX1_wayOfTurn 125 = .ok (.iload 8, 2) := by decide +kernel
theorem dX1_wayOfTurn_127 : decode cX1_wayOfTurn 127 = .ok (.iaload, 1) := by decide +kernel
theorem dX1_wayOfTurn_128 : decode cX1_wayOfTurn 128 = .ok (.if_icmp .ne 12, 3) := by decide +kernel
theorem dX1_wayOfTurn_131 : decode cX1_wayOfTurn 131 = .ok (.iconst 1, 1) := by decide +kernel
theorem dX1_wayOfTurn_132 : decode cX1_wayOfTurn 132 = .ok (.iload_n 3, 1) := by decide +kernel
theorem dX1_wayOfTurn_133 : decode cX1_wayOfTurn 133 = .ok (.iload 4, 2) := by decide +kernel
theorem dX1_wayOfTurn_135 : decode cX1_wayOfTurn 135 = .ok (.iadd, 1) := by decide +kernel
theorem dX1_wayOfTurn_136 : decode cX1_wayOfTurn 136 = .ok (.iconst 1, 1) := by decide +kernel
theorem dX1_wayOfTurn_137 : decode cX1_wayOfTurn 137 = .ok (.iand, 1) := by decide +kernel
theorem dX1_wayOfTurn_138 : decode cX1_wayOfTurn 138 = .ok (.isub, 1) := by decide +kernel
theorem dX1_wayOfTurn_139 : decode cX1_wayOfTurn 139 = .ok (.ireturn, 1) := by decide +kernel
theorem dX1_wayOfTurn_140 : decode cX1_wayOfTurn 140 = .ok (.iconst (-1), 1) := by decide +kernel
theorem dX1_wayOfTurn_141 : decode cX1_wayOfTurn 141 = .ok (.ireturn, 1) := by decide +kernel
theorem dX1_makeTurn_0 : decode cX1_makeTurn 0 = .ok (.aload_n 1, 1) := by decide +kernel
theorem dX1_makeTurn_1 : decode cX1_makeTurn 1 = .ok (.iload_n 3, 1) := by decide +kernel
theorem dX1_makeTurn_2 : decode cX1_makeTurn 2 = .ok (.iconst 1, 1) := by decide +kernel
theorem dX1_makeTurn_3 : decode cX1_makeTurn 3 = .ok (.isub, 1) := by decide +kernel
theorem dX1_makeTurn_4 : decode cX1_makeTurn 4 = .ok (.iload 4, 2) := by decide +kernel
theorem dX1_makeTurn_6 : decode cX1_makeTurn 6 = .ok (.iconst 1, 1) := by decide +kernel
theorem dX1_makeTurn_7 : decode cX1_makeTurn 7 = .ok (.isub, 1) := by decide +kernel
theorem dX1_makeTurn_8 : decode cX1_makeTurn 8 = .ok (.invokevirtual 66, 3) := by decide +kernel
theorem dX1_makeTurn_11 : decode cX1_makeTurn 11 = .ok (.istore 5, 2) := by decide +kernel
theorem dX1_makeTurn_13 : decode cX1_makeTurn 13 = .ok (.aload_n 1, 1) := by decide +kernel
theorem dX1_makeTurn_14 : decode cX1_makeTurn 14 = .ok (.iload_n 3, 1) := by decide +kernel
theorem dX1_makeTurn_15 : decode cX1_makeTurn 15 = .ok (.iload 4, 2) := by decide +kernel
theorem dX1_makeTurn_17 : decode cX1_makeTurn 17 = .ok (.iconst 1, 1) := by decide +kernel
theorem dX1_makeTurn_18 : decode cX1_makeTurn 18 = .ok (.isub, 1) := by decide +kernel
theorem dX1_makeTurn_19 : decode cX1_makeTurn 19 = .ok (.invokevirtual 66, 3) := by decide +kernel
theorem dX1_makeTurn_22 : decode cX1_makeTurn 22 = .ok (.istore 6, 2) := by decide +kernel
theorem dX1_makeTurn_24 : decode cX1_makeTurn 24 = .ok (.aload_n 1, 1) := by decide +kernel
theorem dX1_makeTurn_25 : decode cX1_makeTurn 25 = .ok (.iload_n 3, 1) := by decide +kernel
theorem dX1_makeTurn_26 : decode cX1_makeTurn 26 = .ok (.iconst 1, 1) := by decide +kernel
theorem dX1_makeTurn_27 : decode cX1_makeTurn 27 = .ok (.isub, 1) := by decide +kernel
theorem dX1_makeTurn_28 : decode cX1_makeTurn 28 = .ok (.iload 4, 2) := by decide +kernel
theorem dX1_makeTurn_30 : decode cX1_makeTurn 30 = .ok (.invokevirtual 66, 3) := by decide +kernel
theorem dX1_makeTurn_33 : decode cX1_makeTurn 33 = .ok (.istore 7, 2) := by decide +kernel
theorem dX1_makeTurn_35 : decode cX1_makeTurn 35 = .ok (.iload 5, 2) := by decide +kernel
theorem dX1_makeTurn_37 : decode cX1_makeTurn 37 = .ok (.ifCond .lt 13, 3) := by decide +kernel
theorem dX1_makeTurn_40 : decode cX1_makeTurn 40 = .ok (.iload 6, 2) := by decide +kernel
theorem dX1_makeTurn_42 : decode cX1_makeTurn 42 = .ok (.ifCond .lt 8, 3) := by decide +kernel
theorem dX1_makeTurn_45 : decode cX1_makeTurn 45 = .ok (.iload 7, 2) := by decide +kernel
theorem dX1_makeTurn_47 : decode cX1_makeTurn 47 = .ok (.ifCond .ge 4, 3) := by decide +kernel
theorem dX1_makeTurn_50 : decode cX1_makeTurn 50 = .ok (.return_, 1) := by decide +kernel
theorem dX1_makeTurn_51 : decode cX1_makeTurn 51 = .ok (.aload_n 2, 1) := by decide +kernel
theorem dX1_makeTurn_52 : decode cX1_makeTurn 52 = .ok (.getfield 73, 3) := by decide +kernel
theorem dX1_makeTurn_55 : decode cX1_makeTurn 55 = .ok (.iload 5, 2) := by decide +kernel
theorem dX1_makeTurn_57 : decode cX1_makeTurn 57 = .ok (.iaload, 1) := by decide +kernel
theorem dX1_makeTurn_58 : decode cX1_makeTurn 58 = .ok (.aload_n 2, 1) := by decide +kernel
theorem dX1_makeTurn_59 : decode cX1_makeTurn 59 = .ok (.getfield 73, 3) := by decide +kernel
theorem dX1_makeTurn_62 : decode cX1_makeTurn 62 = .ok (.iload 6, 2) := by decide +kernel
theorem dX1_makeTurn_64 : decode cX1_makeTurn 64 = .ok (.iaload, 1) := by decide +kernel
theorem dX1_makeTurn_65 : decode cX1_makeTurn 65 = .ok (.if_icmp .ne 28, 3) := by decide +kernel
theorem dX1_makeTurn_68 : decode cX1_makeTurn 68 = .ok (.aload_n 2, 1) := by decide +kernel
theorem dX1_makeTurn_69 : decode cX1_makeTurn 69 = .ok (.aload_n 1, 1) := by decide +kernel
theorem dX1_makeTurn_70 : decode cX1_makeTurn 70 = .ok (.iconst 2, 1) := by decide +kernel
theorem dX1_makeTurn_71 : decode cX1_makeTurn 71 = .ok (.iload 5, 2) := by decide +kernel
theorem dX1_makeTurn_73 : decode cX1_makeTurn 73 = .ok (.imul, 1) := by decide +kernel
theorem dX1_makeTurn_74 : decode cX1_makeTurn 74 = .ok (.iconst 1, 1) := by decide +kernel
theorem dX1_makeTurn_75 : decode cX1_makeTurn 75 = .ok (.iadd, 1) := by decide +kernel
theorem dX1_makeTurn_76 : decode cX1_makeTurn 76 = .ok (.invokevirtual 78, 3) := by decide +kernel
theorem dX1_makeTurn_79 : decode cX1_makeTurn 79 = .ok (.aload_n 2, 1) := by decide +kernel
theorem dX1_makeTurn_80 : decode cX1_makeTurn 80 = .ok (.aload_n 1, 1) := by decide +kernel
theorem dX1_makeTurn_81 : decode cX1_makeTurn 81 = .ok (.iconst 2, 1) := by decide +kernel
theorem dX1_makeTurn_82 : decode cX1_makeTurn 82 = .ok (.iload 6, 2) := by decide +kernel
theorem dX1_makeTurn_84 : decode cX1_makeTurn 84 = .ok (.imul, 1) := by decide +kernel
theorem dX1_makeTurn_85 : decode cX1_makeTurn 85 = .ok (.iconst 1, 1) := by decide +kernel
theorem dX1_makeTurn_86 : decode cX1_makeTurn 86 = .ok (.iadd, 1) := by decide +kernel
theorem dX1_makeTurn_87 : decode cX1_makeTurn 87 = .ok (.invokevirtual 78, 3) := by decide +kernel
theorem dX1_makeTurn_90 : decode cX1_makeTurn 90 = .ok (.goto 21, 3) := by decide +kernel
theorem dX1_makeTurn_93 : decode cX1_makeTurn 93 = .ok (.aload_n 2, 1) := by decide +kernel
theorem dX1_makeTurn_94 : decode cX1_makeTurn 94 = .ok (.aload_n 1, 1) := by decide +kernel
theorem dX1_makeTurn_95 : decode cX1_makeTurn 95 = .ok (.iconst 2, 1) := by decide +kernel
theorem dX1_makeTurn_96 : decode cX1_makeTurn 96 = .ok (.iload 5, 2) := by decide +kernel
theorem dX1_makeTurn_98 : decode cX1_makeTurn 98 = .ok (.imul, 1) := by decide +kernel
theorem dX1_makeTurn_99 : decode cX1_makeTurn 99 = .ok (.invokevirtual 78, 3) := by decide +kernel
theorem dX1_makeTurn_102 : decode cX1_makeTurn 102 = .ok (.aload_n 2, 1) := by decide +kernel
theorem dX1_makeTurn_103 : decode cX1_makeTurn 103 = .ok (.aload_n 1, 1) := by decide +kernel
theorem dX1_makeTurn_104 : decode cX1_makeTurn 104 = .ok (.iconst 2, 1) := by decide +kernel
theorem dX1_makeTurn_105 : decode cX1_makeTurn 105 = .ok (.iload 7, 2) := by decide +kernel
theorem dX1_makeTurn_107 : decode cX1_makeTurn 107 = .ok (.imul, 1) := by decide +kernel
theorem dX1_makeTurn_108 : decode cX1_makeTurn 108 = .ok (.invokevirtual 78, 3) := by decide +kernel
theorem dX1_makeTurn_111 : decode cX1_makeTurn 111 = .ok (.return_, 1) := by decide +kernel
theorem dX1_turnsOfWay_0 : decode cX1_turnsOfWay 0 = .ok (.iconst 0, 1) := by decide +kernel
theorem dX1_turnsOfWay_1 : decode cX1_turnsOfWay 1 = .ok (.istore 4, 2) := by decide +kernel
theorem dX1_turnsOfWay_3 : decode cX1_turnsOfWay 3 = .ok (.iconst 1, 1) := by decide +kernel
theorem dX1_turnsOfWay_4 : decode cX1_turnsOfWay 4 = .ok (.istore 5, 2) := by decide +kernel
theorem dX1_turnsOfWay_6 : decode cX1_turnsOfWay 6 = .ok (.iload 5, 2) := by decide +kernel
theorem dX1_turnsOfWay_8 : decode cX1_turnsOfWay 8 = .ok (.aload_n 1, 1) := by decide +kernel
theorem dX1_turnsOfWay_9 : decode cX1_turnsOfWay 9 = .ok (.getfield 82, 3) := by decide +kernel
theorem dX1_turnsOfWay_12 : decode cX1_turnsOfWay 12 = .ok (.if_icmp .ge 54, 3) := by decide +kernel
theorem dX1_turnsOfWay_15 : decode cX1_turnsOfWay 15 = .ok (.iconst 1, 1) := by decide +kernel
theorem dX1_turnsOfWay_16 : decode cX1_turnsOfWay 16 = .ok (.istore 6, 2) := by decide +kernel
theorem dX1_turnsOfWay_18 : decode cX1_turnsOfWay 18 = .ok (.iload 6, 2) := by decide +kernel
theorem dX1_turnsOfWay_20 : decode cX1_turnsOfWay 20 = .ok (.aload_n 1, 1) := by decide +kernel
theorem dX1_turnsOfWay_21 : decode cX1_turnsOfWay 21 = .ok (.getfield 85, 3) := by decide +kernel
theorem dX1_turnsOfWay_24 : decode cX1_turnsOfWay 24 = .ok (.if_icmp .ge 36, 3) := by decide +kernel
theorem dX1_turnsOfWay_27 : decode cX1_turnsOfWay 27 = .ok (.iload 4, 2) := by decide +kernel
theorem dX1_turnsOfWay_29 : decode cX1_turnsOfWay 29 = .ok (.aload_n 0, 1) := by decide +kernel
theorem dX1_turnsOfWay_30 : decode cX1_turnsOfWay 30 = .ok (.aload_n 1, 1) := by decide +kernel
theorem dX1_turnsOfWay_31 : decode cX1_turnsOfWay 31 = .ok (.aload_n 2, 1) := by decide +kernel
theorem dX1_turnsOfWay_32 : decode cX1_turnsOfWay 32 = .ok (.iload 6, 2) := by decide +kernel
theorem dX1_turnsOfWay_34 : decode cX1_turnsOfWay 34 = .ok (.iload 5, 2) := by decide +kernel
theorem dX1_turnsOfWay_36 : decode cX1_turnsOfWay 36 = .ok (.invokevirtual 88, 3) := by decide +kernel
theorem dX1_turnsOfWay_39 : decode cX1_turnsOfWay 39 = .ok (.iload_n 3, 1) := by decide +kernel
theorem dX1_turnsOfWay_40 : decode cX1_turnsOfWay 40 = .ok (.if_icmp .ne 7, 3) := by decide +kernel
theorem dX1_turnsOfWay_43 : decode cX1_turnsOfWay 43 = .ok (.iconst 1, 1) := by decide +kernel
theorem dX1_turnsOfWay_44 : decode cX1_turnsOfWay 44 = .ok (.goto 4, 3) := by decide +kernel
theorem dX1_turnsOfWay_47 : decode cX1_turnsOfWay 47 = .ok (.iconst 0, 1) := by decide +kernel
theorem dX1_turnsOfWay_48 : decode cX1_turnsOfWay 48 = .ok (.invokestatic 91, 3) := by decide +kernel
theorem dX1_turnsOfWay_51 : decode cX1_turnsOfWay 51 = .ok (.iadd, 1) := by decide +kernel
theorem dX1_turnsOfWay_52 : decode cX1_turnsOfWay 52 = .ok (.istore 4, 2) := by decide +kernel
theorem dX1_turnsOfWay_54 : decode cX1_turnsOfWay 54 = .ok (.iinc 6 1, 3) := by decide +kernel
theorem dX1_turnsOfWay_57 : decode cX1_turnsOfWay 57 = .ok (.goto (-39), 3) := by decide +kernel
theorem dX1_turnsOfWay_60 : decode cX1_turnsOfWay 60 = .ok (.iinc 5 1, 3) := by decide +kernel
theorem dX1_turnsOfWay_63 : decode cX1_turnsOfWay 63 = .ok (.goto (-57), 3) := by decide +kernel
theorem dX1_turnsOfWay_66 : decode cX1_turnsOfWay 66 = .ok (.iload 4, 2) := by decide +kernel
theorem dX1_turnsOfWay_68 : decode cX1_turnsOfWay 68 = .ok (.ireturn, 1) := by decide +kernel
theorem dX1_turnAll_0 : decode cX1_turnAll 0 = .ok (.iconst 0, 1) := by decide +kernel
theorem dX1_turnAll_1 : decode cX1_turnAll 1 = .ok (.istore 4, 2) := by decide +kernel
theorem dX1_turnAll_3 : decode cX1_turnAll 3 = .ok (.iconst 0, 1) := by decide +kernel
theorem dX1_turnAll_4 : decode cX1_turnAll 4 = .ok (.istore 5, 2) := by decide +kernel
theorem dX1_turnAll_6 : decode cX1_turnAll 6 = .ok (.iload 5, 2) := by decide +kernel
theorem dX1_turnAll_8 : decode cX1_turnAll 8 = .ok (.sipush 10000, 3) := by decide +kernel
theorem dX1_turnAll_11 : decode cX1_turnAll 11 = .ok (.if_icmp .ge 89, 3) := by decide +kernel
theorem dX1_turnAll_14 : decode cX1_turnAll 14 = .ok (.iload 4, 2) := by decide +kernel
theorem dX1_turnAll_16 : decode cX1_turnAll 16 = .ok (.istore 6, 2) := by decide +kernel
theorem dX1_turnAll_18 : decode cX1_turnAll 18 = .ok (.iconst 1, 1) := by decide +kernel
theorem dX1_turnAll_19 : decode cX1_turnAll 19 = .ok (.istore 7, 2) := by decide +kernel
theorem dX1_turnAll_21 : decode cX1_turnAll 21 = .ok (.iload 7, 2) := by decide +kernel
theorem dX1_turnAll_23 : decode cX1_turnAll 23 = .ok (.aload_n 1, 1) := by decide +kernel
theorem dX1_turnAll_24 : decode cX1_turnAll 24 = .ok (.getfield 82, 3) := by decide +kernel
theorem dX1_turnAll_27 : decode cX1_turnAll 27 = .ok (.if_icmp .ge 57, 3) := by decide +kernel
theorem dX1_turnAll_30 : decode cX1_turnAll 30 = .ok (.iconst 1, 1) := by decide +kernel
theorem dX1_turnAll_31 : decode cX1_turnAll 31 = .ok (.istore 8, 2) := by decide +kernel
theorem dX1_turnAll_33 : decode cX1_turnAll 33 = .ok (.iload 8, 2) := by decide +kernel
theorem dX1_turnAll_35 : decode cX1_turnAll 35 = .ok (.aload_n 1, 1) := by decide +kernel
theorem dX1_turnAll_36 : decode cX1_turnAll 36 = .ok (.getfield 85, 3) := by decide +kernel
theorem dX1_turnAll_39 : decode cX1_turnAll 39 = .ok (.if_icmp .ge 39, 3) := by decide +kernel
theorem dX1_turnAll_42 : decode cX1_turnAll 42 = .ok (.aload_n 0, 1) := by decide +kernel
theorem dX1_turnAll_43 : decode cX1_turnAll 43 = .ok (.aload_n 1, 1) := by decide +kernel
theorem dX1_turnAll_44 : decode cX1_turnAll 44 = .ok (.aload_n 2, 1) := by decide +kernel
theorem dX1_turnAll_45 : decode cX1_turnAll 45 = .ok (.iload 8, 2) := by decide +kernel
theorem dX1_turnAll_47 : decode cX1_turnAll 47 = .ok (.iload 7, 2) := by decide +kernel
theorem dX1_turnAll_49 : decode cX1_turnAll 49 = .ok (.invokevirtual 88, 3) := by decide +kernel
theorem dX1_turnAll_52 : decode cX1_turnAll 52 = .ok (.iload_n 3, 1) := by decide +kernel
theorem dX1_turnAll_53 : decode cX1_turnAll 53 = .ok (.if_icmp .eq 6, 3) := by decide +kernel
theorem dX1_turnAll_56 : decode cX1_turnAll 56 = .ok (.goto 16, 3) := by decide +kernel
theorem dX1_turnAll_59 : decode cX1_turnAll 59 = .ok (.aload_n 0, 1) := by decide +kernel
theorem dX1_turnAll_60 : decode cX1_turnAll 60 = .ok (.aload_n 1, 1) := by decide +kernel
theorem dX1_turnAll_61 : decode cX1_turnAll 61 = .ok (.aload_n 2, 1) := by decide +kernel
theorem dX1_turnAll_62 : decode cX1_turnAll 62 = .ok (.iload 8, 2) := by decide +kernel
theorem dX1_turnAll_64 : decode cX1_turnAll 64 = .ok (.iload 7, 2) := by decide +kernel
theorem dX1_turnAll_66 : decode cX1_turnAll 66 = .ok (.invokevirtual 95, 3) := by decide +kernel
theorem dX1_turnAll_69 : decode cX1_turnAll 69 = .ok (.iinc 4 1, 3) := by decide +kernel
theorem dX1_turnAll_72 : decode cX1_turnAll 72 = .ok (.iinc 8 1, 3) := by decide +kernel
theorem dX1_turnAll_75 : decode cX1_turnAll 75 = .ok (.goto (-42), 3) := by decide +kernel
theorem dX1_turnAll_78 : decode cX1_turnAll 78 = .ok (.iinc 7 1, 3) := by decide +kernel
theorem dX1_turnAll_81 : decode cX1_turnAll 81 = .ok (.goto (-60), 3) := by decide +kernel
theorem dX1_turnAll_84 : decode cX1_turnAll 84 = .ok (.iload 4, 2) := by decide +kernel
theorem dX1_turnAll_86 : decode cX1_turnAll 86 = .ok (.iload 6, 2) := by decide +kernel
theorem dX1_turnAll_88 : decode cX1_turnAll 88 = .ok (.if_icmp .ne 6, 3) := by decide +kernel
theorem dX1_turnAll_91 : decode cX1_turnAll 91 = .ok (.goto 9, 3) := by decide +kernel
theorem dX1_turnAll_94 : decode cX1_turnAll 94 = .ok (.iinc 5 1, 3) := by decide +kernel
theorem dX1_turnAll_97 : decode cX1_turnAll 97 = .ok (.goto (-91), 3) := by decide +kernel
theorem dX1_turnAll_100 : decode cX1_turnAll 100 = .ok (.iload 4, 2) := by decide +kernel
theorem dX1_turnAll_102 : decode cX1_turnAll 102 = .ok (.ireturn, 1) := by decide +kernel
theorem dX1_distance_0 : decode cX1_distance 0 = .ok (.aload_n 0, 1) := by decide +kernel
theorem dX1_distance_1 : decode cX1_distance 1 = .ok (.aload_n 1, 1) := by decide +kernel
theorem dX1_distance_2 : decode cX1_distance 2 = .ok (.aload_n 2, 1) := by decide +kernel
theorem dX1_distance_3 : decode cX1_distance 3 = .ok (.aload_n 0, 1) := by decide +kernel
theorem dX1_distance_4 : decode cX1_distance 4 = .ok (.getfield 9, 3) := by decide +kernel
theorem dX1_distance_7 : decode cX1_distance 7 = .ok (.invokevirtual 99, 3) := by decide +kernel
theorem dX1_distance_10 : decode cX1_distance 10 = .ok (.aload_n 0, 1) := by decide +kernel
theorem dX1_distance_11 : decode cX1_distance 11 = .ok (.aload_n 1, 1) := by decide +kernel
theorem dX1_distance_12 : decode cX1_distance 12 = .ok (.aload_n 3, 1) := by decide +kernel
theorem dX1_distance_13 : decode cX1_distance 13 = .ok (.aload_n 0, 1) := by decide +kernel
theorem dX1_distance_14 : decode cX1_distance 14 = .ok (.getfield 15, 3) := by decide +kernel
theorem dX1_distance_17 : decode cX1_distance 17 = .ok (.invokevirtual 99, 3) := by decide +kernel
theorem dX1_distance_20 : decode cX1_distance 20 = .ok (.iconst 0, 1) := by decide +kernel
theorem dX1_distance_21 : decode cX1_distance 21 = .ok (.istore 4, 2) := by decide +kernel
theorem dX1_distance_23 : decode cX1_distance 23 = .ok (.iconst 0, 1) := by decide +kernel
theorem dX1_distance_24 : decode cX1_distance 24 = .ok (.istore 5, 2) := by decide +kernel
theorem dX1_distance_26 : decode cX1_distance 26 = .ok (.iload 5, 2) := by decide +kernel
theorem dX1_distance_28 : decode cX1_distance 28 = .ok (.bipush 81, 2) := by decide +kernel
theorem dX1_distance_30 : decode cX1_distance 30 = .ok (.if_icmp .ge 32, 3) := by decide +kernel
theorem dX1_distance_33 : decode cX1_distance 33 = .ok (.iload 4, 2) := by decide +kernel
theorem dX1_distance_35 : decode cX1_distance 35 = .ok (.aload_n 0, 1) := by decide +kernel
theorem dX1_distance_36 : decode cX1_distance 36 = .ok (.getfield 9, 3) := by decide +kernel
theorem dX1_distance_39 : decode cX1_distance 39 = .ok (.iload 5, 2) := by decide +kernel
theorem dX1_distance_41 : decode cX1_distance 41 = .ok (.iaload, 1) := by decide +kernel
theorem dX1_distance_42 : decode cX1_distance 42 = .ok (.aload_n 0, 1) := by decide +kernel
theorem dX1_distance_43 : decode cX1_distance 43 = .ok (.getfield 15, 3) := by decide +kernel
theorem dX1_distance_46 : decode cX1_distance 46 = .ok (.iload 5, 2) := by decide +kernel
theorem dX1_distance_48 : decode cX1_distance 48 = .ok (.iaload, 1) := by decide +kernel
theorem dX1_distance_49 : decode cX1_distance 49 = .ok (.isub, 1) := by decide +kernel
theorem dX1_distance_50 : decode cX1_distance 50 = .ok (.invokestatic 103, 3) := by decide +kernel
theorem dX1_distance_53 : decode cX1_distance 53 = .ok (.iadd, 1) := by decide +kernel
theorem dX1_distance_54 : decode cX1_distance 54 = .ok (.istore 4, 2) := by decide +kernel
theorem dX1_distance_56 : decode cX1_distance 56 = .ok (.iinc 5 1, 3) := by decide +kernel
theorem dX1_distance_59 : decode cX1_distance 59 = .ok (.goto (-33), 3) := by decide +kernel
theorem dX1_distance_62 : decode cX1_distance 62 = .ok (.iload 4, 2) := by decide +kernel
theorem dX1_distance_64 : decode cX1_distance 64 = .ok (.iconst 4, 1) := by decide +kernel
theorem dX1_distance_65 : decode cX1_distance 65 = .ok (.idiv, 1) := by decide +kernel
theorem dX1_distance_66 : decode cX1_distance 66 = .ok (.ireturn, 1) := by decide +kernel
theorem dX1_turnToward_0 : decode cX1_turnToward 0 = .ok (.aload_n 0, 1) := by decide +kernel
theorem dX1_turnToward_1 : decode cX1_turnToward 1 = .ok (.aload_n 1, 1) := by decide +kernel
theorem dX1_turnToward_2 : decode cX1_turnToward 2 = .ok (.aload_n 2, 1) := by decide +kernel
theorem dX1_turnToward_3 : decode cX1_turnToward 3 = .ok (.aload_n 0, 1) := by decide +kernel
theorem dX1_turnToward_4 : decode cX1_turnToward 4 = .ok (.getfield 9, 3) := by decide +kernel
theorem dX1_turnToward_7 : decode cX1_turnToward 7 = .ok (.invokevirtual 99, 3) := by decide +kernel
theorem dX1_turnToward_10 : decode cX1_turnToward 10 = .ok (.aload_n 0, 1) := by decide +kernel
theorem dX1_turnToward_11 : decode cX1_turnToward 11 = .ok (.aload_n 1, 1) := by decide +kernel
theorem dX1_turnToward_12 : decode cX1_turnToward 12 = .ok (.aload_n 3, 1) := by decide +kernel
theorem dX1_turnToward_13 : decode cX1_turnToward 13 = .ok (.aload_n 0, 1) := by decide +kernel
theorem dX1_turnToward_14 : decode cX1_turnToward 14 = .ok (.getfield 15, 3) := by decide +kernel
theorem dX1_turnToward_17 : decode cX1_turnToward 17 = .ok (.invokevirtual 99, 3) := by decide +kernel
theorem dX1_turnToward_20 : decode cX1_turnToward 20 = .ok (.iconst 1, 1) := by decide +kernel
theorem dX1_turnToward_21 : decode cX1_turnToward 21 = .ok (.istore 4, 2) := by decide +kernel
theorem dX1_turnToward_23 : decode cX1_turnToward 23 = .ok (.iload 4, 2) := by decide +kernel
theorem dX1_turnToward_25 : decode cX1_turnToward 25 = .ok (.aload_n 1, 1) := by decide +kernel
theorem dX1_turnToward_26 : decode cX1_turnToward 26 = .ok (.getfield 82, 3) := by decide +kernel
theorem dX1_turnToward_29 : decode cX1_turnToward 29 = .ok (.if_icmp .ge 108, 3) := by decide +kernel
theorem dX1_turnToward_32 : decode cX1_turnToward 32 = .ok (.iconst 1, 1) := by decide +kernel
theorem dX1_turnToward_33 : decode cX1_turnToward 33 = .ok (.istore 5, 2) := by decide +kernel
theorem dX1_turnToward_35 : decode cX1_turnToward 35 = .ok (.iload 5, 2) := by decide +kernel
theorem dX1_turnToward_37 : decode cX1_turnToward 37 = .ok (.aload_n 1, 1) := by decide +kernel
theorem dX1_turnToward_38 : decode cX1_turnToward 38 = .ok (.getfield 85, 3) := by decide +kernel
theorem dX1_turnToward_41 : decode cX1_turnToward 41 = .ok (.if_icmp .ge 90, 3) := by decide +kernel
theorem dX1_turnToward_44 : decode cX1_turnToward 44 = .ok (.aload_n 0, 1) := by decide +kernel
theorem dX1_turnToward_45 : decode cX1_turnToward 45 = .ok (.aload_n 1, 1) := by decide +kernel
theorem dX1_turnToward_46 : decode cX1_turnToward 46 = .ok (.aload_n 2, 1) := by decide +kernel
theorem dX1_turnToward_47 : decode cX1_turnToward 47 = .ok (.iload 5, 2) := by decide +kernel
theorem dX1_turnToward_49 : decode cX1_turnToward 49 = .ok (.iload 4, 2) := by decide +kernel
theorem dX1_turnToward_51 : decode cX1_turnToward 51 = .ok (.invokevirtual 88, 3) := by decide +kernel
theorem dX1_turnToward_54 : decode cX1_turnToward 54 = .ok (.istore 6, 2) := by decide +kernel
theorem dX1_turnToward_56 : decode cX1_turnToward 56 = .ok (.aload_n 0, 1) := by decide +kernel
theorem dX1_turnToward_57 : decode cX1_turnToward 57 = .ok (.getfield 15, 3) := by decide +kernel
theorem dX1_turnToward_60 : decode cX1_turnToward 60 = .ok (.iload 4, 2) := by decide +kernel
theorem dX1_turnToward_62 : decode cX1_turnToward 62 = .ok (.bipush 9, 2) := by decide +kernel
theorem dX1_turnToward_64 : decode cX1_turnToward 64 = .ok (.imul, 1) := by decide +kernel
theorem dX1_turnToward_65 : decode cX1_turnToward 65 = .ok (.iload 5, 2) := by decide +kernel
theorem dX1_turnToward_67 : decode cX1_turnToward 67 = .ok (.iadd, 1) := by decide +kernel
theorem dX1_turnToward_68 : decode cX1_turnToward 68 = .ok (.iaload, 1) := by decide +kernel
theorem dX1_turnToward_69 : decode cX1_turnToward 69 = .ok (.aload_n 0, 1) := by decide +kernel
theorem dX1_turnToward_70 : decode cX1_turnToward 70 = .ok (.getfield 9, 3) := by decide +kernel
theorem dX1_turnToward_73 : decode cX1_turnToward 73 = .ok (.iload 4, 2) := by decide +kernel
theorem dX1_turnToward_75 : decode cX1_turnToward 75 = .ok (.bipush 9, 2) := by decide +kernel
theorem dX1_turnToward_77 : decode cX1_turnToward 77 = .ok (.imul, 1) := by decide +kernel
theorem dX1_turnToward_78 : decode cX1_turnToward 78 = .ok (.iload 5, 2) := by decide +kernel
theorem dX1_turnToward_80 : decode cX1_turnToward 80 = .ok (.iadd, 1) := by decide +kernel
theorem dX1_turnToward_81 : decode cX1_turnToward 81 = .ok (.iaload, 1) := by decide +kernel
theorem dX1_turnToward_82 : decode cX1_turnToward 82 = .ok (.isub, 1) := by decide +kernel
theorem dX1_turnToward_83 : decode cX1_turnToward 83 = .ok (.istore 7, 2) := by decide +kernel
theorem dX1_turnToward_85 : decode cX1_turnToward 85 = .ok (.iload 6, 2) := by decide +kernel
theorem dX1_turnToward_87 : decode cX1_turnToward 87 = .ok (.iconst 1, 1) := by decide +kernel
theorem dX1_turnToward_88 : decode cX1_turnToward 88 = .ok (.if_icmp .ne 8, 3) := by decide +kernel
theorem dX1_turnToward_91 : decode cX1_turnToward 91 = .ok (.iload 7, 2) := by decide +kernel
theorem dX1_turnToward_93 : decode cX1_turnToward 93 = .ok (.ifCond .gt 13, 3) := by decide +kernel
theorem dX1_turnToward_96 : decode cX1_turnToward 96 = .ok (.iload 6, 2) := by decide +kernel
theorem dX1_turnToward_98 : decode cX1_turnToward 98 = .ok (.ifCond .ne 27, 3) := by decide +kernel
theorem dX1_turnToward_101 : decode cX1_turnToward 101 = .ok (.iload 7, 2) := by decide +kernel
theorem dX1_turnToward_103 : decode cX1_turnToward 103 = .ok (.ifCond .ge 22, 3) := by decide +kernel
theorem dX1_turnToward_106 : decode cX1_turnToward 106 = .ok (.aload_n 0, 1) := by decide +kernel
theorem dX1_turnToward_107 : decode cX1_turnToward 107 = .ok (.aload_n 1, 1) := by decide +kernel
theorem dX1_turnToward_108 : decode cX1_turnToward 108 = .ok (.aload_n 2, 1) := by decide +kernel
theorem dX1_turnToward_109 : decode cX1_turnToward 109 = .ok (.iload 5, 2) := by decide +kernel
theorem dX1_turnToward_111 : decode cX1_turnToward 111 = .ok (.iload 4, 2) := by decide +kernel
theorem dX1_turnToward_113 : decode cX1_turnToward 113 = .ok (.invokevirtual 95, 3) := by decide +kernel
theorem dX1_turnToward_116 : decode cX1_turnToward 116 = .ok (.bipush 16, 2) := by decide +kernel
theorem dX1_turnToward_118 : decode cX1_turnToward 118 = .ok (.iload 4, 2) := by decide +kernel
theorem dX1_turnToward_120 : decode cX1_turnToward 120 = .ok (.imul, 1) := by decide +kernel
theorem dX1_turnToward_121 : decode cX1_turnToward 121 = .ok (.iload 5, 2) := by decide +kernel
theorem dX1_turnToward_123 : decode cX1_turnToward 123 = .ok (.iadd, 1) := by decide +kernel
theorem dX1_turnToward_124 : decode cX1_turnToward 124 = .ok (.ireturn, 1) := by decide +kernel
theorem dX1_turnToward_125 : decode cX1_turnToward 125 = .ok (.iinc 5 1, 3) := by decide +kernel
theorem dX1_turnToward_128 : decode cX1_turnToward 128 = .ok (.goto (-93), 3) := by decide +kernel
theorem dX1_turnToward_131 : decode cX1_turnToward 131 = .ok (.iinc 4 1, 3) := by decide +kernel
theorem dX1_turnToward_134 : decode cX1_turnToward 134 = .ok (.goto (-111), 3) := by decide +kernel
theorem dX1_turnToward_137 : decode cX1_turnToward 137 = .ok (.iconst (-1), 1) := by decide +kernel
theorem dX1_turnToward_138 : decode cX1_turnToward 138 = .ok (.ireturn, 1) := by decide +kernel
theorem dX2_init_0 : decode cX2_init 0 = .ok (.aload_n 0, 1) := by decide +kernel
theorem dX2_init_1 : decode cX2_init 1 = .ok (.invokespecial 3, 3) := by decide +kernel
theorem dX2_init_4 : decode cX2_init 4 = .ok (.aload_n 0, 1) := by decide +kernel
theorem dX2_init_5 : decode cX2_init 5 = .ok (.bipush 64, 2) := by decide +kernel
theorem dX2_init_7 : decode cX2_init 7 = .ok (.newarray .int, 2) := by decide +kernel
theorem dX2_init_9 : decode cX2_init 9 = .ok (.putfield 9, 3) := by decide +kernel
theorem dX2_init_12 : decode cX2_init 12 = .ok (.aload_n 0, 1) := by decide +kernel
theorem dX2_init_13 : decode cX2_init 13 = .ok (.bipush 64, 2) := by decide +kernel
theorem dX2_init_15 : decode cX2_init 15 = .ok (.newarray .int, 2) := by decide +kernel
theorem dX2_init_17 : decode cX2_init 17 = .ok (.putfield 15, 3) := by decide +kernel
theorem dX2_init_20 : decode cX2_init 20 = .ok (.aload_n 0, 1) := by decide +kernel
theorem dX2_init_21 : decode cX2_init 21 = .ok (.bipush 64, 2) := by decide +kernel
theorem dX2_init_23 : decode cX2_init 23 = .ok (.newarray .int, 2) := by decide +kernel
theorem dX2_init_25 : decode cX2_init 25 = .ok (.putfield 18, 3) := by decide +kernel
theorem dX2_init_28 : decode cX2_init 28 = .ok (.aload_n 0, 1) := by decide +kernel
theorem dX2_init_29 : decode cX2_init 29 = .ok (.new 21, 3) := by decide +kernel
theorem dX2_init_32 : decode cX2_init 32 = .ok (.dup, 1) := by decide +kernel
theorem dX2_init_33 : decode cX2_init 33 = .ok (.invokespecial 23, 3) := by decide +kernel
theorem dX2_init_36 : decode cX2_init 36 = .ok (.putfield 24, 3) := by decide +kernel
theorem dX2_init_39 : decode cX2_init 39 = .ok (.return_, 1) := by decide +kernel
theorem dX2_find_0 : decode cX2_find 0 = .ok (.iconst 0, 1) := by decide +kernel
theorem dX2_find_1 : decode cX2_find 1 = .ok (.istore_n 2, 1) := by decide +kernel
theorem dX2_find_2 : decode cX2_find 2 = .ok (.aload_n 0, 1) := by decide +kernel
theorem dX2_find_3 : decode cX2_find 3 = .ok (.getfield 9, 3) := by decide +kernel
theorem dX2_find_6 : decode cX2_find 6 = .ok (.iconst (-1), 1) := by decide +kernel
theorem dX2_find_7 : decode cX2_find 7 = .ok (.invokestatic 28, 3) := by decide +kernel
theorem dX2_find_10 : decode cX2_find 10 = .ok (.iconst 0, 1) := by decide +kernel
theorem dX2_find_11 : decode cX2_find 11 = .ok (.istore_n 3, 1) := by decide +kernel
theorem dX2_find_12 : decode cX2_find 12 = .ok (.iload_n 3, 1) := by decide +kernel
theorem dX2_find_13 : decode cX2_find 13 = .ok (.aload_n 1, 1) := by decide +kernel
theorem dX2_find_14 : decode cX2_find 14 = .ok (.invokevirtual 34, 3) := by decide +kernel
theorem dX2_find_17 : decode cX2_find 17 = .ok (.if_icmp .ge 38, 3) := by decide +kernel
theorem dX2_find_20 : decode cX2_find 20 = .ok (.aload_n 1, 1) := by decide +kernel
theorem dX2_find_21 : decode cX2_find 21 = .ok (.getfield 40, 3) := by decide +kernel
theorem dX2_find_24 : decode cX2_find 24 = .ok (.iload_n 3, 1) := by decide +kernel
theorem dX2_find_25 : decode cX2_find 25 = .ok (.baload, 1) := by decide +kernel
theorem dX2_find_26 : decode cX2_find 26 = .ok (.ifCond .eq 23, 3) := by decide +kernel
theorem dX2_find_29 : decode cX2_find 29 = .ok (.aload_n 1, 1) := by decide +kernel
theorem dX2_find_30 : decode cX2_find 30 = .ok (.iload_n 3, 1) := by decide +kernel
theorem dX2_find_31 : decode cX2_find 31 = .ok (.invokevirtual 44, 3) := by decide +kernel
theorem dX2_find_34 : decode cX2_find 34 = .ok (.ifCond .eq 15, 3) := by decide +kernel
theorem dX2_find_37 : decode cX2_find 37 = .ok (.iload_n 2, 1) := by decide +kernel
theorem dX2_find_38 : decode cX2_find 38 = .ok (.aload_n 0, 1) := by decide +kernel
theorem dX2_find_39 : decode cX2_find 39 = .ok (.aload_n 1, 1) := by decide +kernel
theorem dX2_find_40 : decode cX2_find 40 = .ok (.iload_n 3, 1) := by decide +kernel
theorem dX2_find_41 : decode cX2_find 41 = .ok (.invokevirtual 48, 3) := by decide +kernel
theorem dX2_find_44 : decode cX2_find 44 = .ok (.invokestatic 52, 3) := by decide +kernel
theorem dX2_find_47 : decode cX2_find 47 = .ok (.iadd, 1) := by decide +kernel
theorem dX2_find_48 : decode cX2_find 48 = .ok (.istore_n 2, 1) := by decide +kernel
theorem dX2_find_49 : decode cX2_find 49 = .ok (.iinc 3 1, 3) := by decide +kernel
theorem dX2_find_52 : decode cX2_find 52 = .ok (.goto (-40), 3) := by decide +kernel
theorem dX2_find_55 : decode cX2_find 55 = .ok (.iload_n 2, 1) := by decide +kernel
theorem dX2_find_56 : decode cX2_find 56 = .ok (.ireturn, 1) := by decide +kernel
theorem dX2_findMateFor_0 : decode cX2_findMateFor 0 = .ok (.aload_n 0, 1) := by decide +kernel
theorem dX2_findMateFor_1 : decode cX2_findMateFor 1 = .ok (.getfield 15, 3) := by decide +kernel
theorem dX2_findMateFor_4 : decode cX2_findMateFor 4 = .ok (.iconst (-1), 1) := by decide +kernel
theorem dX2_findMateFor_5 : decode cX2_findMateFor 5 = .ok (.invokestatic 28, 3) := by decide +kernel
theorem dX2_findMateFor_8 : decode cX2_findMateFor 8 = .ok (.aload_n 0, 1) := by decide +kernel
theorem dX2_findMateFor_9 : decode cX2_findMateFor 9 = .ok (.getfield 24, 3) := by decide +kernel
theorem dX2_findMateFor_12 : decode cX2_findMateFor 12 = .ok (.invokevirtual 56, 3) := by decide +kernel
theorem dX2_findMateFor_15 : decode cX2_findMateFor 15 = .ok (.aload_n 0, 1) := by decide +kernel
theorem dX2_findMateFor_16 : decode cX2_findMateFor 16 = .ok (.getfield 24, 3) := by decide +kernel
theorem dX2_findMateFor_19 : decode cX2_findMateFor 19 = .ok (.iload_n 2, 1) := by decide +kernel
theorem dX2_findMateFor_20 : decode cX2_findMateFor 20 = .ok (.invokevirtual 59, 3) := by decide +kernel
theorem dX2_findMateFor_23 : decode cX2_findMateFor 23 = .ok (.pop, 1) := by decide +kernel
theorem dX2_findMateFor_24 : decode cX2_findMateFor 24 = .ok (.iconst 0, 1) := by decide +kernel
theorem dX2_findMateFor_25 : decode cX2_findMateFor 25 = .ok (.istore_n 3, 1) := by decide +kernel
theorem dX2_findMateFor_26 : decode cX2_findMateFor 26 = .ok (.iload_n 3, 1) := by decide +kernel
theorem dX2_findMateFor_27 : decode cX2_findMateFor 27 = .ok (.bipush 100, 2) := by decide +kernel
theorem dX2_findMateFor_29 : decode cX2_findMateFor 29 = .ok (.if_icmp .ge 116, 3) := by decide +kernel
theorem dX2_findMateFor_32 : decode cX2_findMateFor 32 = .ok (.iload_n 3, 1) := by decide +kernel
theorem dX2_findMateFor_33 : decode cX2_findMateFor 33 = .ok (.aload_n 0, 1) := by decide +kernel
theorem dX2_findMateFor_34 : decode cX2_findMateFor 34 = .ok (.getfield 24, 3) := by decide +kernel
theorem dX2_findMateFor_37 : decode cX2_findMateFor 37 = .ok (.getfield 62, 3) := by decide +kernel
theorem dX2_findMateFor_40 : decode cX2_findMateFor 40 = .ok (.if_icmp .ge 105, 3) := by decide +kernel
theorem dX2_findMateFor_43 : decode cX2_findMateFor 43 = .ok (.aload_n 0, 1) := by decide +kernel
theorem dX2_findMateFor_44 : decode cX2_findMateFor 44 = .ok (.getfield 24, 3) := by decide +kernel
theorem dX2_findMateFor_47 : decode cX2_findMateFor 47 = .ok (.getfield 66, 3) := by decide +kernel
theorem dX2_findMateFor_50 : decode cX2_findMateFor 50 = .ok (.iload_n 3, 1) := by decide +kernel
theorem dX2_findMateFor_51 : decode cX2_findMateFor 51 = .ok (.iaload, 1) := by decide +kernel
theorem dX2_findMateFor_52 : decode cX2_findMateFor 52 = .ok (.istore 4, 2) := by decide +kernel
theorem dX2_findMateFor_54 : decode cX2_findMateFor 54 = .ok (.iconst 0, 1) := by decide +kernel
theorem dX2_findMateFor_55 : decode cX2_findMateFor 55 = .ok (.istore 5, 2) := by decide +kernel
theorem dX2_findMateFor_57 : decode cX2_findMateFor 57 = .ok (.iload 5, 2) := by decide +kernel
theorem dX2_findMateFor_59 : decode cX2_findMateFor 59 = .ok (.iconst 4, 1) := by decide +kernel
theorem dX2_findMateFor_60 : decode cX2_findMateFor 60 = .ok (.if_icmp .ge 79, 3) := by decide +kernel
theorem dX2_findMateFor_63 : decode cX2_findMateFor 63 = .ok (.aload_n 1, 1) := by decide +kernel
theorem dX2_findMateFor_64 : decode cX2_findMateFor 64 = .ok (.iload 4, 2) := by decide +kernel
theorem dX2_findMateFor_66 : decode cX2_findMateFor 66 = .ok (.iload 5, 2) := by decide +kernel
theorem dX2_findMateFor_68 : decode cX2_findMateFor 68 = .ok (.invokevirtual 69, 3) := by decide +kernel
theorem dX2_findMateFor_71 : decode cX2_findMateFor 71 = .ok (.istore 6, 2) := by decide +kernel
theorem dX2_findMateFor_73 : decode cX2_findMateFor 73 = .ok (.iload 6, 2) := by decide +kernel
theorem dX2_findMateFor_75 : decode cX2_findMateFor 75 = .ok (.ifCond .lt 58, 3) := by decide +kernel
theorem dX2_findMateFor_78 : decode cX2_findMateFor 78 = .ok (.aload_n 0, 1) := by decide +kernel
theorem dX2_findMateFor_79 : decode cX2_findMateFor 79 = .ok (.getfield 15, 3) := by decide +kernel
theorem dX2_findMateFor_82 : decode cX2_findMateFor 82 = .ok (.iload 6, 2) := by decide +kernel
theorem dX2_findMateFor_84 : decode cX2_findMateFor 84 = .ok (.iaload, 1) := by decide +kernel
theorem dX2_findMateFor_85 : decode cX2_findMateFor 85 = .ok (.ifCond .lt 6, 3) := by decide +kernel
theorem dX2_findMateFor_88 : decode cX2_findMateFor 88 = .ok (.goto 45, 3) := by decide +kernel
theorem dX2_findMateFor_91 : decode cX2_findMateFor 91 = .ok (.aload_n 0, 1) := by decide +kernel
theorem dX2_findMateFor_92 : decode cX2_findMateFor 92 = .ok (.getfield 15, 3) := by decide +kernel
theorem dX2_findMateFor_95 : decode cX2_findMateFor 95 = .ok (.iload 6, 2) := by decide +kernel
theorem dX2_findMateFor_97 : decode cX2_findMateFor 97 = .ok (.iload 4, 2) := by decide +kernel
theorem dX2_findMateFor_99 : decode cX2_findMateFor 99 = .ok (.iastore, 1) := by decide +kernel
theorem dX2_findMateFor_100 : decode cX2_findMateFor 100 = .ok (.aload_n 0, 1) := by decide +kernel
theorem dX2_findMateFor_101 : decode cX2_findMateFor 101 = .ok (.getfield 9, 3) := by decide +kernel
theorem dX2_findMateFor_104 : decode cX2_findMateFor 104 = .ok (.iload 6, 2) := by decide +kernel
theorem dX2_findMateFor_106 : decode cX2_findMateFor 106 = .ok (.iaload, 1) := by decide +kernel
theorem dX2_findMateFor_107 : decode cX2_findMateFor 107 = .ok (.ifCond .ge 11, 3) := by decide +kernel
theorem dX2_findMateFor_110 : decode cX2_findMateFor 110 = .ok (.aload_n 0, 1) := by decide +kernel
theorem dX2_findMateFor_111 : decode cX2_findMateFor 111 = .ok (.iload 6, 2) := by decide +kernel
theorem dX2_findMateFor_113 : decode cX2_findMateFor 113 = .ok (.invokevirtual 73, 3) := by decide +kernel
theorem dX2_findMateFor_116 : decode cX2_findMateFor 116 = .ok (.iconst 1, 1) := by decide +kernel
theorem dX2_findMateFor_117 : decode cX2_findMateFor 117 = .ok (.ireturn, 1) := by decide +kernel
theorem dX2_findMateFor_118 : decode cX2_findMateFor 118 = .ok (.aload_n 0, 1) := by decide +kernel
theorem dX2_findMateFor_119 : decode cX2_findMateFor 119 = .ok (.getfield 24, 3) := by decide +kernel
theorem dX2_findMateFor_122 : decode cX2_findMateFor 122 = .ok (.aload_n 0, 1) := by decide +kernel
theorem dX2_findMateFor_123 : decode cX2_findMateFor 123 = .ok (.getfield 9, 3) := by decide +kernel
theorem dX2_findMateFor_126 : decode cX2_findMateFor 126 = .ok (.iload 6, 2) := by decide +kernel
theorem dX2_findMateFor_128 : decode cX2_findMateFor 128 = .ok (.iaload, 1) := by decide +kernel
theorem dX2_findMateFor_129 : decode cX2_findMateFor 129 = .ok (.invokevirtual 59, 3) := by decide +kernel
theorem dX2_findMateFor_132 : decode cX2_findMateFor 132 = .ok (.pop, 1) := by decide +kernel
theorem dX2_findMateFor_133 : decode cX2_findMateFor 133 = .ok (.iinc 5 1, 3) := by decide +kernel
theorem dX2_findMateFor_136 : decode cX2_findMateFor 136 = .ok (.goto (-79), 3) := by decide +kernel
theorem dX2_findMateFor_139 : decode cX2_findMateFor 139 = .ok (.iinc 3 1, 3) := by decide +kernel
theorem dX2_findMateFor_142 : decode cX2_findMateFor 142 = .ok (.goto (-116), 3) := by decide +kernel
theorem dX2_findMateFor_145 : decode cX2_findMateFor 145 = .ok (.iconst 0, 1) := by decide +kernel
theorem dX2_findMateFor_146 : decode cX2_findMateFor 146 = .ok (.ireturn, 1) := by decide +kernel
theorem dX2_swapPath_0 : decode cX2_swapPath 0 = .ok (.iload_n 1, 1) := by decide +kernel
theorem dX2_swapPath_1 : decode cX2_swapPath 1 = .ok (.istore_n 2, 1) := by decide +kernel
theorem dX2_swapPath_2 : decode cX2_swapPath 2 = .ok (.iconst 0, 1) := by decide +kernel
theorem dX2_swapPath_3 : decode cX2_swapPath 3 = .ok (.istore_n 3, 1) := by decide +kernel
theorem dX2_swapPath_4 : decode cX2_swapPath 4 = .ok (.iload_n 3, 1) := by decide +kernel
theorem dX2_swapPath_5 : decode cX2_swapPath 5 = .ok (.bipush 64, 2) := by decide +kernel
theorem dX2_swapPath_7 : decode cX2_swapPath 7 = .ok (.if_icmp .ge 55, 3) := by decide +kernel
theorem dX2_swapPath_10 : decode cX2_swapPath 10 = .ok (.iload_n 2, 1) := by decide +kernel
theorem dX2_swapPath_11 : decode cX2_swapPath 11 = .ok (.ifCond .lt 51, 3) := by decide +kernel
theorem dX2_swapPath_14 : decode cX2_swapPath 14 = .ok (.aload_n 0, 1) := by decide +kernel
theorem dX2_swapPath_15 : decode cX2_swapPath 15 = .ok (.getfield 15, 3) := by decide +kernel
theorem dX2_swapPath_18 : decode cX2_swapPath 18 = .ok (.iload_n 2, 1) := by decide +kernel
theorem dX2_swapPath_19 : decode cX2_swapPath 19 = .ok (.iaload, 1) := by decide +kernel
theorem dX2_swapPath_20 : decode cX2_swapPath 20 = .ok (.istore 4, 2) := by decide +kernel
theorem dX2_swapPath_22 : decode cX2_swapPath 22 = .ok (.iload 4, 2) := by decide +kernel
theorem dX2_swapPath_24 : decode cX2_swapPath 24 = .ok (.ifCond .ge 4, 3) := by decide +kernel
theorem dX2_swapPath_27 : decode cX2_swapPath 27 = .ok (.return_, 1) := by decide +kernel
theorem dX2_swapPath_28 : decode cX2_swapPath 28 = .ok (.aload_n 0, 1) := by decide +kernel
theorem dX2_swapPath_29 : decode cX2_swapPath 29 = .ok (.getfield 9, 3) := by decide +kernel
theorem dX2_swapPath_32 : decode cX2_swapPath 32 = .ok (.iload 4, 2) := by decide +kernel
theorem dX2_swapPath_34 : decode cX2_swapPath 34 = .ok (.iaload, 1) := by decide +kernel
theorem dX2_swapPath_35 : decode cX2_swapPath 35 = .ok (.istore 5, 2) := by decide +kernel
theorem dX2_swapPath_37 : decode cX2_swapPath 37 = .ok (.aload_n 0, 1) := by decide +kernel
theorem dX2_swapPath_38 : decode cX2_swapPath 38 = .ok (.getfield 9, 3) := by decide +kernel
theorem dX2_swapPath_41 : decode cX2_swapPath 41 = .ok (.iload 4, 2) := by decide +kernel
theorem dX2_swapPath_43 : decode cX2_swapPath 43 = .ok (.iload_n 2, 1) := by decide +kernel
theorem dX2_swapPath_44 : decode cX2_swapPath 44 = .ok (.iastore, 1) := by decide +kernel
theorem dX2_swapPath_45 : decode cX2_swapPath 45 = .ok (.aload_n 0, 1) := by decide +kernel
theorem dX2_swapPath_46 : decode cX2_swapPath 46 = .ok (.getfield 9, 3) := by decide +kernel
theorem dX2_swapPath_49 : decode cX2_swapPath 49 = .ok (.iload_n 2, 1) := by decide +kernel
theorem dX2_swapPath_50 : decode cX2_swapPath 50 = .ok (.iload 4, 2) := by decide +kernel
theorem dX2_swapPath_52 : decode cX2_swapPath 52 = .ok (.iastore, 1) := by decide +kernel
theorem dX2_swapPath_53 : decode cX2_swapPath 53 = .ok (.iload 5, 2) := by decide +kernel
theorem dX2_swapPath_55 : decode cX2_swapPath 55 = .ok (.istore_n 2, 1) := by decide +kernel
theorem dX2_swapPath_56 : decode cX2_swapPath 56 = .ok (.iinc 3 1, 3) := by decide +kernel
theorem dX2_swapPath_59 : decode cX2_swapPath 59 = .ok (.goto (-55), 3) := by decide +kernel
theorem dX2_swapPath_62 : decode cX2_swapPath 62 = .ok (.return_, 1) := by decide +kernel
theorem dX2_markBar_0 : decode cX2_markBar 0 = .ok (.aload_n 0, 1) := by decide +kernel
theorem dX2_markBar_1 : decode cX2_markBar 1 = .ok (.aload_n 1, 1) := by decide +kernel
theorem dX2_markBar_2 : decode cX2_markBar 2 = .ok (.invokevirtual 77, 3) := by decide +kernel
theorem dX2_markBar_5 : decode cX2_markBar 5 = .ok (.pop, 1) := by decide +kernel
theorem dX2_markBar_6 : decode cX2_markBar 6 = .ok (.aload_n 0, 1) := by decide +kernel
theorem dX2_markBar_7 : decode cX2_markBar 7 = .ok (.getfield 18, 3) := by decide +kernel
theorem dX2_markBar_10 : decode cX2_markBar 10 = .ok (.iconst 0, 1) := by decide +kernel
theorem dX2_markBar_11 : decode cX2_markBar 11 = .ok (.invokestatic 28, 3) := by decide +kernel
theorem dX2_markBar_14 : decode cX2_markBar 14 = .ok (.aload_n 0, 1) := by decide +kernel
theorem dX2_markBar_15 : decode cX2_markBar 15 = .ok (.getfield 24, 3) := by decide +kernel
theorem dX2_markBar_18 : decode cX2_markBar 18 = .ok (.invokevirtual 56, 3) := by decide +kernel
theorem dX2_markBar_21 : decode cX2_markBar 21 = .ok (.iconst 0, 1) := by decide +kernel
theorem dX2_markBar_22 : decode cX2_markBar 22 = .ok (.istore_n 3, 1) := by decide +kernel
theorem dX2_markBar_23 : decode cX2_markBar 23 = .ok (.iload_n 3, 1) := by decide +kernel
theorem dX2_markBar_24 : decode cX2_markBar 24 = .ok (.aload_n 1, 1) := by decide +kernel
theorem dX2_markBar_25 : decode cX2_markBar 25 = .ok (.invokevirtual 34, 3) := by decide +kernel
theorem dX2_markBar_28 : decode cX2_markBar 28 = .ok (.if_icmp .ge 45, 3) := by decide +kernel
theorem dX2_markBar_31 : decode cX2_markBar 31 = .ok (.aload_n 1, 1) := by decide +kernel
theorem dX2_markBar_32 : decode cX2_markBar 32 = .ok (.getfield 40, 3) := by decide +kernel
theorem dX2_markBar_35 : decode cX2_markBar 35 = .ok (.iload_n 3, 1) := by decide +kernel
theorem dX2_markBar_36 : decode cX2_markBar 36 = .ok (.baload, 1) := by decide +kernel
theorem dX2_markBar_37 : decode cX2_markBar 37 = .ok (.ifCond .eq 30, 3) := by decide +kernel
theorem dX2_markBar_40 : decode cX2_markBar 40 = .ok (.aload_n 1, 1) := by decide +kernel
theorem dX2_markBar_41 : decode cX2_markBar 41 = .ok (.iload_n 3, 1) := by decide +kernel
theorem dX2_markBar_42 : decode cX2_markBar 42 = .ok (.invokevirtual 44, 3) := by decide +kernel
theorem dX2_markBar_45 : decode cX2_markBar 45 = .ok (.iload_n 2, 1) := by decide +kernel
theorem dX2_markBar_46 : decode cX2_markBar 46 = .ok (.if_icmp .ne 21, 3) := by decide +kernel
theorem dX2_markBar_49 : decode cX2_markBar 49 = .ok (.aload_n 0, 1) := by decide +kernel
theorem dX2_markBar_50 : decode cX2_markBar 50 = .ok (.getfield 9, 3) := by decide +kernel
theorem dX2_markBar_53 : decode cX2_markBar 53 = .ok (.iload_n 3, 1) := by decide +kernel
theorem dX2_markBar_54 : decode cX2_markBar 54 = .ok (.iaload, 1) := by decide +kernel
theorem dX2_markBar_55 : decode cX2_markBar 55 = .ok (.ifCond .ge 12, 3) := by decide +kernel
theorem dX2_markBar_58 : decode cX2_markBar 58 = .ok (.aload_n 0, 1) := by decide +kernel
theorem dX2_markBar_59 : decode cX2_markBar 59 = .ok (.getfield 24, 3) := by decide +kernel
theorem dX2_markBar_62 : decode cX2_markBar 62 = .ok (.iload_n 3, 1) := by decide +kernel
theorem dX2_markBar_63 : decode cX2_markBar 63 = .ok (.invokevirtual 59, 3) := by decide +kernel
theorem dX2_markBar_66 : decode cX2_markBar 66 = .ok (.pop, 1) := by decide +kernel
theorem dX2_markBar_67 : decode cX2_markBar 67 = .ok (.iinc 3 1, 3) := by decide +kernel
theorem dX2_markBar_70 : decode cX2_markBar 70 = .ok (.goto (-47), 3) := by decide +kernel
theorem dX2_markBar_73 : decode cX2_markBar 73 = .ok (.iconst 0, 1) := by decide +kernel
theorem dX2_markBar_74 : decode cX2_markBar 74 = .ok (.istore_n 3, 1) := by decide +kernel
theorem dX2_markBar_75 : decode cX2_markBar 75 = .ok (.iload_n 3, 1) := by decide +kernel
theorem dX2_markBar_76 : decode cX2_markBar 76 = .ok (.bipush 100, 2) := by decide +kernel
theorem dX2_markBar_78 : decode cX2_markBar 78 = .ok (.if_icmp .ge 95, 3) := by decide +kernel
theorem dX2_markBar_81 : decode cX2_markBar 81 = .ok (.iload_n 3, 1) := by decide +kernel
theorem dX2_markBar_82 : decode cX2_markBar 82 = .ok (.aload_n 0, 1) := by decide +kernel
theorem dX2_markBar_83 : decode cX2_markBar 83 = .ok (.getfield 24, 3) := by decide +kernel
theorem dX2_markBar_86 : decode cX2_markBar 86 = .ok (.getfield 62, 3) := by decide +kernel
theorem dX2_markBar_89 : decode cX2_markBar 89 = .ok (.if_icmp .ge 84, 3) := by decide +kernel
theorem dX2_markBar_92 : decode cX2_markBar 92 = .ok (.aload_n 0, 1) := by decide +kernel
theorem dX2_markBar_93 : decode cX2_markBar 93 = .ok (.getfield 24, 3) := by decide +kernel
theorem dX2_markBar_96 : decode cX2_markBar 96 = .ok (.getfield 66, 3) := by decide +kernel
theorem dX2_markBar_99 : decode cX2_markBar 99 = .ok (.iload_n 3, 1) := by decide +kernel
theorem dX2_markBar_100 : decode cX2_markBar 100 = .ok (.iaload, 1) := by decide +kernel
theorem dX2_markBar_101 : decode cX2_markBar 101 = .ok (.istore 4, 2) := by decide +kernel
theorem dX2_markBar_103 : decode cX2_markBar 103 = .ok (.aload_n 0, 1) := by decide +kernel
theorem dX2_markBar_104 : decode cX2_markBar 104 = .ok (.getfield 18, 3) := by decide +kernel
theorem dX2_markBar_107 : decode cX2_markBar 107 = .ok (.iload 4, 2) := by decide +kernel
theorem dX2_markBar_109 : decode cX2_markBar 109 = .ok (.iconst 2, 1) := by decide +kernel
theorem dX2_markBar_110 : decode cX2_markBar 110 = .ok (.iastore, 1) := by decide +kernel
theorem dX2_markBar_111 : decode cX2_markBar 111 = .ok (.iconst 0, 1) := by decide +kernel
theorem dX2_markBar_112 : decode cX2_markBar 112 = .ok (.istore 5, 2) := by decide +kernel
theorem dX2_markBar_114 : decode cX2_markBar 114 = .ok (.iload 5, 2) := by decide +kernel
theorem dX2_markBar_116 : decode cX2_markBar 116 = .ok (.iconst 4, 1) := by decide +kernel
theorem dX2_markBar_117 : decode cX2_markBar 117 = .ok (.if_icmp .ge 50, 3) := by decide +kernel
theorem dX2_markBar_120 : decode cX2_markBar 120 = .ok (.aload_n 1, 1) := by decide +kernel
theorem dX2_markBar_121 : decode cX2_markBar 121 = .ok (.iload 4, 2) := by decide +kernel
theorem dX2_markBar_123 : decode cX2_markBar 123 = .ok (.iload 5, 2) := by decide +kernel
theorem dX2_markBar_125 : decode cX2_markBar 125 = .ok (.invokevirtual 69, 3) := by decide +kernel
theorem dX2_markBar_128 : decode cX2_markBar 128 = .ok (.istore 6, 2) := by decide +kernel
theorem dX2_markBar_130 : decode cX2_markBar 130 = .ok (.iload 6, 2) := by decide +kernel
theorem dX2_markBar_132 : decode cX2_markBar 132 = .ok (.ifCond .ge 6, 3) := by decide +kernel
theorem dX2_markBar_135 : decode cX2_markBar 135 = .ok (.goto 26, 3) := by decide +kernel
theorem dX2_markBar_138 : decode cX2_markBar 138 = .ok (.aload_n 0, 1) := by decide +kernel
theorem dX2_markBar_139 : decode cX2_markBar 139 = .ok (.getfield 18, 3) := by decide +kernel
theorem dX2_markBar_142 : decode cX2_markBar 142 = .ok (.iload 6, 2) := by decide +kernel
theorem dX2_markBar_144 : decode cX2_markBar 144 = .ok (.iconst 1, 1) := by decide +kernel
theorem dX2_markBar_145 : decode cX2_markBar 145 = .ok (.iastore, 1) := by decide +kernel
theorem dX2_markBar_146 : decode cX2_markBar 146 = .ok (.aload_n 0, 1) := by decide +kernel
theorem dX2_markBar_147 : decode cX2_markBar 147 = .ok (.getfield 24, 3) := by decide +kernel
theorem dX2_markBar_150 : decode cX2_markBar 150 = .ok (.aload_n 0, 1) := by decide +kernel
theorem dX2_markBar_151 : decode cX2_markBar 151 = .ok (.getfield 9, 3) := by decide +kernel
theorem dX2_markBar_154 : decode cX2_markBar 154 = .ok (.iload 6, 2) := by decide +kernel
theorem dX2_markBar_156 : decode cX2_markBar 156 = .ok (.iaload, 1) := by decide +kernel
theorem dX2_markBar_157 : decode cX2_markBar 157 = .ok (.invokevirtual 59, 3) := by decide +kernel
theorem dX2_markBar_160 : decode cX2_markBar 160 = .ok (.pop, 1) := by decide +kernel
theorem dX2_markBar_161 : decode cX2_markBar 161 = .ok (.iinc 5 1, 3) := by decide +kernel
theorem dX2_markBar_164 : decode cX2_markBar 164 = .ok (.goto (-50), 3) := by decide +kernel
theorem dX2_markBar_167 : decode cX2_markBar 167 = .ok (.iinc 3 1, 3) := by decide +kernel
theorem dX2_markBar_170 : decode cX2_markBar 170 = .ok (.goto (-95), 3) := by decide +kernel
theorem dX2_markBar_173 : decode cX2_markBar 173 = .ok (.return_, 1) := by decide +kernel
theorem dX2_marked_0 : decode cX2_marked 0 = .ok (.iconst 0, 1) := by decide +kernel
theorem dX2_marked_1 : decode cX2_marked 1 = .ok (.istore_n 3, 1) := by decide +kernel
theorem dX2_marked_2 : decode cX2_marked 2 = .ok (.iconst 0, 1) := by decide +kernel
theorem dX2_marked_3 : decode cX2_marked 3 = .ok (.istore 4, 2) := by decide +kernel
theorem dX2_marked_5 : decode cX2_marked 5 = .ok (.iload 4, 2) := by decide +kernel
theorem dX2_marked_7 : decode cX2_marked 7 = .ok (.aload_n 1, 1) := by decide +kernel
theorem dX2_marked_8 : decode cX2_marked 8 = .ok (.invokevirtual 34, 3) := by decide +kernel
theorem dX2_marked_11 : decode cX2_marked 11 = .ok (.if_icmp .ge 31, 3) := by decide +kernel
theorem dX2_marked_14 : decode cX2_marked 14 = .ok (.iload_n 3, 1) := by decide +kernel
theorem dX2_marked_15 : decode cX2_marked 15 = .ok (.aload_n 0, 1) := by decide +kernel
theorem dX2_marked_16 : decode cX2_marked 16 = .ok (.getfield 18, 3) := by decide +kernel
theorem dX2_marked_19 : decode cX2_marked 19 = .ok (.iload 4, 2) := by decide +kernel
theorem dX2_marked_21 : decode cX2_marked 21 = .ok (.iaload, 1) := by decide +kernel
theorem dX2_marked_22 : decode cX2_marked 22 = .ok (.iload_n 2, 1) := by decide +kernel
theorem dX2_marked_23 : decode cX2_marked 23 = .ok (.if_icmp .ne 7, 3) := by decide +kernel
theorem dX2_marked_26 : decode cX2_marked 26 = .ok (.iconst 1, 1) := by decide +kernel
theorem dX2_marked_27 : decode cX2_marked 27 = .ok (.goto 4, 3) := by decide +kernel
theorem dX2_marked_30 : decode cX2_marked 30 = .ok (.iconst 0, 1) := by decide +kernel
theorem dX2_marked_31 : decode cX2_marked 31 = .ok (.invokestatic 52, 3) := by decide +kernel
theorem dX2_marked_34 : decode cX2_marked 34 = .ok (.iadd, 1) := by decide +kernel
theorem dX2_marked_35 : decode cX2_marked 35 = .ok (.istore_n 3, 1) := by decide +kernel
theorem dX2_marked_36 : decode cX2_marked 36 = .ok (.iinc 4 1, 3) := by decide +kernel
theorem dX2_marked_39 : decode cX2_marked 39 = .ok (.goto (-34), 3) := by decide +kernel
theorem dX2_marked_42 : decode cX2_marked 42 = .ok (.iload_n 3, 1) := by decide +kernel
theorem dX2_marked_43 : decode cX2_marked 43 = .ok (.ireturn, 1) := by decide +kernel
theorem dX3_init_0 : decode cX3_init 0 = .ok (.aload_n 0, 1) := by decide +kernel
theorem dX3_init_1 : decode cX3_init 1 = .ok (.invokespecial 3, 3) := by decide +kernel
theorem dX3_init_4 : decode cX3_init 4 = .ok (.aload_n 0, 1) := by decide +kernel
theorem dX3_init_5 : decode cX3_init 5 = .ok (.bipush 64, 2) := by decide +kernel
theorem dX3_init_7 : decode cX3_init 7 = .ok (.newarray .int, 2) := by decide +kernel
theorem dX3_init_9 : decode cX3_init 9 = .ok (.putfield 9, 3) := by decide +kernel
theorem dX3_init_12 : decode cX3_init 12 = .ok (.return_, 1) := by decide +kernel
theorem dX3_put_0 : decode cX3_put 0 = .ok (.aload_n 0, 1) := by decide +kernel
theorem dX3_put_1 : decode cX3_put 1 = .ok (.getfield 9, 3) := by decide +kernel
theorem dX3_put_4 : decode cX3_put 4 = .ok (.iload_n 2, 1) := by decide +kernel
theorem dX3_put_5 : decode cX3_put 5 = .ok (.iconst 2, 1) := by decide +kernel
theorem dX3_put_6 : decode cX3_put 6 = .ok (.idiv, 1) := by decide +kernel
theorem dX3_put_7 : decode cX3_put 7 = .ok (.iload_n 2, 1) := by decide +kernel
theorem dX3_put_8 : decode cX3_put 8 = .ok (.iastore, 1) := by decide +kernel
theorem dX3_put_9 : decode cX3_put 9 = .ok (.aload_n 1, 1) := by decide +kernel
theorem dX3_put_10 : decode cX3_put 10 = .ok (.iload_n 2, 1) := by decide +kernel
theorem dX3_put_11 : decode cX3_put 11 = .ok (.invokevirtual 15, 3) := by decide +kernel
theorem dX3_put_14 : decode cX3_put 14 = .ok (.istore_n 3, 1) := by decide +kernel
theorem dX3_put_15 : decode cX3_put 15 = .ok (.iload_n 3, 1) := by decide +kernel
theorem dX3_put_16 : decode cX3_put 16 = .ok (.ifCond .lt 10, 3) := by decide +kernel
theorem dX3_put_19 : decode cX3_put 19 = .ok (.aload_n 0, 1) := by decide +kernel
theorem dX3_put_20 : decode cX3_put 20 = .ok (.getfield 9, 3) := by decide +kernel
theorem dX3_put_23 : decode cX3_put 23 = .ok (.iload_n 3, 1) := by decide +kernel
theorem dX3_put_24 : decode cX3_put 24 = .ok (.iload_n 2, 1) := by decide +kernel
theorem dX3_put_25 : decode cX3_put 25 = .ok (.iastore, 1) := by decide +kernel
theorem dX3_put_26 : decode cX3_put 26 = .ok (.return_, 1) := by decide +kernel
theorem dX3_take_0 : decode cX3_take 0 = .ok (.aload_n 0, 1) := by decide +kernel
theorem dX3_take_1 : decode cX3_take 1 = .ok (.iconst 1, 1) := by decide +kernel
theorem dX3_take_2 : decode cX3_take 2 = .ok (.putfield 21, 3) := by decide +kernel
theorem dX3_take_5 : decode cX3_take 5 = .ok (.aload_n 1, 1) := by decide +kernel
theorem dX3_take_6 : decode cX3_take 6 = .ok (.getfield 9, 3) := by decide +kernel
theorem dX3_take_9 : decode cX3_take 9 = .ok (.iconst 0, 1) := by decide +kernel
theorem dX3_take_10 : decode cX3_take 10 = .ok (.aload_n 0, 1) := by decide +kernel
theorem dX3_take_11 : decode cX3_take 11 = .ok (.getfield 9, 3) := by decide +kernel
theorem dX3_take_14 : decode cX3_take 14 = .ok (.iconst 0, 1) := by decide +kernel
theorem dX3_take_15 : decode cX3_take 15 = .ok (.bipush 64, 2) := by decide +kernel
theorem dX3_take_17 : decode cX3_take 17 = .ok (.invokestatic 25, 3) := by decide +kernel
theorem dX3_take_20 : decode cX3_take 20 = .ok (.return_, 1) := by decide +kernel
theorem dX3_takeBricks_0 : decode cX3_takeBricks 0 = .ok (.lconst 0, 1) := by decide +kernel
theorem dX3_takeBricks_1 : decode cX3_takeBricks 1 = .ok (.lstore_n 3, 1) := by decide +kernel
theorem dX3_takeBricks_2 : decode cX3_takeBricks 2 = .ok (.iconst 0, 1) := by decide +kernel
theorem dX3_takeBricks_3 : decode cX3_takeBricks 3 = .ok (.istore 5, 2) := by decide +kernel
theorem dX3_takeBricks_5 : decode cX3_takeBricks 5 = .ok (.iload 5, 2) := by decide +kernel
theorem dX3_takeBricks_7 : decode cX3_takeBricks 7 = .ok (.aload_n 2, 1) := by decide +kernel
theorem dX3_takeBricks_8 : decode cX3_takeBricks 8 = .ok (.getfield 31, 3) := by decide +kernel
theorem dX3_takeBricks_11 : decode cX3_takeBricks 11 = .ok (.if_icmp .ge 62, 3) := by decide +kernel
theorem dX3_takeBricks_14 : decode cX3_takeBricks 14 = .ok (.aload_n 2, 1) := by decide +kernel
theorem dX3_takeBricks_15 : decode cX3_takeBricks 15 = .ok (.getfield 37, 3) := by decide +kernel
theorem dX3_takeBricks_18 : decode cX3_takeBricks 18 = .ok (.iload 5, 2) := by decide +kernel
theorem dX3_takeBricks_20 : decode cX3_takeBricks 20 = .ok (.iaload, 1) := by decide +kernel
theorem dX3_takeBricks_21 : decode cX3_takeBricks 21 = .ok (.istore 6, 2) := by decide +kernel
theorem dX3_takeBricks_23 : decode cX3_takeBricks 23 = .ok (.aload_n 1, 1) := by decide +kernel
theorem dX3_takeBricks_24 : decode cX3_takeBricks 24 = .ok (.iload 6, 2) := by decide +kernel
theorem dX3_takeBricks_26 : decode cX3_takeBricks 26 = .ok (.invokevirtual 40, 3) := by decide +kernel
theorem dX3_takeBricks_29 : decode cX3_takeBricks 29 = .ok (.ifCond .ne 5, 3) := by decide +kernel
theorem dX3_takeBricks_32 : decode cX3_takeBricks 32 = .ok (.iconst 0, 1) := by decide +kernel
theorem dX3_takeBricks_33 : decode cX3_takeBricks 33 = .ok (.ireturn, 1) := by decide +kernel
theorem dX3_takeBricks_34 : decode cX3_takeBricks 34 = .ok (.lconst 1, 1) := by decide +kernel
theorem dX3_takeBricks_35 : decode cX3_takeBricks 35 = .ok (.iload 6, 2) := by decide +kernel
theorem dX3_takeBricks_37 : decode cX3_takeBricks 37 = .ok (.iconst 2, 1) := by decide +kernel
theorem dX3_takeBricks_38 : decode cX3_takeBricks 38 = .ok (.idiv, 1) := by decide +kernel
theorem dX3_takeBricks_39 : decode cX3_takeBricks 39 = .ok (.lshl, 1) := by decide +kernel
theorem dX3_takeBricks_40 : decode cX3_takeBricks 40 = .ok (.lconst 1, 1) := by decide +kernel
theorem dX3_takeBricks_41 : decode cX3_takeBricks 41 = .ok (.aload_n 1, 1) := by decide +kernel
theorem dX3_takeBricks_42 : decode cX3_takeBricks 42 = .ok (.iload 6, 2) := by decide +kernel
theorem dX3_takeBricks_44 : decode cX3_takeBricks 44 = .ok (.invokevirtual 15, 3) := by decide +kernel
theorem dX3_takeBricks_47 : decode cX3_takeBricks 47 = .ok (.lshl, 1) := by decide +kernel
theorem dX3_takeBricks_48 : decode cX3_takeBricks 48 = .ok (.lor, 1) := by decide +kernel
theorem dX3_takeBricks_49 : decode cX3_takeBricks 49 = .ok (.lstore 7, 2) := by decide +kernel
theorem dX3_takeBricks_51 : decode cX3_takeBricks 51 = .ok (.lload_n 3, 1) := by decide +kernel
theorem dX3_takeBricks_52 : decode cX3_takeBricks 52 = .ok (.lload 7, 2) := by decide +kernel
theorem dX3_takeBricks_54 : decode cX3_takeBricks 54 = .ok (.land, 1) := by decide +kernel
theorem dX3_takeBricks_55 : decode cX3_takeBricks 55 = .ok (.lconst 0, 1) := by decide +kernel
theorem dX3_takeBricks_56 : decode cX3_takeBricks 56 = .ok (.lcmp, 1) := by decide +kernel
theorem dX3_takeBricks_57 : decode cX3_takeBricks 57 = .ok (.ifCond .eq 5, 3) := by decide +kernel
theorem dX3_takeBricks_60 : decode cX3_takeBricks 60 = .ok (.iconst 0, 1) := by decide +kernel
theorem dX3_takeBricks_61 : decode cX3_takeBricks 61 = .ok (.ireturn, 1) := by decide +kernel
theorem dX3_takeBricks_62 : decode cX3_takeBricks 62 = .ok (.lload_n 3, 1) := by decide +kernel
theorem dX3_takeBricks_63 : decode cX3_takeBricks 63 = .ok (.lload 7, 2) := by decide +kernel
theorem dX3_takeBricks_65 : decode cX3_takeBricks 65 = .ok (.lor, 1) := by decide +kernel
theorem dX3_takeBricks_66 : decode cX3_takeBricks 66 = .ok (.lstore_n 3, 1) := by decide +kernel
theorem dX3_takeBricks_67 : decode cX3_takeBricks 67 = .ok (.iinc 5 1, 3) := by decide +kernel
theorem dX3_takeBricks_70 : decode cX3_takeBricks 70 = .ok (.goto (-65), 3) := by decide +kernel
theorem dX3_takeBricks_73 : decode cX3_takeBricks 73 = .ok (.iconst 2, 1) := by decide +kernel
theorem dX3_takeBricks_74 : decode cX3_takeBricks 74 = .ok (.aload_n 2, 1) := by decide +kernel
theorem dX3_takeBricks_75 : decode cX3_takeBricks 75 = .ok (.getfield 31, 3) := by decide +kernel
theorem dX3_takeBricks_78 : decode cX3_takeBricks 78 = .ok (.imul, 1) := by decide +kernel
theorem dX3_takeBricks_79 : decode cX3_takeBricks 79 = .ok (.aload_n 1, 1) := by decide +kernel
theorem dX3_takeBricks_80 : decode cX3_takeBricks 80 = .ok (.invokevirtual 44, 3) := by decide +kernel
theorem dX3_takeBricks_83 : decode cX3_takeBricks 83 = .ok (.if_icmp .eq 5, 3) := by decide +kernel
theorem dX3_takeBricks_86 : decode cX3_takeBricks 86 = .ok (.iconst 0, 1) := by decide +kernel
theorem dX3_takeBricks_87 : decode cX3_takeBricks 87 = .ok (.ireturn, 1) := by decide +kernel
theorem dX3_takeBricks_88 : decode cX3_takeBricks 88 = .ok (.iconst 0, 1) := by decide +kernel
theorem dX3_takeBricks_89 : decode cX3_takeBricks 89 = .ok (.istore 5, 2) := by decide +kernel
theorem dX3_takeBricks_91 : decode cX3_takeBricks 91 = .ok (.iload 5, 2) := by decide +kernel
theorem dX3_takeBricks_93 : decode cX3_takeBricks 93 = .ok (.aload_n 2, 1) := by decide +kernel
theorem dX3_takeBricks_94 : decode cX3_takeBricks 94 = .ok (.getfield 31, 3) := by decide +kernel
theorem dX3_takeBricks_97 : decode cX3_takeBricks 97 = .ok (.if_icmp .ge 21, 3) := by decide +kernel
theorem dX3_takeBricks_100 : decode cX3_takeBricks 100 = .ok (.aload_n 0, 1) := by decide +kernel
theorem dX3_takeBricks_101 : decode cX3_takeBricks 101 = .ok (.aload_n 1, 1) := by decide +kernel
theorem dX3_takeBricks_102 : decode cX3_takeBricks 102 = .ok (.aload_n 2, 1) := by decide +kernel
theorem dX3_takeBricks_103 : decode cX3_takeBricks 103 = .ok (.getfield 37, 3) := by decide +kernel
theorem dX3_takeBricks_106 : decode cX3_takeBricks 106 = .ok (.iload 5, 2) := by decide +kernel
theorem dX3_takeBricks_108 : decode cX3_takeBricks 108 = .ok (.iaload, 1) := by decide +kernel
theorem dX3_takeBricks_109 : decode cX3_takeBricks 109 = .ok (.invokevirtual 48, 3) := by decide +kernel
theorem dX3_takeBricks_112 : decode cX3_takeBricks 112 = .ok (.iinc 5 1, 3) := by decide +kernel
theorem dX3_takeBricks_115 : decode cX3_takeBricks 115 = .ok (.goto (-24), 3) := by decide +kernel
theorem dX3_takeBricks_118 : decode cX3_takeBricks 118 = .ok (.aload_n 0, 1) := by decide +kernel
theorem dX3_takeBricks_119 : decode cX3_takeBricks 119 = .ok (.iconst 1, 1) := by decide +kernel
theorem dX3_takeBricks_120 : decode cX3_takeBricks 120 = .ok (.putfield 21, 3) := by decide +kernel
theorem dX3_takeBricks_123 : decode cX3_takeBricks 123 = .ok (.iconst 1, 1) := by decide +kernel
theorem dX3_takeBricks_124 : decode cX3_takeBricks 124 = .ok (.ireturn, 1) := by decide +kernel
theorem dX3_startsAt_0 : decode cX3_startsAt 0 = .ok (.aload_n 1, 1) := by decide +kernel
theorem dX3_startsAt_1 : decode cX3_startsAt 1 = .ok (.getfield 52, 3) := by decide +kernel
theorem dX3_startsAt_4 : decode cX3_startsAt 4 = .ok (.iload_n 2, 1) := by decide +kernel
theorem dX3_startsAt_5 : decode cX3_startsAt 5 = .ok (.baload, 1) := by decide +kernel
theorem dX3_startsAt_6 : decode cX3_startsAt 6 = .ok (.ifCond .eq 19, 3) := by decide +kernel
theorem dX3_startsAt_9 : decode cX3_startsAt 9 = .ok (.aload_n 0, 1) := by decide +kernel
theorem dX3_startsAt_10 : decode cX3_startsAt 10 = .ok (.getfield 9, 3) := by decide +kernel
theorem dX3_startsAt_13 : decode cX3_startsAt 13 = .ok (.iload_n 2, 1) := by decide +kernel
theorem dX3_startsAt_14 : decode cX3_startsAt 14 = .ok (.iaload, 1) := by decide +kernel
theorem dX3_startsAt_15 : decode cX3_startsAt 15 = .ok (.iconst 2, 1) := by decide +kernel
theorem dX3_startsAt_16 : decode cX3_startsAt 16 = .ok (.idiv, 1) := by decide +kernel
theorem dX3_startsAt_17 : decode cX3_startsAt 17 = .ok (.iload_n 2, 1) := by decide +kernel
theorem dX3_startsAt_18 : decode cX3_startsAt 18 = .ok (.if_icmp .ne 7, 3) := by decide +kernel
theorem dX3_startsAt_21 : decode cX3_startsAt 21 = .ok (.iconst 1, 1) := by decide +kernel
theorem dX3_startsAt_22 : decode cX3_startsAt 22 = .ok (.goto 4, 3) := by decide +kernel
theorem dX3_startsAt_25 : decode cX3_startsAt 25 = .ok (.iconst 0, 1) := by decide +kernel
theorem dX3_startsAt_26 : decode cX3_startsAt 26 = .ok (.ireturn, 1) := by decide +kernel
theorem dX3_sumOfPrices_0 : decode cX3_sumOfPrices 0 = .ok (.iconst 0, 1) := by decide +kernel
theorem dX3_sumOfPrices_1 : decode cX3_sumOfPrices 1 = .ok (.istore_n 2, 1) := by decide +kernel
theorem dX3_sumOfPrices_2 : decode cX3_sumOfPrices 2 = .ok (.iconst 0, 1) := by decide +kernel
theorem dX3_sumOfPrices_3 : decode cX3_sumOfPrices 3 = .ok (.istore_n 3, 1) := by decide +kernel
theorem dX3_sumOfPrices_4 : decode cX3_sumOfPrices 4 = .ok (.iload_n 3, 1) := by decide +kernel
theorem dX3_sumOfPrices_5 : decode cX3_sumOfPrices 5 = .ok (.aload_n 1, 1) := by decide +kernel
theorem dX3_sumOfPrices_6 : decode cX3_sumOfPrices 6 = .ok (.invokevirtual 56, 3) := by decide +kernel
theorem dX3_sumOfPrices_9 : decode cX3_sumOfPrices 9 = .ok (.if_icmp .ge 32, 3) := by decide +kernel
theorem dX3_sumOfPrices_12 : decode cX3_sumOfPrices 12 = .ok (.aload_n 0, 1) := by decide +kernel
theorem dX3_sumOfPrices_13 : decode cX3_sumOfPrices 13 = .ok (.aload_n 1, 1) := by decide +kernel
theorem dX3_sumOfPrices_14 : decode cX3_sumOfPrices 14 = .ok (.iload_n 3, 1) := by decide +kernel
theorem dX3_sumOfPrices_15 : decode cX3_sumOfPrices 15 = .ok (.invokevirtual 59, 3) := by decide +kernel
theorem dX3_sumOfPrices_18 : decode cX3_sumOfPrices 18 = .ok (.ifCond .eq 17, 3) := by decide +kernel
theorem dX3_sumOfPrices_21 : decode cX3_sumOfPrices 21 = .ok (.iload_n 2, 1) := by decide +kernel
theorem dX3_sumOfPrices_22 : decode cX3_sumOfPrices 22 = .ok (.aload_n 1, 1) := by decide +kernel
theorem dX3_sumOfPrices_23 : decode cX3_sumOfPrices 23 = .ok (.getfield 63, 3) := by decide +kernel
theorem dX3_sumOfPrices_26 : decode cX3_sumOfPrices 26 = .ok (.aload_n 0, 1) := by decide +kernel
theorem dX3_sumOfPrices_27 : decode cX3_sumOfPrices 27 = .ok (.getfield 9, 3) := by decide +kernel
theorem dX3_sumOfPrices_30 : decode cX3_sumOfPrices 30 = .ok (.iload_n 3, 1) := by decide +kernel
theorem dX3_sumOfPrices_31 : decode cX3_sumOfPrices 31 = .ok (.iaload, 1) := by decide +kernel
theorem dX3_sumOfPrices_32 : decode cX3_sumOfPrices 32 = .ok (.iaload, 1) := by decide +kernel
theorem dX3_sumOfPrices_33 : decode cX3_sumOfPrices 33 = .ok (.iadd, 1) := by decide +kernel
theorem dX3_sumOfPrices_34 : decode cX3_sumOfPrices 34 = .ok (.istore_n 2, 1) := by decide +kernel
theorem dX3_sumOfPrices_35 : decode cX3_sumOfPrices 35 = .ok (.iinc 3 1, 3) := by decide +kernel
theorem dX3_sumOfPrices_38 : decode cX3_sumOfPrices 38 = .ok (.goto (-34), 3) := by decide +kernel
theorem dX3_sumOfPrices_41 : decode cX3_sumOfPrices 41 = .ok (.iload_n 2, 1) := by decide +kernel
theorem dX3_sumOfPrices_42 : decode cX3_sumOfPrices 42 = .ok (.ireturn, 1) := by decide +kernel
theorem dX3_linesNotCrossed_0 : decode cX3_linesNotCrossed 0 = .ok (.iconst 1, 1) := by decide +kernel
theorem dX3_linesNotCrossed_1 : decode cX3_linesNotCrossed 1 = .ok (.aload_n 1, 1) := by decide +kernel
theorem dX3_linesNotCrossed_2 : decode cX3_linesNotCrossed 2 = .ok (.getfield 66, 3) := by decide +kernel
theorem dX3_linesNotCrossed_5 : decode cX3_linesNotCrossed 5 = .ok (.ishl, 1) := by decide +kernel
theorem dX3_linesNotCrossed_6 : decode cX3_linesNotCrossed 6 = .ok (.iconst 2, 1) := by decide +kernel
theorem dX3_linesNotCrossed_7 : decode cX3_linesNotCrossed 7 = .ok (.isub, 1) := by decide +kernel
theorem dX3_linesNotCrossed_8 : decode cX3_linesNotCrossed 8 = .ok (.istore_n 2, 1) := by decide +kernel
theorem dX3_linesNotCrossed_9 : decode cX3_linesNotCrossed 9 = .ok (.iconst 0, 1) := by decide +kernel
theorem dX3_linesNotCrossed_10 : decode cX3_linesNotCrossed 10 = .ok (.istore_n 3, 1) := by decide +kernel
theorem dX3_linesNotCrossed_11 : decode cX3_linesNotCrossed 11 = .ok (.iload_n 3, 1) := by decide +kernel
theorem dX3_linesNotCrossed_12 : decode cX3_linesNotCrossed 12 = .ok (.aload_n 1, 1) := by decide +kernel
theorem dX3_linesNotCrossed_13 : decode cX3_linesNotCrossed 13 = .ok (.invokevirtual 56, 3) := by decide +kernel
theorem dX3_linesNotCrossed_16 : decode cX3_linesNotCrossed 16 = .ok (.if_icmp .ge 41, 3) := by decide +kernel
theorem dX3_linesNotCrossed_19 : decode cX3_linesNotCrossed 19 = .ok (.aload_n 0, 1) := by decide +kernel
theorem dX3_linesNotCrossed_20 : decode cX3_linesNotCrossed 20 = .ok (.aload_n 1, 1) := by decide +kernel
theorem dX3_linesNotCrossed_21 : decode cX3_linesNotCrossed 21 = .ok (.iload_n 3, 1) := by decide +kernel
theorem dX3_linesNotCrossed_22 : decode cX3_linesNotCrossed 22 = .ok (.invokevirtual 59, 3) := by decide +kernel
theorem dX3_linesNotCrossed_25 : decode cX3_linesNotCrossed 25 = .ok (.ifCond .eq 26, 3) := by decide +kernel
theorem dX3_linesNotCrossed_28 : decode cX3_linesNotCrossed 28 = .ok (.aload_n 0, 1) := by decide +kernel
theorem dX3_linesNotCrossed_29 : decode cX3_linesNotCrossed 29 = .ok (.getfield 9, 3) := by decide +kernel
theorem dX3_linesNotCrossed_32 : decode cX3_linesNotCrossed 32 = .ok (.iload_n 3, 1) := by decide +kernel
theorem dX3_linesNotCrossed_33 : decode cX3_linesNotCrossed 33 = .ok (.iaload, 1) := by decide +kernel
theorem dX3_linesNotCrossed_34 : decode cX3_linesNotCrossed 34 = .ok (.iconst 2, 1) := by decide +kernel
theorem dX3_linesNotCrossed_35 : decode cX3_linesNotCrossed 35 = .ok (.irem, 1) := by decide +kernel
theorem dX3_linesNotCrossed_36 : decode cX3_linesNotCrossed 36 = .ok (.ifCond .ne 15, 3) := by decide +kernel
theorem dX3_linesNotCrossed_39 : decode cX3_linesNotCrossed 39 = .ok (.iload_n 2, 1) := by decide +kernel
theorem dX3_linesNotCrossed_40 : decode cX3_linesNotCrossed 40 = .ok (.iconst 2, 1) := by decide +kernel
theorem dX3_linesNotCrossed_41 : decode cX3_linesNotCrossed 41 = .ok (.aload_n 1, 1) := by decide +kernel
theorem dX3_linesNotCrossed_42 : decode cX3_linesNotCrossed 42 = .ok (.iload_n 3, 1) := by decide +kernel
theorem dX3_linesNotCrossed_43 : decode cX3_linesNotCrossed 43 = .ok (.invokevirtual 69, 3) := by decide +kernel
theorem dX3_linesNotCrossed_46 : decode cX3_linesNotCrossed 46 = .ok (.ishl, 1) := by decide +kernel
theorem dX3_linesNotCrossed_47 : decode cX3_linesNotCrossed 47 = .ok (.iconst (-1), 1) := by decide +kernel
theorem dX3_linesNotCrossed_48 : decode cX3_linesNotCrossed 48 = .ok (.ixor, 1) := by decide +kernel
theorem dX3_linesNotCrossed_49 : decode cX3_linesNotCrossed 49 = .ok (.iand, 1) := by decide +kernel
theorem dX3_linesNotCrossed_50 : decode cX3_linesNotCrossed 50 = .ok (.istore_n 2, 1) := by decide +kernel
theorem dX3_linesNotCrossed_51 : decode cX3_linesNotCrossed 51 = .ok (.iinc 3 1, 3) := by decide +kernel
theorem dX3_linesNotCrossed_54 : decode cX3_linesNotCrossed 54 = .ok (.goto (-43), 3) := by decide +kernel
theorem dX3_linesNotCrossed_57 : decode cX3_linesNotCrossed 57 = .ok (.iload_n 2, 1) := by decide +kernel
theorem dX3_linesNotCrossed_58 : decode cX3_linesNotCrossed 58 = .ok (.ireturn, 1) := by decide +kernel
theorem dX4_init_0 : decode cX4_init 0 = .ok (.aload_n 0, 1) := by decide +kernel
theorem dX4_init_1 : decode cX4_init 1 = .ok (.invokespecial 3, 3) := by decide +kernel
theorem dX4_init_4 : decode cX4_init 4 = .ok (.aload_n 0, 1) := by decide +kernel
theorem dX4_init_5 : decode cX4_init 5 = .ok (.bipush 64, 2) := by decide +kernel
theorem dX4_init_7 : decode cX4_init 7 = .ok (.newarray .int, 2) := by decide +kernel
theorem dX4_init_9 : decode cX4_init 9 = .ok (.putfield 9, 3) := by decide +kernel
theorem dX4_init_12 : decode cX4_init 12 = .ok (.aload_n 0, 1) := by decide +kernel
theorem dX4_init_13 : decode cX4_init 13 = .ok (.bipush 64, 2) := by decide +kernel
theorem dX4_init_15 : decode cX4_init 15 = .ok (.newarray .int, 2) := by decide +kernel
theorem dX4_init_17 : decode cX4_init 17 = .ok (.putfield 15, 3) := by decide +kernel
theorem dX4_init_20 : decode cX4_init 20 = .ok (.return_, 1) := by decide +kernel
theorem dX4_trace_0 : decode cX4_trace 0 = .ok (.iconst 0, 1) := by decide +kernel
theorem dX4_trace_1 : decode cX4_trace 1 = .ok (.istore 4, 2) := by decide +kernel
theorem dX4_trace_3 : decode cX4_trace 3 = .ok (.aload_n 0, 1) := by decide +kernel
theorem dX4_trace_4 : decode cX4_trace 4 = .ok (.getfield 15, 3) := by decide +kernel
theorem dX4_trace_7 : decode cX4_trace 7 = .ok (.iconst (-1), 1) := by decide +kernel
theorem dX4_trace_8 : decode cX4_trace 8 = .ok (.invokestatic 18, 3) := by decide +kernel
theorem dX4_trace_11 : decode cX4_trace 11 = .ok (.iconst 0, 1) := by decide +kernel
theorem dX4_trace_12 : decode cX4_trace 12 = .ok (.istore 5, 2) := by decide +kernel
theorem dX4_trace_14 : decode cX4_trace 14 = .ok (.iload 5, 2) := by decide +kernel
theorem dX4_trace_16 : decode cX4_trace 16 = .ok (.aload_n 1, 1) := by decide +kernel
theorem dX4_trace_17 : decode cX4_trace 17 = .ok (.invokevirtual 24, 3) := by decide +kernel
theorem dX4_trace_20 : decode cX4_trace 20 = .ok (.if_icmp .ge 70, 3) := by decide +kernel
theorem dX4_trace_23 : decode cX4_trace 23 = .ok (.aload_n 1, 1) := by decide +kernel
theorem dX4_trace_24 : decode cX4_trace 24 = .ok (.getfield 30, 3) := by decide +kernel
theorem dX4_trace_27 : decode cX4_trace 27 = .ok (.iload 5, 2) := by decide +kernel
theorem dX4_trace_29 : decode cX4_trace 29 = .ok (.baload, 1) := by decide +kernel
theorem dX4_trace_30 : decode cX4_trace 30 = .ok (.ifCond .eq 54, 3) := by decide +kernel
theorem dX4_trace_33 : decode cX4_trace 33 = .ok (.aload_n 0, 1) := by decide +kernel
theorem dX4_trace_34 : decode cX4_trace 34 = .ok (.getfield 15, 3) := by decide +kernel
theorem dX4_trace_37 : decode cX4_trace 37 = .ok (.iload 5, 2) := by decide +kernel
theorem dX4_trace_39 : decode cX4_trace 39 = .ok (.iaload, 1) := by decide +kernel
theorem dX4_trace_40 : decode cX4_trace 40 = .ok (.ifCond .ge 44, 3) := by decide +kernel
theorem dX4_trace_43 : decode cX4_trace 43 = .ok (.aload_n 2, 1) := by decide +kernel
theorem dX4_trace_44 : decode cX4_trace 44 = .ok (.getfield 34, 3) := by decide +kernel
theorem dX4_trace_47 : decode cX4_trace 47 = .ok (.iload 5, 2) := by decide +kernel
theorem dX4_trace_49 : decode cX4_trace 49 = .ok (.iaload, 1) := by decide +kernel
theorem dX4_trace_50 : decode cX4_trace 50 = .ok (.aload_n 3, 1) := by decide +kernel
theorem dX4_trace_51 : decode cX4_trace 51 = .ok (.getfield 34, 3) := by decide +kernel
theorem dX4_trace_54 : decode cX4_trace 54 = .ok (.iload 5, 2) := by decide +kernel
theorem dX4_trace_56 : decode cX4_trace 56 = .ok (.iaload, 1) := by decide +kernel
theorem dX4_trace_57 : decode cX4_trace 57 = .ok (.if_icmp .ne 6, 3) := by decide +kernel
theorem dX4_trace_60 : decode cX4_trace 60 = .ok (.goto 24, 3) := by decide +kernel
theorem dX4_trace_63 : decode cX4_trace 63 = .ok (.aload_n 0, 1) := by decide +kernel
theorem dX4_trace_64 : decode cX4_trace 64 = .ok (.getfield 9, 3) := by decide +kernel
theorem dX4_trace_67 : decode cX4_trace 67 = .ok (.iload 4, 2) := by decide +kernel
theorem dX4_trace_69 : decode cX4_trace 69 = .ok (.aload_n 0, 1) := by decide +kernel
theorem dX4_trace_70 : decode cX4_trace 70 = .ok (.aload_n 1, 1) := by decide +kernel
theorem dX4_trace_71 : decode cX4_trace 71 = .ok (.aload_n 2, 1) := by decide +kernel
theorem dX4_trace_72 : decode cX4_trace 72 = .ok (.aload_n 3, 1) := by decide +kernel
theorem dX4_trace_73 : decode cX4_trace 73 = .ok (.iload 5, 2) := by decide +kernel
theorem dX4_trace_75 : decode cX4_trace 75 = .ok (.iload 4, 2) := by decide +kernel
theorem dX4_trace_77 : decode cX4_trace 77 = .ok (.invokevirtual 39, 3) := by decide +kernel
theorem dX4_trace_80 : decode cX4_trace 80 = .ok (.iastore, 1) := by decide +kernel
theorem dX4_trace_81 : decode cX4_trace 81 = .ok (.iinc 4 1, 3) := by decide +kernel
theorem dX4_trace_84 : decode cX4_trace 84 = .ok (.iinc 5 1, 3) := by decide +kernel
theorem dX4_trace_87 : decode cX4_trace 87 = .ok (.goto (-73), 3) := by decide +kernel
theorem dX4_trace_90 : decode cX4_trace 90 = .ok (.iload 4, 2) := by decide +kernel
theorem dX4_trace_92 : decode cX4_trace 92 = .ok (.ireturn, 1) := by decide +kernel
theorem dX4_goRound_0 : decode cX4_goRound 0 = .ok (.iconst 0, 1) := by decide +kernel
theorem dX4_goRound_1 : decode cX4_goRound 1 = .ok (.istore 6, 2) := by decide +kernel
theorem dX4_goRound_3 : decode cX4_goRound 3 = .ok (.iload 4, 2) := by decide +kernel
theorem dX4_goRound_5 : decode cX4_goRound 5 = .ok (.istore 7, 2) := by decide +kernel
theorem dX4_goRound_7 : decode cX4_goRound 7 = .ok (.iconst 0, 1) := by decide +kernel
theorem dX4_goRound_8 : decode cX4_goRound 8 = .ok (.istore 8, 2) := by decide +kernel
theorem dX4_goRound_10 : decode cX4_goRound 10 = .ok (.iload 8, 2) := by decide +kernel
theorem dX4_goRound_12 : decode cX4_goRound 12 = .ok (.bipush 64, 2) := by decide +kernel
theorem dX4_goRound_14 : decode cX4_goRound 14 = .ok (.if_icmp .ge 68, 3) := by decide +kernel
theorem dX4_goRound_17 : decode cX4_goRound 17 = .ok (.iload 7, 2) := by decide +kernel
theorem dX4_goRound_19 : decode cX4_goRound 19 = .ok (.ifCond .lt 63, 3) := by decide +kernel
theorem dX4_goRound_22 : decode cX4_goRound 22 = .ok (.aload_n 0, 1) := by decide +kernel
theorem dX4_goRound_23 : decode cX4_goRound 23 = .ok (.getfield 15, 3) := by decide +kernel
theorem dX4_goRound_26 : decode cX4_goRound 26 = .ok (.iload 7, 2) := by decide +kernel
theorem dX4_goRound_28 : decode cX4_goRound 28 = .ok (.iaload, 1) := by decide +kernel
theorem dX4_goRound_29 : decode cX4_goRound 29 = .ok (.ifCond .ge 53, 3) := by decide +kernel
theorem dX4_goRound_32 : decode cX4_goRound 32 = .ok (.aload_n 0, 1) := by decide +kernel
theorem dX4_goRound_33 : decode cX4_goRound 33 = .ok (.getfield 15, 3) := by decide +kernel
theorem dX4_goRound_36 : decode cX4_goRound 36 = .ok (.iload 7, 2) := by decide +kernel
theorem dX4_goRound_38 : decode cX4_goRound 38 = .ok (.iload 5, 2) := by decide +kernel
theorem dX4_goRound_40 : decode cX4_goRound 40 = .ok (.iastore, 1) := by decide +kernel
theorem dX4_goRound_41 : decode cX4_goRound 41 = .ok (.iinc 6 1, 3) := by decide +kernel
theorem dX4_goRound_44 : decode cX4_goRound 44 = .ok (.aload_n 1, 1) := by decide +kernel
theorem dX4_goRound_45 : decode cX4_goRound 45 = .ok (.iload 8, 2) := by decide +kernel
theorem dX4_goRound_47 : decode cX4_goRound 47 = .ok (.iconst 2, 1) := by decide +kernel
theorem dX4_goRound_48 : decode cX4_goRound 48 = .ok (.irem, 1) := by decide +kernel
theorem dX4_goRound_49 : decode cX4_goRound 49 = .ok (.ifCond .ne 13, 3) := by decide +kernel
theorem dX4_goRound_52 : decode cX4_goRound 52 = .ok (.aload_n 2, 1) := by decide +kernel
theorem dX4_goRound_53 : decode cX4_goRound 53 = .ok (.getfield 34, 3) := by decide +kernel
theorem dX4_goRound_56 : decode cX4_goRound 56 = .ok (.iload 7, 2) := by decide +kernel
theorem dX4_goRound_58 : decode cX4_goRound 58 = .ok (.iaload, 1) := by decide +kernel
theorem dX4_goRound_59 : decode cX4_goRound 59 = .ok (.goto 10, 3) := by decide +kernel
theorem dX4_goRound_62 : decode cX4_goRound 62 = .ok (.aload_n 3, 1) := by decide +kernel
theorem dX4_goRound_63 : decode cX4_goRound 63 = .ok (.getfield 34, 3) := by decide +kernel
theorem dX4_goRound_66 : decode cX4_goRound 66 = .ok (.iload 7, 2) := by decide +kernel
theorem dX4_goRound_68 : decode cX4_goRound 68 = .ok (.iaload, 1) := by decide +kernel
theorem dX4_goRound_69 : decode cX4_goRound 69 = .ok (.iload 7, 2) := by decide +kernel
theorem dX4_goRound_71 : decode cX4_goRound 71 = .ok (.invokestatic 43, 3) := by decide +kernel
theorem dX4_goRound_74 : decode cX4_goRound 74 = .ok (.istore 7, 2) := by decide +kernel
theorem dX4_goRound_76 : decode cX4_goRound 76 = .ok (.iinc 8 1, 3) := by decide +kernel
theorem dX4_goRound_79 : decode cX4_goRound 79 = .ok (.goto (-69), 3) := by decide +kernel
theorem dX4_goRound_82 : decode cX4_goRound 82 = .ok (.iload 6, 2) := by decide +kernel
theorem dX4_goRound_84 : decode cX4_goRound 84 = .ok (.ireturn, 1) := by decide +kernel
theorem dX4_otherEnd_0 : decode cX4_otherEnd 0 = .ok (.iload_n 1, 1) := by decide +kernel
theorem dX4_otherEnd_1 : decode cX4_otherEnd 1 = .ok (.iconst 2, 1) := by decide +kernel
theorem dX4_otherEnd_2 : decode cX4_otherEnd 2 = .ok (.idiv, 1) := by decide +kernel
theorem dX4_otherEnd_3 : decode cX4_otherEnd 3 = .ok (.iload_n 2, 1) := by decide +kernel
theorem dX4_otherEnd_4 : decode cX4_otherEnd 4 = .ok (.if_icmp .ne 11, 3) := by decide +kernel
theorem dX4_otherEnd_7 : decode cX4_otherEnd 7 = .ok (.aload_n 0, 1) := by decide +kernel
theorem dX4_otherEnd_8 : decode cX4_otherEnd 8 = .ok (.iload_n 1, 1) := by decide +kernel
theorem dX4_otherEnd_9 : decode cX4_otherEnd 9 = .ok (.invokevirtual 47, 3) := by decide +kernel
theorem dX4_otherEnd_12 : decode cX4_otherEnd 12 = .ok (.goto 6, 3) := by decide +kernel
theorem dX4_otherEnd_15 : decode cX4_otherEnd 15 = .ok (.iload_n 1, 1) := by decide +kernel
theorem dX4_otherEnd_16 : decode cX4_otherEnd 16 = .ok (.iconst 2, 1) := by decide +kernel
theorem dX4_otherEnd_17 : decode cX4_otherEnd 17 = .ok (.idiv, 1) := by decide +kernel
theorem dX4_otherEnd_18 : decode cX4_otherEnd 18 = .ok (.ireturn, 1) := by decide +kernel
theorem dX4_takeOver_0 : decode cX4_takeOver 0 = .ok (.iconst 0, 1) := by decide +kernel
theorem dX4_takeOver_1 : decode cX4_takeOver 1 = .ok (.istore 5, 2) := by decide +kernel
theorem dX4_takeOver_3 : decode cX4_takeOver 3 = .ok (.iload 5, 2) := by decide +kernel
theorem dX4_takeOver_5 : decode cX4_takeOver 5 = .ok (.aload_n 1, 1) := by decide +kernel
theorem dX4_takeOver_6 : decode cX4_takeOver 6 = .ok (.invokevirtual 24, 3) := by decide +kernel
theorem dX4_takeOver_9 : decode cX4_takeOver 9 = .ok (.if_icmp .ge 35, 3) := by decide +kernel
theorem dX4_takeOver_12 : decode cX4_takeOver 12 = .ok (.aload_n 0, 1) := by decide +kernel
theorem dX4_takeOver_13 : decode cX4_takeOver 13 = .ok (.getfield 15, 3) := by decide +kernel
theorem dX4_takeOver_16 : decode cX4_takeOver 16 = .ok (.iload 5, 2) := by decide +kernel
theorem dX4_takeOver_18 : decode cX4_takeOver 18 = .ok (.iaload, 1) := by decide +kernel
theorem dX4_takeOver_19 : decode cX4_takeOver 19 = .ok (.iload 4, 2) := by decide +kernel
theorem dX4_takeOver_21 : decode cX4_takeOver 21 = .ok (.if_icmp .ne 17, 3) := by decide +kernel
theorem dX4_takeOver_24 : decode cX4_takeOver 24 = .ok (.aload_n 2, 1) := by decide +kernel
theorem dX4_takeOver_25 : decode cX4_takeOver 25 = .ok (.getfield 34, 3) := by decide +kernel
theorem dX4_takeOver_28 : decode cX4_takeOver 28 = .ok (.iload 5, 2) := by decide +kernel
theorem dX4_takeOver_30 : decode cX4_takeOver 30 = .ok (.aload_n 3, 1) := by decide +kernel
theorem dX4_takeOver_31 : decode cX4_takeOver 31 = .ok (.getfield 34, 3) := by decide +kernel
theorem dX4_takeOver_34 : decode cX4_takeOver 34 = .ok (.iload 5, 2) := by decide +kernel
theorem dX4_takeOver_36 : decode cX4_takeOver 36 = .ok (.iaload, 1) := by decide +kernel
theorem dX4_takeOver_37 : decode cX4_takeOver 37 = .ok (.iastore, 1) := by decide +kernel
theorem dX4_takeOver_38 : decode cX4_takeOver 38 = .ok (.iinc 5 1, 3) := by decide +kernel
theorem dX4_takeOver_41 : decode cX4_takeOver 41 = .ok (.goto (-38), 3) := by decide +kernel
theorem dX4_takeOver_44 : decode cX4_takeOver 44 = .ok (.return_, 1) := by decide +kernel
theorem dX5_init_0 : decode cX5_init 0 = .ok (.aload_n 0, 1) := by decide +kernel
theorem dX5_init_1 : decode cX5_init 1 = .ok (.invokespecial 3, 3) := by decide +kernel
theorem dX5_init_4 : decode cX5_init 4 = .ok (.aload_n 0, 1) := by decide +kernel
theorem dX5_init_5 : decode cX5_init 5 = .ok (.new 9, 3) := by decide +kernel
theorem dX5_init_8 : decode cX5_init 8 = .ok (.dup, 1) := by decide +kernel
theorem dX5_init_9 : decode cX5_init 9 = .ok (.invokespecial 11, 3) := by decide +kernel
theorem dX5_init_12 : decode cX5_init 12 = .ok (.putfield 12, 3) := by decide +kernel
theorem dX5_init_15 : decode cX5_init 15 = .ok (.return_, 1) := by decide +kernel
theorem dX5_isWhole_0 : decode cX5_isWhole 0 = .ok (.aload_n 0, 1) := by decide +kernel
theorem dX5_isWhole_1 : decode cX5_isWhole 1 = .ok (.aload_n 1, 1) := by decide +kernel
theorem dX5_isWhole_2 : decode cX5_isWhole 2 = .ok (.invokevirtual 18, 3) := by decide +kernel
theorem dX5_isWhole_5 : decode cX5_isWhole 5 = .ok (.ifCond .eq 23, 3) := by decide +kernel
theorem dX5_isWhole_8 : decode cX5_isWhole 8 = .ok (.aload_n 0, 1) := by decide +kernel
theorem dX5_isWhole_9 : decode cX5_isWhole 9 = .ok (.aload_n 1, 1) := by decide +kernel
theorem dX5_isWhole_10 : decode cX5_isWhole 10 = .ok (.invokevirtual 22, 3) := by decide +kernel
theorem dX5_isWhole_13 : decode cX5_isWhole 13 = .ok (.ifCond .eq 15, 3) := by decide +kernel
theorem dX5_isWhole_16 : decode cX5_isWhole 16 = .ok (.aload_n 0, 1) := by decide +kernel
theorem dX5_isWhole_17 : decode cX5_isWhole 17 = .ok (.aload_n 1, 1) := by decide +kernel
theorem dX5_isWhole_18 : decode cX5_isWhole 18 = .ok (.invokevirtual 25, 3) := by decide +kernel
theorem dX5_isWhole_21 : decode cX5_isWhole 21 = .ok (.ifCond .ne 7, 3) := by decide +kernel
theorem dX5_isWhole_24 : decode cX5_isWhole 24 = .ok (.iconst 1, 1) := by decide +kernel
theorem dX5_isWhole_25 : decode cX5_isWhole 25 = .ok (.goto 4, 3) := by decide +kernel
theorem dX5_isWhole_28 : decode cX5_isWhole 28 = .ok (.iconst 0, 1) := by decide +kernel
theorem dX5_isWhole_29 : decode cX5_isWhole 29 = .ok (.ireturn, 1) := by decide +kernel
theorem dX5_openIsOne_0 : decode cX5_openIsOne 0 = .ok (.aload_n 0, 1) := by decide +kernel
theorem dX5_openIsOne_1 : decode cX5_openIsOne 1 = .ok (.getfield 12, 3) := by decide +kernel
theorem dX5_openIsOne_4 : decode cX5_openIsOne 4 = .ok (.invokevirtual 28, 3) := by decide +kernel
theorem dX5_openIsOne_7 : decode cX5_openIsOne 7 = .ok (.iconst 0, 1) := by decide +kernel
theorem dX5_openIsOne_8 : decode cX5_openIsOne 8 = .ok (.istore_n 2, 1) := by decide +kernel
theorem dX5_openIsOne_9 : decode cX5_openIsOne 9 = .ok (.iload_n 2, 1) := by decide +kernel
theorem dX5_openIsOne_10 : decode cX5_openIsOne 10 = .ok (.aload_n 1, 1) := by decide +kernel
theorem dX5_openIsOne_11 : decode cX5_openIsOne 11 = .ok (.invokevirtual 31, 3) := by decide +kernel
theorem dX5_openIsOne_14 : decode cX5_openIsOne 14 = .ok (.if_icmp .ge 37, 3) := by decide +kernel
theorem dX5_openIsOne_17 : decode cX5_openIsOne 17 = .ok (.aload_n 0, 1) := by decide +kernel
theorem dX5_openIsOne_18 : decode cX5_openIsOne 18 = .ok (.getfield 12, 3) := by decide +kernel
theorem dX5_openIsOne_21 : decode cX5_openIsOne 21 = .ok (.getfield 37, 3) := by decide +kernel
theorem dX5_openIsOne_24 : decode cX5_openIsOne 24 = .ok (.ifCond .ne 27, 3) := by decide +kernel
theorem dX5_openIsOne_27 : decode cX5_openIsOne 27 = .ok (.aload_n 1, 1) := by decide +kernel
theorem dX5_openIsOne_28 : decode cX5_openIsOne 28 = .ok (.getfield 41, 3) := by decide +kernel
theorem dX5_openIsOne_31 : decode cX5_openIsOne 31 = .ok (.iload_n 2, 1) := by decide +kernel
theorem dX5_openIsOne_32 : decode cX5_openIsOne 32 = .ok (.baload, 1) := by decide +kernel
theorem dX5_openIsOne_33 : decode cX5_openIsOne 33 = .ok (.ifCond .eq 12, 3) := by decide +kernel
theorem dX5_openIsOne_36 : decode cX5_openIsOne 36 = .ok (.aload_n 0, 1) := by decide +kernel
theorem dX5_openIsOne_37 : decode cX5_openIsOne 37 = .ok (.getfield 12, 3) := by decide +kernel
theorem dX5_openIsOne_40 : decode cX5_openIsOne 40 = .ok (.iload_n 2, 1) := by decide +kernel
theorem dX5_openIsOne_41 : decode cX5_openIsOne 41 = .ok (.invokevirtual 45, 3) := by decide +kernel
theorem dX5_openIsOne_44 : decode cX5_openIsOne 44 = .ok (.pop, 1) := by decide +kernel
theorem dX5_openIsOne_45 : decode cX5_openIsOne 45 = .ok (.iinc 2 1, 3) := by decide +kernel
theorem dX5_openIsOne_48 : decode cX5_openIsOne 48 = .ok (.goto (-39), 3) := by decide +kernel
theorem dX5_openIsOne_51 : decode cX5_openIsOne 51 = .ok (.iconst 0, 1) := by decide +kernel
theorem dX5_openIsOne_52 : decode cX5_openIsOne 52 = .ok (.istore_n 2, 1) := by decide +kernel
theorem dX5_openIsOne_53 : decode cX5_openIsOne 53 = .ok (.iload_n 2, 1) := by decide +kernel
theorem dX5_openIsOne_54 : decode cX5_openIsOne 54 = .ok (.bipush 100, 2) := by decide +kernel
theorem dX5_openIsOne_56 : decode cX5_openIsOne 56 = .ok (.if_icmp .ge 55, 3) := by decide +kernel
theorem dX5_openIsOne_59 : decode cX5_openIsOne 59 = .ok (.iload_n 2, 1) := by decide +kernel
theorem dX5_openIsOne_60 : decode cX5_openIsOne 60 = .ok (.aload_n 0, 1) := by decide +kernel
theorem dX5_openIsOne_61 : decode cX5_openIsOne 61 = .ok (.getfield 12, 3) := by decide +kernel
theorem dX5_openIsOne_64 : decode cX5_openIsOne 64 = .ok (.getfield 37, 3) := by decide +kernel
theorem dX5_openIsOne_67 : decode cX5_openIsOne 67 = .ok (.if_icmp .ge 44, 3) := by decide +kernel
theorem dX5_openIsOne_70 : decode cX5_openIsOne 70 = .ok (.iconst 0, 1) := by decide +kernel
theorem dX5_openIsOne_71 : decode cX5_openIsOne 71 = .ok (.istore_n 3, 1) := by decide +kernel
theorem dX5_openIsOne_72 : decode cX5_openIsOne 72 = .ok (.iload_n 3, 1) := by decide +kernel
theorem dX5_openIsOne_73 : decode cX5_openIsOne 73 = .ok (.iconst 4, 1) := by decide +kernel
theorem dX5_openIsOne_74 : decode cX5_openIsOne 74 = .ok (.if_icmp .ge 31, 3) := by decide +kernel
theorem dX5_openIsOne_77 : decode cX5_openIsOne 77 = .ok (.aload_n 0, 1) := by decide +kernel
theorem dX5_openIsOne_78 : decode cX5_openIsOne 78 = .ok (.getfield 12, 3) := by decide +kernel
theorem dX5_openIsOne_81 : decode cX5_openIsOne 81 = .ok (.aload_n 1, 1) := by decide +kernel
theorem dX5_openIsOne_82 : decode cX5_openIsOne 82 = .ok (.aload_n 0, 1) := by decide +kernel
theorem dX5_openIsOne_83 : decode cX5_openIsOne 83 = .ok (.getfield 12, 3) := by decide +kernel
theorem dX5_openIsOne_86 : decode cX5_openIsOne 86 = .ok (.getfield 49, 3) := by decide +kernel
theorem dX5_openIsOne_89 : decode cX5_openIsOne 89 = .ok (.iload_n 2, 1) := by decide +kernel
theorem dX5_openIsOne_90 : decode cX5_openIsOne 90 = .ok (.iaload, 1) := by decide +kernel
theorem dX5_openIsOne_91 : decode cX5_openIsOne 91 = .ok (.iload_n 3, 1) := by decide +kernel
theorem dX5_openIsOne_92 : decode cX5_openIsOne 92 = .ok (.invokevirtual 53, 3) := by decide +kernel
theorem dX5_openIsOne_95 : decode cX5_openIsOne 95 = .ok (.invokevirtual 45, 3) := by decide +kernel
theorem dX5_openIsOne_98 : decode cX5_openIsOne 98 = .ok (.pop, 1) := by decide +kernel
theorem dX5_openIsOne_99 : decode cX5_openIsOne 99 = .ok (.iinc 3 1, 3) := by decide +kernel
theorem dX5_openIsOne_102 : decode cX5_openIsOne 102 = .ok (.goto (-30), 3) := by decide +kernel
theorem dX5_openIsOne_105 : decode cX5_openIsOne 105 = .ok (.iinc 2 1, 3) := by decide +kernel
theorem dX5_openIsOne_108 : decode cX5_openIsOne 108 = .ok (.goto (-55), 3) := by decide +kernel
theorem dX5_openIsOne_111 : decode cX5_openIsOne 111 = .ok (.aload_n 0, 1) := by decide +kernel
theorem dX5_openIsOne_112 : decode cX5_openIsOne 112 = .ok (.getfield 12, 3) := by decide +kernel
theorem dX5_openIsOne_115 : decode cX5_openIsOne 115 = .ok (.getfield 37, 3) := by decide +kernel
theorem dX5_openIsOne_118 : decode cX5_openIsOne 118 = .ok (.ifCond .le 21, 3) := by decide +kernel
theorem dX5_openIsOne_121 : decode cX5_openIsOne 121 = .ok (.aload_n 0, 1) := by decide +kernel
theorem dX5_openIsOne_122 : decode cX5_openIsOne 122 = .ok (.getfield 12, 3) := by decide +kernel
theorem dX5_openIsOne_125 : decode cX5_openIsOne 125 = .ok (.getfield 37, 3) := by decide +kernel
theorem dX5_openIsOne_128 : decode cX5_openIsOne 128 = .ok (.aload_n 1, 1) := by decide +kernel
theorem dX5_openIsOne_129 : decode cX5_openIsOne 129 = .ok (.invokevirtual 57, 3) := by decide +kernel
theorem dX5_openIsOne_132 : decode cX5_openIsOne 132 = .ok (.if_icmp .ne 7, 3) := by decide +kernel
theorem dX5_openIsOne_135 : decode cX5_openIsOne 135 = .ok (.iconst 1, 1) := by decide +kernel
theorem dX5_openIsOne_136 : decode cX5_openIsOne 136 = .ok (.goto 4, 3) := by decide +kernel
theorem dX5_openIsOne_139 : decode cX5_openIsOne 139 = .ok (.iconst 0, 1) := by decide +kernel
theorem dX5_openIsOne_140 : decode cX5_openIsOne 140 = .ok (.ireturn, 1) := by decide +kernel
theorem dX5_closedIsOne_0 : decode cX5_closedIsOne 0 = .ok (.aload_n 0, 1) := by decide +kernel
theorem dX5_closedIsOne_1 : decode cX5_closedIsOne 1 = .ok (.getfield 12, 3) := by decide +kernel
theorem dX5_closedIsOne_4 : decode cX5_closedIsOne 4 = .ok (.invokevirtual 28, 3) := by decide +kernel
theorem dX5_closedIsOne_7 : decode cX5_closedIsOne 7 = .ok (.aload_n 0, 1) := by decide +kernel
theorem dX5_closedIsOne_8 : decode cX5_closedIsOne 8 = .ok (.getfield 12, 3) := by decide +kernel
theorem dX5_closedIsOne_11 : decode cX5_closedIsOne 11 = .ok (.iconst 0, 1) := by decide +kernel
theorem dX5_closedIsOne_12 : decode cX5_closedIsOne 12 = .ok (.invokevirtual 45, 3) := by decide +kernel
theorem dX5_closedIsOne_15 : decode cX5_closedIsOne 15 = .ok (.pop, 1) := by decide +kernel
theorem dX5_closedIsOne_16 : decode cX5_closedIsOne 16 = .ok (.iconst 0, 1) := by decide +kernel
theorem dX5_closedIsOne_17 : decode cX5_closedIsOne 17 = .ok (.istore_n 2, 1) := by decide +kernel
theorem dX5_closedIsOne_18 : decode cX5_closedIsOne 18 = .ok (.iload_n 2, 1) := by decide +kernel
theorem dX5_closedIsOne_19 : decode cX5_closedIsOne 19 = .ok (.bipush 100, 2) := by decide +kernel
theorem dX5_closedIsOne_21 : decode cX5_closedIsOne 21 = .ok (.if_icmp .ge 101, 3) := by decide +kernel
theorem dX5_closedIsOne_24 : decode cX5_closedIsOne 24 = .ok (.iload_n 2, 1) := by decide +kernel
theorem dX5_closedIsOne_25 : decode cX5_closedIsOne 25 = .ok (.aload_n 0, 1) := by decide +kernel
theorem dX5_closedIsOne_26 : decode cX5_closedIsOne 26 = .ok (.getfield 12, 3) := by decide +kernel
theorem dX5_closedIsOne_29 : decode cX5_closedIsOne 29 = .ok (.getfield 37, 3) := by decide +kernel
theorem dX5_closedIsOne_32 : decode cX5_closedIsOne 32 = .ok (.if_icmp .ge 90, 3) := by decide +kernel
theorem dX5_closedIsOne_35 : decode cX5_closedIsOne 35 = .ok (.iconst 0, 1) := by decide +kernel
theorem dX5_closedIsOne_36 : decode cX5_closedIsOne 36 = .ok (.istore_n 3, 1) := by decide +kernel
theorem dX5_closedIsOne_37 : decode cX5_closedIsOne 37 = .ok (.iload_n 3, 1) := by decide +kernel
theorem dX5_closedIsOne_38 : decode cX5_closedIsOne 38 = .ok (.bipush 9, 2) := by decide +kernel
theorem dX5_closedIsOne_40 : decode cX5_closedIsOne 40 = .ok (.if_icmp .ge 76, 3) := by decide +kernel
theorem dX5_closedIsOne_43 : decode cX5_closedIsOne 43 = .ok (.aload_n 0, 1) := by decide +kernel
theorem dX5_closedIsOne_44 : decode cX5_closedIsOne 44 = .ok (.getfield 12, 3) := by decide +kernel
theorem dX5_closedIsOne_47 : decode cX5_closedIsOne 47 = .ok (.getfield 49, 3) := by decide +kernel
theorem dX5_closedIsOne_50 : decode cX5_closedIsOne 50 = .ok (.iload_n 2, 1) := by decide +kernel
theorem dX5_closedIsOne_51 : decode cX5_closedIsOne 51 = .ok (.iaload, 1) := by decide +kernel
theorem dX5_closedIsOne_52 : decode cX5_closedIsOne 52 = .ok (.bipush 10, 2) := by decide +kernel
theorem dX5_closedIsOne_54 : decode cX5_closedIsOne 54 = .ok (.irem, 1) := by decide +kernel
theorem dX5_closedIsOne_55 : decode cX5_closedIsOne 55 = .ok (.iload_n 3, 1) := by decide +kernel
theorem dX5_closedIsOne_56 : decode cX5_closedIsOne 56 = .ok (.iconst 3, 1) := by decide +kernel
theorem dX5_closedIsOne_57 : decode cX5_closedIsOne 57 = .ok (.irem, 1) := by decide +kernel
theorem dX5_closedIsOne_58 : decode cX5_closedIsOne 58 = .ok (.iadd, 1) := by decide +kernel
theorem dX5_closedIsOne_59 : decode cX5_closedIsOne 59 = .ok (.iconst 1, 1) := by decide +kernel
theorem dX5_closedIsOne_60 : decode cX5_closedIsOne 60 = .ok (.isub, 1) := by decide +kernel
theorem dX5_closedIsOne_61 : decode cX5_closedIsOne 61 = .ok (.istore 4, 2) := by decide +kernel
theorem dX5_closedIsOne_63 : decode cX5_closedIsOne 63 = .ok (.aload_n 0, 1) := by decide +kernel
theorem dX5_closedIsOne_64 : decode cX5_closedIsOne 64 = .ok (.getfield 12, 3) := by decide +kernel
theorem dX5_closedIsOne_67 : decode cX5_closedIsOne 67 = .ok (.getfield 49, 3) := by decide +kernel
theorem dX5_closedIsOne_70 : decode cX5_closedIsOne 70 = .ok (.iload_n 2, 1) := by decide +kernel
theorem dX5_closedIsOne_71 : decode cX5_closedIsOne 71 = .ok (.iaload, 1) := by decide +kernel
theorem dX5_closedIsOne_72 : decode cX5_closedIsOne 72 = .ok (.bipush 10, 2) := by decide +kernel
theorem dX5_closedIsOne_74 : decode cX5_closedIsOne 74 = .ok (.idiv, 1) := by decide +kernel
theorem dX5_closedIsOne_75 : decode cX5_closedIsOne 75 = .ok (.iload_n 3, 1) := by decide +kernel
theorem dX5_closedIsOne_76 : decode cX5_closedIsOne 76 = .ok (.iconst 3, 1) := by decide +kernel
theorem dX5_closedIsOne_77 : decode cX5_closedIsOne 77 = .ok (.idiv, 1) := by decide +kernel
theorem dX5_closedIsOne_78 : decode cX5_closedIsOne 78 = .ok (.iadd, 1) := by decide +kernel
theorem dX5_closedIsOne_79 : decode cX5_closedIsOne 79 = .ok (.iconst 1, 1) := by decide +kernel
theorem dX5_closedIsOne_80 : decode cX5_closedIsOne 80 = .ok (.isub, 1) := by decide +kernel
theorem dX5_closedIsOne_81 : decode cX5_closedIsOne 81 = .ok (.istore 5, 2) := by decide +kernel
theorem dX5_closedIsOne_83 : decode cX5_closedIsOne 83 = .ok (.aload_n 1, 1) := by decide +kernel
theorem dX5_closedIsOne_84 : decode cX5_closedIsOne 84 = .ok (.iload 4, 2) := by decide +kernel
theorem dX5_closedIsOne_86 : decode cX5_closedIsOne 86 = .ok (.iload 5, 2) := by decide +kernel
theorem dX5_closedIsOne_88 : decode cX5_closedIsOne 88 = .ok (.invokestatic 60, 3) := by decide +kernel
theorem dX5_closedIsOne_91 : decode cX5_closedIsOne 91 = .ok (.ifCond .eq 19, 3) := by decide +kernel
theorem dX5_closedIsOne_94 : decode cX5_closedIsOne 94 = .ok (.aload_n 0, 1) := by decide +kernel
theorem dX5_closedIsOne_95 : decode cX5_closedIsOne 95 = .ok (.getfield 12, 3) := by decide +kernel
theorem dX5_closedIsOne_98 : decode cX5_closedIsOne 98 = .ok (.iload 5, 2) := by decide +kernel
theorem dX5_closedIsOne_100 : decode cX5_closedIsOne 100 = .ok (.bipush 10, 2) := by decide +kernel
theorem dX5_closedIsOne_102 : decode cX5_closedIsOne 102 = .ok (.imul, 1) := by decide +kernel
theorem dX5_closedIsOne_103 : decode cX5_closedIsOne 103 = .ok (.iload 4, 2) := by decide +kernel
theorem dX5_closedIsOne_105 : decode cX5_closedIsOne 105 = .ok (.iadd, 1) := by decide +kernel
theorem dX5_closedIsOne_106 : decode cX5_closedIsOne 106 = .ok (.invokevirtual 45, 3) := by decide +kernel
theorem dX5_closedIsOne_109 : decode cX5_closedIsOne 109 = .ok (.pop, 1) := by decide +kernel
theorem dX5_closedIsOne_110 : decode cX5_closedIsOne 110 = .ok (.iinc 3 1, 3) := by decide +kernel
theorem dX5_closedIsOne_113 : decode cX5_closedIsOne 113 = .ok (.goto (-76), 3) := by decide +kernel
theorem dX5_closedIsOne_116 : decode cX5_closedIsOne 116 = .ok (.iinc 2 1, 3) := by decide +kernel
theorem dX5_closedIsOne_119 : decode cX5_closedIsOne 119 = .ok (.goto (-101), 3) := by decide +kernel
theorem dX5_closedIsOne_122 : decode cX5_closedIsOne 122 = .ok (.aload_n 0, 1) := by decide +kernel
theorem dX5_closedIsOne_123 : decode cX5_closedIsOne 123 = .ok (.getfield 12, 3) := by decide +kernel
theorem dX5_closedIsOne_126 : decode cX5_closedIsOne 126 = .ok (.getfield 37, 3) := by decide +kernel
theorem dX5_closedIsOne_129 : decode cX5_closedIsOne 129 = .ok (.aload_n 1, 1) := by decide +kernel
theorem dX5_closedIsOne_130 : decode cX5_closedIsOne 130 = .ok (.getfield 64, 3) := by decide +kernel
theorem dX5_closedIsOne_133 : decode cX5_closedIsOne 133 = .ok (.iconst 2, 1) := by decide +kernel
theorem dX5_closedIsOne_134 : decode cX5_closedIsOne 134 = .ok (.iadd, 1) := by decide +kernel
theorem dX5_closedIsOne_135 : decode cX5_closedIsOne 135 = .ok (.aload_n 1, 1) := by decide +kernel
theorem dX5_closedIsOne_136 : decode cX5_closedIsOne 136 = .ok (.getfield 67, 3) := by decide +kernel
theorem dX5_closedIsOne_139 : decode cX5_closedIsOne 139 = .ok (.iconst 2, 1) := by decide +kernel
theorem dX5_closedIsOne_140 : decode cX5_closedIsOne 140 = .ok (.iadd, 1) := by decide +kernel
theorem dX5_closedIsOne_141 : decode cX5_closedIsOne 141 = .ok (.imul, 1) := by decide +kernel
theorem dX5_closedIsOne_142 : decode cX5_closedIsOne 142 = .ok (.aload_n 1, 1) := by decide +kernel
theorem dX5_closedIsOne_143 : decode cX5_closedIsOne 143 = .ok (.invokevirtual 57, 3) := by decide +kernel
theorem dX5_closedIsOne_146 : decode cX5_closedIsOne 146 = .ok (.isub, 1) := by decide +kernel
theorem dX5_closedIsOne_147 : decode cX5_closedIsOne 147 = .ok (.if_icmp .ne 7, 3) := by decide +kernel
theorem dX5_closedIsOne_150 : decode cX5_closedIsOne 150 = .ok (.iconst 1, 1) := by decide +kernel
theorem dX5_closedIsOne_151 : decode cX5_closedIsOne 151 = .ok (.goto 4, 3) := by decide +kernel
theorem dX5_closedIsOne_154 : decode cX5_closedIsOne 154 = .ok (.iconst 0, 1) := by decide +kernel
theorem dX5_closedIsOne_155 : decode cX5_closedIsOne 155 = .ok (.ireturn, 1) := by decide +kernel
theorem dX5_isClosed_0 : decode cX5_isClosed 0 = .ok (.iload_n 1, 1) := by decide +kernel
theorem dX5_isClosed_1 : decode cX5_isClosed 1 = .ok (.ifCond .lt 27, 3) := by decide +kernel
theorem dX5_isClosed_4 : decode cX5_isClosed 4 = .ok (.iload_n 1, 1) := by decide +kernel
theorem dX5_isClosed_5 : decode cX5_isClosed 5 = .ok (.aload_n 0, 1) := by decide +kernel
theorem dX5_isClosed_6 : decode cX5_isClosed 6 = .ok (.getfield 64, 3) := by decide +kernel
theorem dX5_isClosed_9 : decode cX5_isClosed 9 = .ok (.iconst 1, 1) := by decide +kernel
theorem dX5_isClosed_10 : decode cX5_isClosed 10 = .ok (.iadd, 1) := by decide +kernel
theorem dX5_isClosed_11 : decode cX5_isClosed 11 = .ok (.if_icmp .gt 17, 3) := by decide +kernel
theorem dX5_isClosed_14 : decode cX5_isClosed 14 = .ok (.iload_n 2, 1) := by decide +kernel
theorem dX5_isClosed_15 : decode cX5_isClosed 15 = .ok (.ifCond .lt 13, 3) := by decide +kernel
theorem dX5_isClosed_18 : decode cX5_isClosed 18 = .ok (.iload_n 2, 1) := by decide +kernel
theorem dX5_isClosed_19 : decode cX5_isClosed 19 = .ok (.aload_n 0, 1) := by decide +kernel
theorem dX5_isClosed_20 : decode cX5_isClosed 20 = .ok (.getfield 67, 3) := by decide +kernel
theorem dX5_isClosed_23 : decode cX5_isClosed 23 = .ok (.iconst 1, 1) := by decide +kernel
theorem dX5_isClosed_24 : decode cX5_isClosed 24 = .ok (.iadd, 1) := by decide +kernel
theorem dX5_isClosed_25 : decode cX5_isClosed 25 = .ok (.if_icmp .le 5, 3) := by decide +kernel
theorem dX5_isClosed_28 : decode cX5_isClosed 28 = .ok (.iconst 0, 1) := by decide +kernel
theorem dX5_isClosed_29 : decode cX5_isClosed 29 = .ok (.ireturn, 1) := by decide +kernel
theorem dX5_isClosed_30 : decode cX5_isClosed 30 = .ok (.aload_n 0, 1) := by decide +kernel
theorem dX5_isClosed_31 : decode cX5_isClosed 31 = .ok (.iload_n 1, 1) := by decide +kernel
theorem dX5_isClosed_32 : decode cX5_isClosed 32 = .ok (.iconst 1, 1) := by decide +kernel
theorem dX5_isClosed_33 : decode cX5_isClosed 33 = .ok (.isub, 1) := by decide +kernel
theorem dX5_isClosed_34 : decode cX5_isClosed 34 = .ok (.iload_n 2, 1) := by decide +kernel
theorem dX5_isClosed_35 : decode cX5_isClosed 35 = .ok (.iconst 1, 1) := by decide +kernel
theorem dX5_isClosed_36 : decode cX5_isClosed 36 = .ok (.isub, 1) := by decide +kernel
theorem dX5_isClosed_37 : decode cX5_isClosed 37 = .ok (.invokevirtual 70, 3) := by decide +kernel
theorem dX5_isClosed_40 : decode cX5_isClosed 40 = .ok (.ifCond .ge 7, 3) := by decide +kernel
theorem dX5_isClosed_43 : decode cX5_isClosed 43 = .ok (.iconst 1, 1) := by decide +kernel
theorem dX5_isClosed_44 : decode cX5_isClosed 44 = .ok (.goto 4, 3) := by decide +kernel
theorem dX5_isClosed_47 : decode cX5_isClosed 47 = .ok (.iconst 0, 1) := by decide +kernel
theorem dX5_isClosed_48 : decode cX5_isClosed 48 = .ok (.ireturn, 1) := by decide +kernel
theorem dX5_touchesByCorner_0 : decode cX5_touchesByCorner 0 = .ok (.iconst 1, 1) := by decide +kernel
theorem dX5_touchesByCorner_1 : decode cX5_touchesByCorner 1 = .ok (.istore_n 2, 1) := by decide +kernel
theorem dX5_touchesByCorner_2 : decode cX5_touchesByCorner 2 = .ok (.iload_n 2, 1) := by decide +kernel
theorem dX5_touchesByCorner_3 : decode cX5_touchesByCorner 3 = .ok (.aload_n 1, 1) := by decide +kernel
theorem dX5_touchesByCorner_4 : decode cX5_touchesByCorner 4 = .ok (.getfield 67, 3) := by decide +kernel
theorem dX5_touchesByCorner_7 : decode cX5_touchesByCorner 7 = .ok (.if_icmp .ge 120, 3) := by decide +kernel
theorem dX5_touchesByCorner_10 : decode cX5_touchesByCorner 10 = .ok (.iconst 1, 1) := by decide +kernel
theorem dX5_touchesByCorner_11 : decode cX5_touchesByCorner 11 = .ok (.istore_n 3, 1) := by decide +kernel
theorem dX5_touchesByCorner_12 : decode cX5_touchesByCorner 12 = .ok (.iload_n 3, 1) := by decide +kernel
theorem dX5_touchesByCorner_13 : decode cX5_touchesByCorner 13 = .ok (.aload_n 1, 1) := by decide +kernel
theorem dX5_touchesByCorner_14 : decode cX5_touchesByCorner 14 = .ok (.getfield 64, 3) := by decide +kernel
theorem dX5_touchesByCorner_17 : decode cX5_touchesByCorner 17 = .ok (.if_icmp .ge 104, 3) := by decide +kernel
theorem dX5_touchesByCorner_20 : decode cX5_touchesByCorner 20 = .ok (.aload_n 1, 1) := by decide +kernel
theorem dX5_touchesByCorner_21 : decode cX5_touchesByCorner 21 = .ok (.iload_n 3, 1) := by decide +kernel
theorem dX5_touchesByCorner_22 : decode cX5_touchesByCorner 22 = .ok (.iconst 1, 1) := by decide +kernel
theorem dX5_touchesByCorner_23 : decode cX5_touchesByCorner 23 = .ok (.isub, 1) := by decide +kernel
theorem dX5_touchesByCorner_24 : decode cX5_touchesByCorner 24 = .ok (.iload_n 2, 1) := by decide +kernel
theorem dX5_touchesByCorner_25 : decode cX5_touchesByCorner 25 = .ok (.iconst 1, 1) := by decide +kernel
theorem dX5_touchesByCorner_26 : decode cX5_touchesByCorner 26 = .ok (.isub, 1) := by decide +kernel
theorem dX5_touchesByCorner_27 : decode cX5_touchesByCorner 27 = .ok (.invokevirtual 70, 3) := by decide +kernel
theorem dX5_touchesByCorner_30 : decode cX5_touchesByCorner 30 = .ok (.ifCond .lt 7, 3) := by decide +kernel
theorem dX5_touchesByCorner_33 : decode cX5_touchesByCorner 33 = .ok (.iconst 1, 1) := by decide +kernel
theorem dX5_touchesByCorner_34 : decode cX5_touchesByCorner 34 = .ok (.goto 4, 3) := by decide +kernel
theorem dX5_touchesByCorner_37 : decode cX5_touchesByCorner 37 = .ok (.iconst 0, 1) := by decide +kernel
theorem dX5_touchesByCorner_38 : decode cX5_touchesByCorner 38 = .ok (.istore 4, 2) := by decide +kernel
theorem dX5_touchesByCorner_40 : decode cX5_touchesByCorner 40 = .ok (.aload_n 1, 1) := by decide +kernel
theorem dX5_touchesByCorner_41 : decode cX5_touchesByCorner 41 = .ok (.iload_n 3, 1) := by decide +kernel
theorem dX5_touchesByCorner_42 : decode cX5_touchesByCorner 42 = .ok (.iload_n 2, 1) := by decide +kernel
theorem dX5_touchesByCorner_43 : decode cX5_touchesByCorner 43 = .ok (.iconst 1, 1) := by decide +kernel
theorem dX5_touchesByCorner_44 : decode cX5_touchesByCorner 44 = .ok (.isub, 1) := by decide +kernel
theorem dX5_touchesByCorner_45 : decode cX5_touchesByCorner 45 = .ok (.invokevirtual 70, 3) := by decide +kernel
theorem dX5_touchesByCorner_48 : decode cX5_touchesByCorner 48 = .ok (.ifCond .lt 7, 3) := by decide +kernel
theorem dX5_touchesByCorner_51 : decode cX5_touchesByCorner 51 = .ok (.iconst 1, 1) := by decide +kernel
theorem dX5_touchesByCorner_52 : decode cX5_touchesByCorner 52 = .ok (.goto 4, 3) := by decide +kernel
theorem dX5_touchesByCorner_55 : decode cX5_touchesByCorner 55 = .ok (.iconst 0, 1) := by decide +kernel
theorem dX5_touchesByCorner_56 : decode cX5_touchesByCorner 56 = .ok (.istore 5, 2) := by decide +kernel
theorem dX5_touchesByCorner_58 : decode cX5_touchesByCorner 58 = .ok (.aload_n 1, 1) := by decide +kernel
theorem dX5_touchesByCorner_59 : decode cX5_touchesByCorner 59 = .ok (.iload_n 3, 1) := by decide +kernel
theorem dX5_touchesByCorner_60 : decode cX5_touchesByCorner 60 = .ok (.iconst 1, 1) := by decide +kernel
theorem dX5_touchesByCorner_61 : decode cX5_touchesByCorner 61 = .ok (.isub, 1) := by decide +kernel
theorem dX5_touchesByCorner_62 : decode cX5_touchesByCorner 62 = .ok (.iload_n 2, 1) := by decide +kernel
theorem dX5_touchesByCorner_63 : decode cX5_touchesByCorner 63 = .ok (.invokevirtual 70, 3) := by decide +kernel
theorem dX5_touchesByCorner_66 : decode cX5_touchesByCorner 66 = .ok (.ifCond .lt 7, 3) := by decide +kernel
theorem dX5_touchesByCorner_69 : decode cX5_touchesByCorner 69 = .ok (.iconst 1, 1) := by decide +kernel
theorem dX5_touchesByCorner_70 : decode cX5_touchesByCorner 70 = .ok (.goto 4, 3) := by decide +kernel
theorem dX5_touchesByCorner_73 : decode cX5_touchesByCorner 73 = .ok (.iconst 0, 1) := by decide +kernel
theorem dX5_touchesByCorner_74 : decode cX5_touchesByCorner 74 = .ok (.istore 6, 2) := by decide +kernel
theorem dX5_touchesByCorner_76 : decode cX5_touchesByCorner 76 = .ok (.aload_n 1, 1) := by decide +kernel
theorem dX5_touchesByCorner_77 : decode cX5_touchesByCorner 77 = .ok (.iload_n 3, 1) := by decide +kernel
theorem dX5_touchesByCorner_78 : decode cX5_touchesByCorner 78 = .ok (.iload_n 2, 1) := by decide +kernel
theorem dX5_touchesByCorner_79 : decode cX5_touchesByCorner 79 = .ok (.invokevirtual 70, 3) := by decide +kernel
theorem dX5_touchesByCorner_82 : decode cX5_touchesByCorner 82 = .ok (.ifCond .lt 7, 3) := by decide +kernel
theorem dX5_touchesByCorner_85 : decode cX5_touchesByCorner 85 = .ok (.iconst 1, 1) := by decide +kernel
theorem dX5_touchesByCorner_86 : decode cX5_touchesByCorner 86 = .ok (.goto 4, 3) := by decide +kernel
theorem dX5_touchesByCorner_89 : decode cX5_touchesByCorner 89 = .ok (.iconst 0, 1) := by decide +kernel
theorem dX5_touchesByCorner_90 : decode cX5_touchesByCorner 90 = .ok (.istore 7, 2) := by decide +kernel
theorem dX5_touchesByCorner_92 : decode cX5_touchesByCorner 92 = .ok (.iload 4, 2) := by decide +kernel
theorem dX5_touchesByCorner_94 : decode cX5_touchesByCorner 94 = .ok (.iload 7, 2) := by decide +kernel
theorem dX5_touchesByCorner_96 : decode cX5_touchesByCorner 96 = .ok (.if_icmp .ne 19, 3) := by decide +kernel
theorem dX5_touchesByCorner_99 : decode cX5_touchesByCorner 99 = .ok (.iload 5, 2) := by decide +kernel
theorem dX5_touchesByCorner_101 : decode cX5_touchesByCorner 101 = .ok (.iload 6, 2) := by decide +kernel
theorem dX5_touchesByCorner_103 : decode cX5_touchesByCorner 103 = .ok (.if_icmp .ne 12, 3) := by decide +kernel
theorem dX5_touchesByCorner_106 : decode cX5_touchesByCorner 106 = .ok (.iload 4, 2) := by decide +kernel
theorem dX5_touchesByCorner_108 : decode cX5_touchesByCorner 108 = .ok (.iload 5, 2) := by decide +kernel
theorem dX5_touchesByCorner_110 : decode cX5_touchesByCorner 110 = .ok (.if_icmp .eq 5, 3) := by decide +kernel
theorem dX5_touchesByCorner_113 : decode cX5_touchesByCorner 113 = .ok (.iconst 1, 1) := by decide +kernel
theorem dX5_touchesByCorner_114 : decode cX5_touchesByCorner 114 = .ok (.ireturn, 1) := by decide +kernel
theorem dX5_touchesByCorner_115 : decode cX5_touchesByCorner 115 = .ok (.iinc 3 1, 3) := by decide +kernel
theorem dX5_touchesByCorner_118 : decode cX5_touchesByCorner 118 = .ok (.goto (-106), 3) := by decide +kernel
theorem dX5_touchesByCorner_121 : decode cX5_touchesByCorner 121 = .ok (.iinc 2 1, 3) := by decide +kernel
theorem dX5_touchesByCorner_124 : decode cX5_touchesByCorner 124 = .ok (.goto (-122), 3) := by decide +kernel
theorem dX5_touchesByCorner_127 : decode cX5_touchesByCorner 127 = .ok (.iconst 0, 1) := by decide +kernel
theorem dX5_touchesByCorner_128 : decode cX5_touchesByCorner 128 = .ok (.ireturn, 1) := by decide +kernel
theorem dX6_init_0 : decode cX6_init 0 = .ok (.aload_n 0, 1) := by decide +kernel
theorem dX6_init_1 : decode cX6_init 1 = .ok (.invokespecial 3, 3) := by decide +kernel
theorem dX6_init_4 : decode cX6_init 4 = .ok (.aload_n 0, 1) := by decide +kernel
theorem dX6_init_5 : decode cX6_init 5 = .ok (.bipush 64, 2) := by decide +kernel
theorem dX6_init_7 : decode cX6_init 7 = .ok (.newarray .int, 2) := by decide +kernel
theorem dX6_init_9 : decode cX6_init 9 = .ok (.putfield 9, 3) := by decide +kernel
theorem dX6_init_12 : decode cX6_init 12 = .ok (.return_, 1) := by decide +kernel
theorem dX6_start_0 : decode cX6_start 0 = .ok (.aload_n 0, 1) := by decide +kernel
theorem dX6_start_1 : decode cX6_start 1 = .ok (.iconst 1, 1) := by decide +kernel
theorem dX6_start_2 : decode cX6_start 2 = .ok (.putfield 15, 3) := by decide +kernel
theorem dX6_start_5 : decode cX6_start 5 = .ok (.aload_n 0, 1) := by decide +kernel
theorem dX6_start_6 : decode cX6_start 6 = .ok (.iload_n 1, 1) := by decide +kernel
theorem dX6_start_7 : decode cX6_start 7 = .ok (.putfield 19, 3) := by decide +kernel
theorem dX6_start_10 : decode cX6_start 10 = .ok (.aload_n 0, 1) := by decide +kernel
theorem dX6_start_11 : decode cX6_start 11 = .ok (.iload_n 2, 1) := by decide +kernel
theorem dX6_start_12 : decode cX6_start 12 = .ok (.putfield 23, 3) := by decide +kernel
theorem dX6_start_15 : decode cX6_start 15 = .ok (.aload_n 0, 1) := by decide +kernel
theorem dX6_start_16 : decode cX6_start 16 = .ok (.getfield 9, 3) := by decide +kernel
theorem dX6_start_19 : decode cX6_start 19 = .ok (.iconst 0, 1) := by decide +kernel
theorem dX6_start_20 : decode cX6_start 20 = .ok (.invokestatic 26, 3) := by decide +kernel
theorem dX6_start_23 : decode cX6_start 23 = .ok (.return_, 1) := by decide +kernel
theorem dX6_put_0 : decode cX6_put 0 = .ok (.aload_n 0, 1) := by decide +kernel
theorem dX6_put_1 : decode cX6_put 1 = .ok (.getfield 19, 3) := by decide +kernel
theorem dX6_put_4 : decode cX6_put 4 = .ok (.ifCond .ne 24, 3) := by decide +kernel
theorem dX6_put_7 : decode cX6_put 7 = .ok (.aload_n 0, 1) := by decide +kernel
theorem dX6_put_8 : decode cX6_put 8 = .ok (.getfield 9, 3) := by decide +kernel
theorem dX6_put_11 : decode cX6_put 11 = .ok (.iload_n 1, 1) := by decide +kernel
theorem dX6_put_12 : decode cX6_put 12 = .ok (.iload_n 2, 1) := by decide +kernel
theorem dX6_put_13 : decode cX6_put 13 = .ok (.ifCond .eq 7, 3) := by decide +kernel
theorem dX6_put_16 : decode cX6_put 16 = .ok (.iconst 1, 1) := by decide +kernel
theorem dX6_put_17 : decode cX6_put 17 = .ok (.goto 4, 3) := by decide +kernel
theorem dX6_put_20 : decode cX6_put 20 = .ok (.iconst 0, 1) := by decide +kernel
theorem dX6_put_21 : decode cX6_put 21 = .ok (.invokestatic 32, 3) := by decide +kernel
theorem dX6_put_24 : decode cX6_put 24 = .ok (.iastore, 1) := by decide +kernel
theorem dX6_put_25 : decode cX6_put 25 = .ok (.goto 23, 3) := by decide +kernel
theorem dX6_put_28 : decode cX6_put 28 = .ok (.aload_n 0, 1) := by decide +kernel
theorem dX6_put_29 : decode cX6_put 29 = .ok (.getfield 9, 3) := by decide +kernel
theorem dX6_put_32 : decode cX6_put 32 = .ok (.iload_n 1, 1) := by decide +kernel
theorem dX6_put_33 : decode cX6_put 33 = .ok (.aload_n 0, 1) := by decide +kernel
theorem dX6_put_34 : decode cX6_put 34 = .ok (.getfield 19, 3) := by decide +kernel
theorem dX6_put_37 : decode cX6_put 37 = .ok (.iconst 1, 1) := by decide +kernel
theorem dX6_put_38 : decode cX6_put 38 = .ok (.if_icmp .ne 8, 3) := by decide +kernel
theorem dX6_put_41 : decode cX6_put 41 = .ok (.iload_n 2, 1) := by decide +kernel
theorem dX6_put_42 : decode cX6_put 42 = .ok (.i2b, 1) := by decide +kernel
theorem dX6_put_43 : decode cX6_put 43 = .ok (.goto 4, 3) := by decide +kernel
theorem dX6_put_46 : decode cX6_put 46 = .ok (.iload_n 2, 1) := by decide +kernel
theorem dX6_put_47 : decode cX6_put 47 = .ok (.iastore, 1) := by decide +kernel
theorem dX6_put_48 : decode cX6_put 48 = .ok (.return_, 1) := by decide +kernel
theorem dX6_hasStretch_0 : decode cX6_hasStretch 0 = .ok (.iload_n 1, 1) := by decide +kernel
theorem dX6_hasStretch_1 : decode cX6_hasStretch 1 = .ok (.ifCond .lt 29, 3) := by decide +kernel
theorem dX6_hasStretch_4 : decode cX6_hasStretch 4 = .ok (.iload_n 2, 1) := by decide +kernel
theorem dX6_hasStretch_5 : decode cX6_hasStretch 5 = .ok (.ifCond .lt 25, 3) := by decide +kernel
theorem dX6_hasStretch_8 : decode cX6_hasStretch 8 = .ok (.iload_n 2, 1) := by decide +kernel
theorem dX6_hasStretch_9 : decode cX6_hasStretch 9 = .ok (.aload_n 0, 1) := by decide +kernel
theorem dX6_hasStretch_10 : decode cX6_hasStretch 10 = .ok (.getfield 23, 3) := by decide +kernel
theorem dX6_hasStretch_13 : decode cX6_hasStretch 13 = .ok (.if_icmp .gt 17, 3) := by decide +kernel
theorem dX6_hasStretch_16 : decode cX6_hasStretch 16 = .ok (.iload_n 1, 1) := by decide +kernel
theorem dX6_hasStretch_17 : decode cX6_hasStretch 17 = .ok (.aload_n 0, 1) := by decide +kernel
theorem dX6_hasStretch_18 : decode cX6_hasStretch 18 = .ok (.getfield 23, 3) := by decide +kernel
theorem dX6_hasStretch_21 : decode cX6_hasStretch 21 = .ok (.iload_n 2, 1) := by decide +kernel
theorem dX6_hasStretch_22 : decode cX6_hasStretch 22 = .ok (.isub, 1) := by decide +kernel
theorem dX6_hasStretch_23 : decode cX6_hasStretch 23 = .ok (.if_icmp .gt 7, 3) := by decide +kernel
theorem dX6_hasStretch_26 : decode cX6_hasStretch 26 = .ok (.iconst 1, 1) := by decide +kernel
theorem dX6_hasStretch_27 : decode cX6_hasStretch 27 = .ok (.goto 4, 3) := by decide +kernel
theorem dX6_hasStretch_30 : decode cX6_hasStretch 30 = .ok (.iconst 0, 1) := by decide +kernel
theorem dX6_hasStretch_31 : decode cX6_hasStretch 31 = .ok (.ireturn, 1) := by decide +kernel
theorem dX7_init_0 : decode cX7_init 0 = .ok (.aload_n 0, 1) := by decide +kernel
theorem dX7_init_1 : decode cX7_init 1 = .ok (.invokespecial 3, 3) := by decide +kernel
theorem dX7_init_4 : decode cX7_init 4 = .ok (.aload_n 0, 1) := by decide +kernel
theorem dX7_init_5 : decode cX7_init 5 = .ok (.sipush 16640, 3) := by decide +kernel
theorem dX7_init_8 : decode cX7_init 8 = .ok (.newarray .long, 2) := by decide +kernel
theorem dX7_init_10 : decode cX7_init 10 = .ok (.putfield 9, 3) := by decide +kernel
theorem dX7_init_13 : decode cX7_init 13 = .ok (.aload_n 0, 1) := by decide +kernel
theorem dX7_init_14 : decode cX7_init 14 = .ok (.sipush 128, 3) := by decide +kernel
theorem dX7_init_17 : decode cX7_init 17 = .ok (.newarray .long, 2) := by decide +kernel
theorem dX7_init_19 : decode cX7_init 19 = .ok (.putfield 15, 3) := by decide +kernel
theorem dX7_init_22 : decode cX7_init 22 = .ok (.aload_n 0, 1) := by decide +kernel
theorem dX7_init_23 : decode cX7_init 23 = .ok (.sipush 128, 3) := by decide +kernel
theorem dX7_init_26 : decode cX7_init 26 = .ok (.newarray .boolean, 2) := by decide +kernel
theorem dX7_init_28 : decode cX7_init 28 = .ok (.putfield 18, 3) := by decide +kernel
theorem dX7_init_31 : decode cX7_init 31 = .ok (.aload_n 0, 1) := by decide +kernel
theorem dX7_init_32 : decode cX7_init 32 = .ok (.sipush 256, 3) := by decide +kernel
theorem dX7_init_35 : decode cX7_init 35 = .ok (.newarray .long, 2) := by decide +kernel
theorem dX7_init_37 : decode cX7_init 37 = .ok (.putfield 22, 3) := by decide +kernel
theorem dX7_init_40 : decode cX7_init 40 = .ok (.aload_n 0, 1) := by decide +kernel
theorem dX7_init_41 : decode cX7_init 41 = .ok (.sipush 256, 3) := by decide +kernel
theorem dX7_init_44 : decode cX7_init 44 = .ok (.newarray .long, 2) := by decide +kernel
theorem dX7_init_46 : decode cX7_init 46 = .ok (.putfield 25, 3) := by decide +kernel
theorem dX7_init_49 : decode cX7_init 49 = .ok (.return_, 1) := by decide +kernel
theorem dX7_forget_0 : decode cX7_forget 0 = .ok (.aload_n 0, 1) := by decide +kernel
theorem dX7_forget_1 : decode cX7_forget 1 = .ok (.iconst 0, 1) := by decide +kernel
theorem dX7_forget_2 : decode cX7_forget 2 = .ok (.putfield 28, 3) := by decide +kernel
theorem dX7_forget_5 : decode cX7_forget 5 = .ok (.aload_n 0, 1) := by decide +kernel
theorem dX7_forget_6 : decode cX7_forget 6 = .ok (.iconst 0, 1) := by decide +kernel
theorem dX7_forget_7 : decode cX7_forget 7 = .ok (.putfield 32, 3) := by decide +kernel
theorem dX7_forget_10 : decode cX7_forget 10 = .ok (.return_, 1) := by decide +kernel
theorem dX7_total_0 : decode cX7_total 0 = .ok (.aload_n 0, 1) := by decide +kernel
theorem dX7_total_1 : decode cX7_total 1 = .ok (.aload_n 1, 1) := by decide +kernel
theorem dX7_total_2 : decode cX7_total 2 = .ok (.invokevirtual 36, 3) := by decide +kernel
theorem dX7_total_5 : decode cX7_total 5 = .ok (.aload_n 0, 1) := by decide +kernel
theorem dX7_total_6 : decode cX7_total 6 = .ok (.getfield 9, 3) := by decide +kernel
theorem dX7_total_9 : decode cX7_total 9 = .ok (.iconst 0, 1) := by decide +kernel
theorem dX7_total_10 : decode cX7_total 10 = .ok (.laload, 1) := by decide +kernel
theorem dX7_total_11 : decode cX7_total 11 = .ok (.lreturn, 1) := by decide +kernel
theorem dX7_leastCost_0 : decode cX7_leastCost 0 = .ok (.aload_n 0, 1) := by decide +kernel
theorem dX7_leastCost_1 : decode cX7_leastCost 1 = .ok (.aload_n 1, 1) := by decide +kernel
theorem dX7_leastCost_2 : decode cX7_leastCost 2 = .ok (.invokevirtual 40, 3) := by decide +kernel
theorem dX7_leastCost_5 : decode cX7_leastCost 5 = .ok (.aload_n 0, 1) := by decide +kernel
theorem dX7_leastCost_6 : decode cX7_leastCost 6 = .ok (.getfield 9, 3) := by decide +kernel
theorem dX7_leastCost_9 : decode cX7_leastCost 9 = .ok (.iconst 0, 1) := by decide +kernel
theorem dX7_leastCost_10 : decode cX7_leastCost 10 = .ok (.laload, 1) := by decide +kernel
theorem dX7_leastCost_11 : decode cX7_leastCost 11 = .ok (.lreturn, 1) := by decide +kernel
theorem dX7_findFits_0 : decode cX7_findFits 0 = .ok (.iconst 2, 1) := by decide +kernel
theorem dX7_findFits_1 : decode cX7_findFits 1 = .ok (.aload_n 1, 1) := by decide +kernel
theorem dX7_findFits_2 : decode cX7_findFits 2 = .ok (.invokevirtual 43, 3) := by decide +kernel
theorem dX7_findFits_5 : decode cX7_findFits 5 = .ok (.imul, 1) := by decide +kernel
theorem dX7_findFits_6 : decode cX7_findFits 6 = .ok (.istore_n 2, 1) := by decide +kernel
theorem dX7_findFits_7 : decode cX7_findFits 7 = .ok (.iconst 0, 1) := by decide +kernel
theorem dX7_findFits_8 : decode cX7_findFits 8 = .ok (.istore_n 3, 1) := by decide +kernel
theorem dX7_findFits_9 : decode cX7_findFits 9 = .ok (.iload_n 3, 1) := by decide +kernel
theorem dX7_findFits_10 : decode cX7_findFits 10 = .ok (.iload_n 2, 1) := by decide +kernel
theorem dX7_findFits_11 : decode cX7_findFits 11 = .ok (.if_icmp .ge 38, 3) := by decide +kernel
theorem dX7_findFits_14 : decode cX7_findFits 14 = .ok (.aload_n 0, 1) := by decide +kernel
theorem dX7_findFits_15 : decode cX7_findFits 15 = .ok (.getfield 18, 3) := by decide +kernel
theorem dX7_findFits_18 : decode cX7_findFits 18 = .ok (.iload_n 3, 1) := by decide +kernel
theorem dX7_findFits_19 : decode cX7_findFits 19 = .ok (.aload_n 1, 1) := by decide +kernel
theorem dX7_findFits_20 : decode cX7_findFits 20 = .ok (.iload_n 3, 1) := by decide +kernel
theorem dX7_findFits_21 : decode cX7_findFits 21 = .ok (.invokevirtual 49, 3) := by decide +kernel
theorem dX7_findFits_24 : decode cX7_findFits 24 = .ok (.ifCond .eq 17, 3) := by decide +kernel
theorem dX7_findFits_27 : decode cX7_findFits 27 = .ok (.aload_n 1, 1) := by decide +kernel
theorem dX7_findFits_28 : decode cX7_findFits 28 = .ok (.getfield 53, 3) := by decide +kernel
theorem dX7_findFits_31 : decode cX7_findFits 31 = .ok (.iload_n 3, 1) := by decide +kernel
theorem dX7_findFits_32 : decode cX7_findFits 32 = .ok (.iaload, 1) := by decide +kernel
theorem dX7_findFits_33 : decode cX7_findFits 33 = .ok (.iconst 2, 1) := by decide +kernel
theorem dX7_findFits_34 : decode cX7_findFits 34 = .ok (.if_icmp .eq 7, 3) := by decide +kernel
theorem dX7_findFits_37 : decode cX7_findFits 37 = .ok (.iconst 1, 1) := by decide +kernel
theorem dX7_findFits_38 : decode cX7_findFits 38 = .ok (.goto 4, 3) := by decide +kernel
theorem dX7_findFits_41 : decode cX7_findFits 41 = .ok (.iconst 0, 1) := by decide +kernel
theorem dX7_findFits_42 : decode cX7_findFits 42 = .ok (.bastore, 1) := by decide +kernel
theorem dX7_findFits_43 : decode cX7_findFits 43 = .ok (.iinc 3 1, 3) := by decide +kernel
theorem dX7_findFits_46 : decode cX7_findFits 46 = .ok (.goto (-37), 3) := by decide +kernel
theorem dX7_findFits_49 : decode cX7_findFits 49 = .ok (.iconst 0, 1) := by decide +kernel
theorem dX7_findFits_50 : decode cX7_findFits 50 = .ok (.istore_n 3, 1) := by decide +kernel
theorem dX7_findFits_51 : decode cX7_findFits 51 = .ok (.iload_n 3, 1) := by decide +kernel
theorem dX7_findFits_52 : decode cX7_findFits 52 = .ok (.iload_n 2, 1) := by decide +kernel
theorem dX7_findFits_53 : decode cX7_findFits 53 = .ok (.if_icmp .ge 42, 3) := by decide +kernel
theorem dX7_findFits_56 : decode cX7_findFits 56 = .ok (.aload_n 1, 1) := by decide +kernel
theorem dX7_findFits_57 : decode cX7_findFits 57 = .ok (.getfield 53, 3) := by decide +kernel
theorem dX7_findFits_60 : decode cX7_findFits 60 = .ok (.iload_n 3, 1) := by decide +kernel
theorem dX7_findFits_61 : decode cX7_findFits 61 = .ok (.iaload, 1) := by decide +kernel
theorem dX7_findFits_62 : decode cX7_findFits 62 = .ok (.iconst 1, 1) := by decide +kernel
theorem dX7_findFits_63 : decode cX7_findFits 63 = .ok (.if_icmp .eq 6, 3) := by decide +kernel
theorem dX7_findFits_66 : decode cX7_findFits 66 = .ok (.goto 23, 3) := by decide +kernel
theorem dX7_findFits_69 : decode cX7_findFits 69 = .ok (.aload_n 0, 1) := by decide +kernel
theorem dX7_findFits_70 : decode cX7_findFits 70 = .ok (.aload_n 1, 1) := by decide +kernel
theorem dX7_findFits_71 : decode cX7_findFits 71 = .ok (.iload_n 3, 1) := by decide +kernel
theorem dX7_findFits_72 : decode cX7_findFits 72 = .ok (.iconst 2, 1) := by decide +kernel
theorem dX7_findFits_73 : decode cX7_findFits 73 = .ok (.idiv, 1) := by decide +kernel
theorem dX7_findFits_74 : decode cX7_findFits 74 = .ok (.iload_n 3, 1) := by decide +kernel
theorem dX7_findFits_75 : decode cX7_findFits 75 = .ok (.invokevirtual 57, 3) := by decide +kernel
theorem dX7_findFits_78 : decode cX7_findFits 78 = .ok (.aload_n 0, 1) := by decide +kernel
theorem dX7_findFits_79 : decode cX7_findFits 79 = .ok (.aload_n 1, 1) := by decide +kernel
theorem dX7_findFits_80 : decode cX7_findFits 80 = .ok (.aload_n 1, 1) := by decide +kernel
theorem dX7_findFits_81 : decode cX7_findFits 81 = .ok (.iload_n 3, 1) := by decide +kernel
theorem dX7_findFits_82 : decode cX7_findFits 82 = .ok (.invokevirtual 61, 3) := by decide +kernel
theorem dX7_findFits_85 : decode cX7_findFits 85 = .ok (.iload_n 3, 1) := by decide +kernel
theorem dX7_findFits_86 : decode cX7_findFits 86 = .ok (.invokevirtual 57, 3) := by decide +kernel
theorem dX7_findFits_89 : decode cX7_findFits 89 = .ok (.iinc 3 1, 3) := by decide +kernel
theorem dX7_findFits_92 : decode cX7_findFits 92 = .ok (.goto (-41), 3) := by decide +kernel
theorem dX7_findFits_95 : decode cX7_findFits 95 = .ok (.return_, 1) := by decide +kernel
theorem dX7_dropOthers_0 : decode cX7_dropOthers 0 = .ok (.iload_n 2, 1) := by decide +kernel
theorem dX7_dropOthers_1 : decode cX7_dropOthers 1 = .ok (.ifCond .ge 4, 3) := by decide +kernel
theorem dX7_dropOthers_4 : decode cX7_dropOthers 4 = .ok (.return_, 1) := by decide +kernel
theorem dX7_dropOthers_5 : decode cX7_dropOthers 5 = .ok (.iconst 0, 1) := by decide +kernel
theorem dX7_dropOthers_6 : decode cX7_dropOthers 6 = .ok (.istore 4, 2) := by decide +kernel
theorem dX7_dropOthers_8 : decode cX7_dropOthers 8 = .ok (.iload 4, 2) := by decide +kernel
theorem dX7_dropOthers_10 : decode cX7_dropOthers 10 = .ok (.iconst 4, 1) := by decide +kernel
theorem dX7_dropOthers_11 : decode cX7_dropOthers 11 = .ok (.if_icmp .ge 37, 3) := by decide +kernel
theorem dX7_dropOthers_14 : decode cX7_dropOthers 14 = .ok (.aload_n 1, 1) := by decide +kernel
theorem dX7_dropOthers_15 : decode cX7_dropOthers 15 = .ok (.iload_n 2, 1) := by decide +kernel
theorem dX7_dropOthers_16 : decode cX7_dropOthers 16 = .ok (.iload 4, 2) := by decide +kernel
theorem dX7_dropOthers_18 : decode cX7_dropOthers 18 = .ok (.invokevirtual 65, 3) := by decide +kernel
theorem dX7_dropOthers_21 : decode cX7_dropOthers 21 = .ok (.istore 5, 2) := by decide +kernel
theorem dX7_dropOthers_23 : decode cX7_dropOthers 23 = .ok (.iload 5, 2) := by decide +kernel
theorem dX7_dropOthers_25 : decode cX7_dropOthers 25 = .ok (.ifCond .lt 17, 3) := by decide +kernel
theorem dX7_dropOthers_28 : decode cX7_dropOthers 28 = .ok (.iload 5, 2) := by decide +kernel
theorem dX7_dropOthers_30 : decode cX7_dropOthers 30 = .ok (.iload_n 3, 1) := by decide +kernel
theorem dX7_dropOthers_31 : decode cX7_dropOthers 31 = .ok (.if_icmp .eq 11, 3) := by decide +kernel
theorem dX7_dropOthers_34 : decode cX7_dropOthers 34 = .ok (.aload_n 0, 1) := by decide +kernel
theorem dX7_dropOthers_35 : decode cX7_dropOthers 35 = .ok (.getfield 18, 3) := by decide +kernel
theorem dX7_dropOthers_38 : decode cX7_dropOthers 38 = .ok (.iload 5, 2) := by decide +kernel
theorem dX7_dropOthers_40 : decode cX7_dropOthers 40 = .ok (.iconst 0, 1) := by decide +kernel
theorem dX7_dropOthers_41 : decode cX7_dropOthers 41 = .ok (.bastore, 1) := by decide +kernel
theorem dX7_dropOthers_42 : decode cX7_dropOthers 42 = .ok (.iinc 4 1, 3) := by decide +kernel
theorem dX7_dropOthers_45 : decode cX7_dropOthers 45 = .ok (.goto (-37), 3) := by decide +kernel
theorem dX7_dropOthers_48 : decode cX7_dropOthers 48 = .ok (.return_, 1) := by decide +kernel
theorem dX7_fillWays_0 : decode cX7_fillWays 0 = .ok (.aload_n 0, 1) := by decide +kernel
theorem dX7_fillWays_1 : decode cX7_fillWays 1 = .ok (.getfield 28, 3) := by decide +kernel
theorem dX7_fillWays_4 : decode cX7_fillWays 4 = .ok (.iconst 1, 1) := by decide +kernel
theorem dX7_fillWays_5 : decode cX7_fillWays 5 = .ok (.if_icmp .ne 4, 3) := by decide +kernel
theorem dX7_fillWays_8 : decode cX7_fillWays 8 = .ok (.return_, 1) := by decide +kernel
theorem dX7_fillWays_9 : decode cX7_fillWays 9 = .ok (.aload_n 0, 1) := by decide +kernel
theorem dX7_fillWays_10 : decode cX7_fillWays 10 = .ok (.aload_n 1, 1) := by decide +kernel
theorem dX7_fillWays_11 : decode cX7_fillWays 11 = .ok (.invokevirtual 69, 3) := by decide +kernel
theorem dX7_fillWays_14 : decode cX7_fillWays 14 = .ok (.aload_n 0, 1) := by decide +kernel
theorem dX7_fillWays_15 : decode cX7_fillWays 15 = .ok (.aload_n 1, 1) := by decide +kernel
theorem dX7_fillWays_16 : decode cX7_fillWays 16 = .ok (.lconst 1, 1) := by decide +kernel
theorem dX7_fillWays_17 : decode cX7_fillWays 17 = .ok (.lconst 0, 1) := by decide +kernel
theorem dX7_fillWays_18 : decode cX7_fillWays 18 = .ok (.invokevirtual 72, 3) := by decide +kernel
theorem dX7_fillWays_21 : decode cX7_fillWays 21 = .ok (.aload_n 1, 1) := by decide +kernel
theorem dX7_fillWays_22 : decode cX7_fillWays 22 = .ok (.invokevirtual 43, 3) := by decide +kernel
theorem dX7_fillWays_25 : decode cX7_fillWays 25 = .ok (.iconst 1, 1) := by decide +kernel
theorem dX7_fillWays_26 : decode cX7_fillWays 26 = .ok (.isub, 1) := by decide +kernel
theorem dX7_fillWays_27 : decode cX7_fillWays 27 = .ok (.istore_n 2, 1) := by decide +kernel
theorem dX7_fillWays_28 : decode cX7_fillWays 28 = .ok (.iload_n 2, 1) := by decide +kernel
theorem dX7_fillWays_29 : decode cX7_fillWays 29 = .ok (.ifCond .lt 15, 3) := by decide +kernel
theorem dX7_fillWays_32 : decode cX7_fillWays 32 = .ok (.aload_n 0, 1) := by decide +kernel
theorem dX7_fillWays_33 : decode cX7_fillWays 33 = .ok (.aload_n 1, 1) := by decide +kernel
theorem dX7_fillWays_34 : decode cX7_fillWays 34 = .ok (.iload_n 2, 1) := by decide +kernel
theorem dX7_fillWays_35 : decode cX7_fillWays 35 = .ok (.invokevirtual 76, 3) := by decide +kernel
theorem dX7_fillWays_38 : decode cX7_fillWays 38 = .ok (.iinc 2 (-1), 3) := by decide +kernel
theorem dX7_fillWays_41 : decode cX7_fillWays 41 = .ok (.goto (-13), 3) := by decide +kernel
theorem dX7_fillWays_44 : decode cX7_fillWays 44 = .ok (.aload_n 0, 1) := by decide +kernel
theorem dX7_fillWays_45 : decode cX7_fillWays 45 = .ok (.iconst 1, 1) := by decide +kernel
theorem dX7_fillWays_46 : decode cX7_fillWays 46 = .ok (.putfield 28, 3) := by decide +kernel
theorem dX7_fillWays_49 : decode cX7_fillWays 49 = .ok (.return_, 1) := by decide +kernel
theorem dX7_fillCosts_0 : decode cX7_fillCosts 0 = .ok (.aload_n 0, 1) := by decide +kernel
theorem dX7_fillCosts_1 : decode cX7_fillCosts 1 = .ok (.getfield 28, 3) := by decide +kernel
theorem dX7_fillCosts_4 : decode cX7_fillCosts 4 = .ok (.iconst 2, 1) := by decide +kernel
theorem dX7_fillCosts_5 : decode cX7_fillCosts 5 = .ok (.if_icmp .ne 4, 3) := by decide +kernel
theorem dX7_fillCosts_8 : decode cX7_fillCosts 8 = .ok (.return_, 1) := by decide +kernel
theorem dX7_fillCosts_9 : decode cX7_fillCosts 9 = .ok (.aload_n 0, 1) := by decide +kernel
theorem dX7_fillCosts_10 : decode cX7_fillCosts 10 = .ok (.aload_n 1, 1) := by decide +kernel
theorem dX7_fillCosts_11 : decode cX7_fillCosts 11 = .ok (.invokevirtual 69, 3) := by decide +kernel
theorem dX7_fillCosts_14 : decode cX7_fillCosts 14 = .ok (.aload_n 0, 1) := by decide +kernel
theorem dX7_fillCosts_15 : decode cX7_fillCosts 15 = .ok (.aload_n 1, 1) := by decide +kernel
theorem dX7_fillCosts_16 : decode cX7_fillCosts 16 = .ok (.lconst 0, 1) := by decide +kernel
theorem dX7_fillCosts_17 : decode cX7_fillCosts 17 = .ok (.ldc2_w 80, 3) := by decide +kernel
theorem dX7_fillCosts_20 : decode cX7_fillCosts 20 = .ok (.invokevirtual 72, 3) := by decide +kernel
theorem dX7_fillCosts_23 : decode cX7_fillCosts 23 = .ok (.aload_n 1, 1) := by decide +kernel
theorem dX7_fillCosts_24 : decode cX7_fillCosts 24 = .ok (.invokevirtual 43, 3) := by decide +kernel
theorem dX7_fillCosts_27 : decode cX7_fillCosts 27 = .ok (.iconst 1, 1) := by decide +kernel
theorem dX7_fillCosts_28 : decode cX7_fillCosts 28 = .ok (.isub, 1) := by decide +kernel
theorem dX7_fillCosts_29 : decode cX7_fillCosts 29 = .ok (.istore_n 2, 1) := by decide +kernel
theorem dX7_fillCosts_30 : decode cX7_fillCosts 30 = .ok (.iload_n 2, 1) := by decide +kernel
theorem dX7_fillCosts_31 : decode cX7_fillCosts 31 = .ok (.ifCond .lt 15, 3) := by decide +kernel
theorem dX7_fillCosts_34 : decode cX7_fillCosts 34 = .ok (.aload_n 0, 1) := by decide +kernel
theorem dX7_fillCosts_35 : decode cX7_fillCosts 35 = .ok (.aload_n 1, 1) := by decide +kernel
theorem dX7_fillCosts_36 : decode cX7_fillCosts 36 = .ok (.iload_n 2, 1) := by decide +kernel
theorem dX7_fillCosts_37 : decode cX7_fillCosts 37 = .ok (.invokevirtual 82, 3) := by decide +kernel
theorem dX7_fillCosts_40 : decode cX7_fillCosts 40 = .ok (.iinc 2 (-1), 3) := by decide +kernel
theorem dX7_fillCosts_43 : decode cX7_fillCosts 43 = .ok (.goto (-13), 3) := by decide +kernel
theorem dX7_fillCosts_46 : decode cX7_fillCosts 46 = .ok (.aload_n 0, 1) := by decide +kernel
theorem dX7_fillCosts_47 : decode cX7_fillCosts 47 = .ok (.iconst 2, 1) := by decide +kernel
theorem dX7_fillCosts_48 : decode cX7_fillCosts 48 = .ok (.putfield 28, 3) := by decide +kernel
theorem dX7_fillCosts_51 : decode cX7_fillCosts 51 = .ok (.return_, 1) := by decide +kernel
theorem dX7_startTable_0 : decode cX7_startTable 0 = .ok (.aload_n 1, 1) := by decide +kernel
theorem dX7_startTable_1 : decode cX7_startTable 1 = .ok (.invokevirtual 43, 3) := by decide +kernel
theorem dX7_startTable_4 : decode cX7_startTable 4 = .ok (.sipush 256, 3) := by decide +kernel
theorem dX7_startTable_7 : decode cX7_startTable 7 = .ok (.imul, 1) := by decide +kernel
theorem dX7_startTable_8 : decode cX7_startTable 8 = .ok (.istore 6, 2) := by decide +kernel
theorem dX7_startTable_10 : decode cX7_startTable 10 = .ok (.iconst 0, 1) := by decide +kernel
theorem dX7_startTable_11 : decode cX7_startTable 11 = .ok (.istore 7, 2) := by decide +kernel
theorem dX7_startTable_13 : decode cX7_startTable 13 = .ok (.iload 7, 2) := by decide +kernel
theorem dX7_startTable_15 : decode cX7_startTable 15 = .ok (.iconst 1, 1) := by decide +kernel
theorem dX7_startTable_16 : decode cX7_startTable 16 = .ok (.aload_n 1, 1) := by decide +kernel
theorem dX7_startTable_17 : decode cX7_startTable 17 = .ok (.getfield 85, 3) := by decide +kernel
theorem dX7_startTable_20 : decode cX7_startTable 20 = .ok (.ishl, 1) := by decide +kernel
theorem dX7_startTable_21 : decode cX7_startTable 21 = .ok (.if_icmp .ge 21, 3) := by decide +kernel
theorem dX7_startTable_24 : decode cX7_startTable 24 = .ok (.aload_n 0, 1) := by decide +kernel
theorem dX7_startTable_25 : decode cX7_startTable 25 = .ok (.getfield 9, 3) := by decide +kernel
theorem dX7_startTable_28 : decode cX7_startTable 28 = .ok (.iload 6, 2) := by decide +kernel
theorem dX7_startTable_30 : decode cX7_startTable 30 = .ok (.iload 7, 2) := by decide +kernel
theorem dX7_startTable_32 : decode cX7_startTable 32 = .ok (.iadd, 1) := by decide +kernel
theorem dX7_startTable_33 : decode cX7_startTable 33 = .ok (.lload 4, 2) := by decide +kernel
theorem dX7_startTable_35 : decode cX7_startTable 35 = .ok (.lastore, 1) := by decide +kernel
theorem dX7_startTable_36 : decode cX7_startTable 36 = .ok (.iinc 7 1, 3) := by decide +kernel
theorem dX7_startTable_39 : decode cX7_startTable 39 = .ok (.goto (-26), 3) := by decide +kernel
theorem dX7_startTable_42 : decode cX7_startTable 42 = .ok (.aload_n 0, 1) := by decide +kernel
theorem dX7_startTable_43 : decode cX7_startTable 43 = .ok (.getfield 9, 3) := by decide +kernel
theorem dX7_startTable_46 : decode cX7_startTable 46 = .ok (.iload 6, 2) := by decide +kernel
theorem dX7_startTable_48 : decode cX7_startTable 48 = .ok (.lload_n 2, 1) := by decide +kernel
theorem dX7_startTable_49 : decode cX7_startTable 49 = .ok (.lastore, 1) := by decide +kernel
theorem dX7_startTable_50 : decode cX7_startTable 50 = .ok (.return_, 1) := by decide +kernel
theorem dX7_fillWaysAt_0 : decode cX7_fillWaysAt 0 = .ok (.iload_n 2, 1) := by decide +kernel
theorem dX7_fillWaysAt_1 : decode cX7_fillWaysAt 1 = .ok (.sipush 256, 3) := by decide +kernel
theorem dX7_fillWaysAt_4 : decode cX7_fillWaysAt 4 = .ok (.imul, 1) := by decide +kernel
theorem dX7_fillWaysAt_5 : decode cX7_fillWaysAt 5 = .ok (.istore_n 3, 1) := by decide +kernel
theorem dX7_fillWaysAt_6 : decode cX7_fillWaysAt 6 = .ok (.iload_n 3, 1) := by decide +kernel
theorem dX7_fillWaysAt_7 : decode cX7_fillWaysAt 7 = .ok (.sipush 256, 3) := by decide +kernel
theorem dX7_fillWaysAt_10 : decode cX7_fillWaysAt 10 = .ok (.iadd, 1) := by decide +kernel
theorem dX7_fillWaysAt_11 : decode cX7_fillWaysAt 11 = .ok (.istore 4, 2) := by decide +kernel
theorem dX7_fillWaysAt_13 : decode cX7_fillWaysAt 13 = .ok (.iconst 1, 1) := by decide +kernel
theorem dX7_fillWaysAt_14 : decode cX7_fillWaysAt 14 = .ok (.aload_n 1, 1) := by decide +kernel
theorem dX7_fillWaysAt_15 : decode cX7_fillWaysAt 15 = .ok (.iload_n 2, 1) := by decide +kernel
theorem dX7_fillWaysAt_16 : decode cX7_fillWaysAt 16 = .ok (.invokevirtual 88, 3) := by decide +kernel
theorem dX7_fillWaysAt_19 : decode cX7_fillWaysAt 19 = .ok (.ishl, 1) := by decide +kernel
theorem dX7_fillWaysAt_20 : decode cX7_fillWaysAt 20 = .ok (.istore 5, 2) := by decide +kernel
theorem dX7_fillWaysAt_22 : decode cX7_fillWaysAt 22 = .ok (.aload_n 0, 1) := by decide +kernel
theorem dX7_fillWaysAt_23 : decode cX7_fillWaysAt 23 = .ok (.getfield 18, 3) := by decide +kernel
theorem dX7_fillWaysAt_26 : decode cX7_fillWaysAt 26 = .ok (.iconst 2, 1) := by decide +kernel
theorem dX7_fillWaysAt_27 : decode cX7_fillWaysAt 27 = .ok (.iload_n 2, 1) := by decide +kernel
theorem dX7_fillWaysAt_28 : decode cX7_fillWaysAt 28 = .ok (.imul, 1) := by decide +kernel
theorem dX7_fillWaysAt_29 : decode cX7_fillWaysAt 29 = .ok (.baload, 1) := by decide +kernel
theorem dX7_fillWaysAt_30 : decode cX7_fillWaysAt 30 = .ok (.istore 6, 2) := by decide +kernel
theorem dX7_fillWaysAt_32 : decode cX7_fillWaysAt 32 = .ok (.aload_n 0, 1) := by decide +kernel
theorem dX7_fillWaysAt_33 : decode cX7_fillWaysAt 33 = .ok (.getfield 18, 3) := by decide +kernel
theorem dX7_fillWaysAt_36 : decode cX7_fillWaysAt 36 = .ok (.iconst 2, 1) := by decide +kernel
theorem dX7_fillWaysAt_37 : decode cX7_fillWaysAt 37 = .ok (.iload_n 2, 1) := by decide +kernel
theorem dX7_fillWaysAt_38 : decode cX7_fillWaysAt 38 = .ok (.imul, 1) := by decide +kernel
theorem dX7_fillWaysAt_39 : decode cX7_fillWaysAt 39 = .ok (.iconst 1, 1) := by decide +kernel
theorem dX7_fillWaysAt_40 : decode cX7_fillWaysAt 40 = .ok (.iadd, 1) := by decide +kernel
theorem dX7_fillWaysAt_41 : decode cX7_fillWaysAt 41 = .ok (.baload, 1) := by decide +kernel
theorem dX7_fillWaysAt_42 : decode cX7_fillWaysAt 42 = .ok (.istore 7, 2) := by decide +kernel
theorem dX7_fillWaysAt_44 : decode cX7_fillWaysAt 44 = .ok (.iconst 0, 1) := by decide +kernel
theorem dX7_fillWaysAt_45 : decode cX7_fillWaysAt 45 = .ok (.istore 8, 2) := by decide +kernel
theorem dX7_fillWaysAt_47 : decode cX7_fillWaysAt 47 = .ok (.iload 8, 2) := by decide +kernel
theorem dX7_fillWaysAt_49 : decode cX7_fillWaysAt 49 = .ok (.iconst 1, 1) := by decide +kernel
theorem dX7_fillWaysAt_50 : decode cX7_fillWaysAt 50 = .ok (.aload_n 1, 1) := by decide +kernel
theorem dX7_fillWaysAt_51 : decode cX7_fillWaysAt 51 = .ok (.getfield 85, 3) := by decide +kernel
theorem dX7_fillWaysAt_54 : decode cX7_fillWaysAt 54 = .ok (.ishl, 1) := by decide +kernel
theorem dX7_fillWaysAt_55 : decode cX7_fillWaysAt 55 = .ok (.if_icmp .ge 136, 3) := by decide +kernel
theorem dX7_fillWaysAt_58 : decode cX7_fillWaysAt 58 = .ok (.lconst 0, 1) := by decide +kernel
theorem dX7_fillWaysAt_59 : decode cX7_fillWaysAt 59 = .ok (.lstore 9, 2) := by decide +kernel
theorem dX7_fillWaysAt_61 : decode cX7_fillWaysAt 61 = .ok (.aload_n 1, 1) := by decide +kernel
theorem dX7_fillWaysAt_62 : decode cX7_fillWaysAt 62 = .ok (.getfield 91, 3) := by decide +kernel
theorem dX7_fillWaysAt_65 : decode cX7_fillWaysAt 65 = .ok (.iload_n 2, 1) := by decide +kernel
theorem dX7_fillWaysAt_66 : decode cX7_fillWaysAt 66 = .ok (.baload, 1) := by decide +kernel
theorem dX7_fillWaysAt_67 : decode cX7_fillWaysAt 67 = .ok (.ifCond .ne 26, 3) := by decide +kernel
theorem dX7_fillWaysAt_70 : decode cX7_fillWaysAt 70 = .ok (.iload 8, 2) := by decide +kernel
theorem dX7_fillWaysAt_72 : decode cX7_fillWaysAt 72 = .ok (.iload 5, 2) := by decide +kernel
theorem dX7_fillWaysAt_74 : decode cX7_fillWaysAt 74 = .ok (.iand, 1) := by decide +kernel
theorem dX7_fillWaysAt_75 : decode cX7_fillWaysAt 75 = .ok (.ifCond .ne 99, 3) := by decide +kernel
theorem dX7_fillWaysAt_78 : decode cX7_fillWaysAt 78 = .ok (.aload_n 0, 1) := by decide +kernel
theorem dX7_fillWaysAt_79 : decode cX7_fillWaysAt 79 = .ok (.getfield 9, 3) := by decide +kernel
