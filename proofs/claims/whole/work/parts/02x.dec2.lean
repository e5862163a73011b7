theorem dX11_bricks_46 : decode cX11_bricks 46 = .ok (.iload_n 1, 1) := by decide +kernel
theorem dX11_bricks_47 : decode cX11_bricks 47 = .ok (.aaload, 1) := by decide +kernel
theorem dX11_bricks_48 : decode cX11_bricks 48 = .ok (.aload_n 0, 1) := by decide +kernel
theorem dX11_bricks_49 : decode cX11_bricks 49 = .ok (.getfield 10, 3) := by decide +kernel
theorem dX11_bricks_52 : decode cX11_bricks 52 = .ok (.aload_n 0, 1) := by decide +kernel
theorem dX11_bricks_53 : decode cX11_bricks 53 = .ok (.getfield 73, 3) := by decide +kernel
theorem dX11_bricks_56 : decode cX11_bricks 56 = .ok (.iload_n 2, 1) := by decide +kernel
theorem dX11_bricks_57 : decode cX11_bricks 57 = .ok (.aaload, 1) := by decide +kernel
theorem dX11_bricks_58 : decode cX11_bricks 58 = .ok (.invokevirtual 235, 3) := by decide +kernel
theorem dX11_bricks_61 : decode cX11_bricks 61 = .ok (.ifCond .eq 7, 3) := by decide +kernel
theorem dX11_bricks_64 : decode cX11_bricks 64 = .ok (.iconst 1, 1) := by decide +kernel
theorem dX11_bricks_65 : decode cX11_bricks 65 = .ok (.goto 5, 3) := by decide +kernel
theorem dX11_bricks_68 : decode cX11_bricks 68 = .ok (.bipush (-2), 2) := by decide +kernel
theorem dX11_bricks_70 : decode cX11_bricks 70 = .ok (.ireturn, 1) := by decide +kernel
theorem dX11_most_0 : decode cX11_most 0 = .ok (.aload_n 0, 1) := by decide +kernel
theorem dX11_most_1 : decode cX11_most 1 = .ok (.getfield 40, 3) := by decide +kernel
theorem dX11_most_4 : decode cX11_most 4 = .ok (.aload_n 0, 1) := by decide +kernel
theorem dX11_most_5 : decode cX11_most 5 = .ok (.getfield 10, 3) := by decide +kernel
theorem dX11_most_8 : decode cX11_most 8 = .ok (.invokevirtual 239, 3) := by decide +kernel
theorem dX11_most_11 : decode cX11_most 11 = .ok (.ireturn, 1) := by decide +kernel
theorem dX11_bar_0 : decode cX11_bar 0 = .ok (.iload_n 1, 1) := by decide +kernel
theorem dX11_bar_1 : decode cX11_bar 1 = .ok (.ifCond .eq 8, 3) := by decide +kernel
theorem dX11_bar_4 : decode cX11_bar 4 = .ok (.iload_n 1, 1) := by decide +kernel
theorem dX11_bar_5 : decode cX11_bar 5 = .ok (.iconst 1, 1) := by decide +kernel
theorem dX11_bar_6 : decode cX11_bar 6 = .ok (.if_icmp .ne 12, 3) := by decide +kernel
theorem dX11_bar_9 : decode cX11_bar 9 = .ok (.iload_n 2, 1) := by decide +kernel
theorem dX11_bar_10 : decode cX11_bar 10 = .ok (.ifCond .eq 10, 3) := by decide +kernel
theorem dX11_bar_13 : decode cX11_bar 13 = .ok (.iload_n 2, 1) := by decide +kernel
theorem dX11_bar_14 : decode cX11_bar 14 = .ok (.iconst 1, 1) := by decide +kernel
theorem dX11_bar_15 : decode cX11_bar 15 = .ok (.if_icmp .eq 5, 3) := by decide +kernel
theorem dX11_bar_18 : decode cX11_bar 18 = .ok (.iconst (-1), 1) := by decide +kernel
theorem dX11_bar_19 : decode cX11_bar 19 = .ok (.ireturn, 1) := by decide +kernel
theorem dX11_bar_20 : decode cX11_bar 20 = .ok (.aload_n 0, 1) := by decide +kernel
theorem dX11_bar_21 : decode cX11_bar 21 = .ok (.getfield 40, 3) := by decide +kernel
theorem dX11_bar_24 : decode cX11_bar 24 = .ok (.aload_n 0, 1) := by decide +kernel
theorem dX11_bar_25 : decode cX11_bar 25 = .ok (.getfield 10, 3) := by decide +kernel
theorem dX11_bar_28 : decode cX11_bar 28 = .ok (.iload_n 1, 1) := by decide +kernel
theorem dX11_bar_29 : decode cX11_bar 29 = .ok (.ifCond .ne 7, 3) := by decide +kernel
theorem dX11_bar_32 : decode cX11_bar 32 = .ok (.iconst 1, 1) := by decide +kernel
theorem dX11_bar_33 : decode cX11_bar 33 = .ok (.goto 4, 3) := by decide +kernel
theorem dX11_bar_36 : decode cX11_bar 36 = .ok (.iconst 0, 1) := by decide +kernel
theorem dX11_bar_37 : decode cX11_bar 37 = .ok (.invokevirtual 242, 3) := by decide +kernel
theorem dX11_bar_40 : decode cX11_bar 40 = .ok (.aload_n 0, 1) := by decide +kernel
theorem dX11_bar_41 : decode cX11_bar 41 = .ok (.getfield 40, 3) := by decide +kernel
theorem dX11_bar_44 : decode cX11_bar 44 = .ok (.aload_n 0, 1) := by decide +kernel
theorem dX11_bar_45 : decode cX11_bar 45 = .ok (.getfield 10, 3) := by decide +kernel
theorem dX11_bar_48 : decode cX11_bar 48 = .ok (.iload_n 2, 1) := by decide +kernel
theorem dX11_bar_49 : decode cX11_bar 49 = .ok (.ifCond .ne 7, 3) := by decide +kernel
theorem dX11_bar_52 : decode cX11_bar 52 = .ok (.iconst 2, 1) := by decide +kernel
theorem dX11_bar_53 : decode cX11_bar 53 = .ok (.goto 4, 3) := by decide +kernel
theorem dX11_bar_56 : decode cX11_bar 56 = .ok (.iconst 1, 1) := by decide +kernel
theorem dX11_bar_57 : decode cX11_bar 57 = .ok (.invokevirtual 246, 3) := by decide +kernel
theorem dX11_bar_60 : decode cX11_bar 60 = .ok (.ireturn, 1) := by decide +kernel
theorem dX11_bars_0 : decode cX11_bars 0 = .ok (.iload_n 1, 1) := by decide +kernel
theorem dX11_bars_1 : decode cX11_bars 1 = .ok (.ifCond .eq 8, 3) := by decide +kernel
theorem dX11_bars_4 : decode cX11_bars 4 = .ok (.iload_n 1, 1) := by decide +kernel
theorem dX11_bars_5 : decode cX11_bars 5 = .ok (.iconst 1, 1) := by decide +kernel
theorem dX11_bars_6 : decode cX11_bars 6 = .ok (.if_icmp .ne 14, 3) := by decide +kernel
theorem dX11_bars_9 : decode cX11_bars 9 = .ok (.aload_n 0, 1) := by decide +kernel
theorem dX11_bars_10 : decode cX11_bars 10 = .ok (.getfield 10, 3) := by decide +kernel
theorem dX11_bars_13 : decode cX11_bars 13 = .ok (.iload_n 2, 1) := by decide +kernel
theorem dX11_bars_14 : decode cX11_bars 14 = .ok (.invokevirtual 208, 3) := by decide +kernel
theorem dX11_bars_17 : decode cX11_bars 17 = .ok (.ifCond .ne 5, 3) := by decide +kernel
theorem dX11_bars_20 : decode cX11_bars 20 = .ok (.iconst (-1), 1) := by decide +kernel
theorem dX11_bars_21 : decode cX11_bars 21 = .ok (.ireturn, 1) := by decide +kernel
theorem dX11_bars_22 : decode cX11_bars 22 = .ok (.aload_n 0, 1) := by decide +kernel
theorem dX11_bars_23 : decode cX11_bars 23 = .ok (.getfield 40, 3) := by decide +kernel
theorem dX11_bars_26 : decode cX11_bars 26 = .ok (.aload_n 0, 1) := by decide +kernel
theorem dX11_bars_27 : decode cX11_bars 27 = .ok (.getfield 10, 3) := by decide +kernel
theorem dX11_bars_30 : decode cX11_bars 30 = .ok (.iload_n 1, 1) := by decide +kernel
theorem dX11_bars_31 : decode cX11_bars 31 = .ok (.ifCond .ne 7, 3) := by decide +kernel
theorem dX11_bars_34 : decode cX11_bars 34 = .ok (.iconst 1, 1) := by decide +kernel
theorem dX11_bars_35 : decode cX11_bars 35 = .ok (.goto 4, 3) := by decide +kernel
theorem dX11_bars_38 : decode cX11_bars 38 = .ok (.iconst 0, 1) := by decide +kernel
theorem dX11_bars_39 : decode cX11_bars 39 = .ok (.invokevirtual 242, 3) := by decide +kernel
theorem dX11_bars_42 : decode cX11_bars 42 = .ok (.aload_n 0, 1) := by decide +kernel
theorem dX11_bars_43 : decode cX11_bars 43 = .ok (.getfield 40, 3) := by decide +kernel
theorem dX11_bars_46 : decode cX11_bars 46 = .ok (.getfield 250, 3) := by decide +kernel
theorem dX11_bars_49 : decode cX11_bars 49 = .ok (.iload_n 2, 1) := by decide +kernel
theorem dX11_bars_50 : decode cX11_bars 50 = .ok (.iaload, 1) := by decide +kernel
theorem dX11_bars_51 : decode cX11_bars 51 = .ok (.ireturn, 1) := by decide +kernel
theorem dX11_whole_0 : decode cX11_whole 0 = .ok (.aload_n 0, 1) := by decide +kernel
theorem dX11_whole_1 : decode cX11_whole 1 = .ok (.getfield 47, 3) := by decide +kernel
theorem dX11_whole_4 : decode cX11_whole 4 = .ok (.aload_n 0, 1) := by decide +kernel
theorem dX11_whole_5 : decode cX11_whole 5 = .ok (.getfield 10, 3) := by decide +kernel
theorem dX11_whole_8 : decode cX11_whole 8 = .ok (.invokevirtual 253, 3) := by decide +kernel
theorem dX11_whole_11 : decode cX11_whole 11 = .ok (.invokestatic 95, 3) := by decide +kernel
theorem dX11_whole_14 : decode cX11_whole 14 = .ok (.ireturn, 1) := by decide +kernel
theorem dX11_height_0 : decode cX11_height 0 = .ok (.iload_n 1, 1) := by decide +kernel
theorem dX11_height_1 : decode cX11_height 1 = .ok (.invokestatic 194, 3) := by decide +kernel
theorem dX11_height_4 : decode cX11_height 4 = .ok (.ifCond .eq 15, 3) := by decide +kernel
theorem dX11_height_7 : decode cX11_height 7 = .ok (.aload_n 0, 1) := by decide +kernel
theorem dX11_height_8 : decode cX11_height 8 = .ok (.getfield 10, 3) := by decide +kernel
theorem dX11_height_11 : decode cX11_height 11 = .ok (.iload_n 2, 1) := by decide +kernel
theorem dX11_height_12 : decode cX11_height 12 = .ok (.iload_n 3, 1) := by decide +kernel
theorem dX11_height_13 : decode cX11_height 13 = .ok (.invokevirtual 257, 3) := by decide +kernel
theorem dX11_height_16 : decode cX11_height 16 = .ok (.ifCond .ne 7, 3) := by decide +kernel
theorem dX11_height_19 : decode cX11_height 19 = .ok (.sipush (-1001), 3) := by decide +kernel
theorem dX11_height_22 : decode cX11_height 22 = .ok (.ireturn, 1) := by decide +kernel
theorem dX11_height_23 : decode cX11_height 23 = .ok (.aload_n 0, 1) := by decide +kernel
theorem dX11_height_24 : decode cX11_height 24 = .ok (.iload_n 1, 1) := by decide +kernel
theorem dX11_height_25 : decode cX11_height 25 = .ok (.iload_n 1, 1) := by decide +kernel
theorem dX11_height_26 : decode cX11_height 26 = .ok (.invokevirtual 260, 3) := by decide +kernel
theorem dX11_height_29 : decode cX11_height 29 = .ok (.istore 4, 2) := by decide +kernel
theorem dX11_height_31 : decode cX11_height 31 = .ok (.iload 4, 2) := by decide +kernel
theorem dX11_height_33 : decode cX11_height 33 = .ok (.ifCond .ge 10, 3) := by decide +kernel
theorem dX11_height_36 : decode cX11_height 36 = .ok (.sipush (-1000), 3) := by decide +kernel
theorem dX11_height_39 : decode cX11_height 39 = .ok (.iload 4, 2) := by decide +kernel
theorem dX11_height_41 : decode cX11_height 41 = .ok (.iadd, 1) := by decide +kernel
theorem dX11_height_42 : decode cX11_height 42 = .ok (.ireturn, 1) := by decide +kernel
theorem dX11_height_43 : decode cX11_height 43 = .ok (.aload_n 0, 1) := by decide +kernel
theorem dX11_height_44 : decode cX11_height 44 = .ok (.getfield 54, 3) := by decide +kernel
theorem dX11_height_47 : decode cX11_height 47 = .ok (.aload_n 0, 1) := by decide +kernel
theorem dX11_height_48 : decode cX11_height 48 = .ok (.getfield 10, 3) := by decide +kernel
theorem dX11_height_51 : decode cX11_height 51 = .ok (.aload_n 0, 1) := by decide +kernel
theorem dX11_height_52 : decode cX11_height 52 = .ok (.getfield 67, 3) := by decide +kernel
theorem dX11_height_55 : decode cX11_height 55 = .ok (.iload_n 1, 1) := by decide +kernel
theorem dX11_height_56 : decode cX11_height 56 = .ok (.aaload, 1) := by decide +kernel
theorem dX11_height_57 : decode cX11_height 57 = .ok (.aload_n 0, 1) := by decide +kernel
theorem dX11_height_58 : decode cX11_height 58 = .ok (.getfield 54, 3) := by decide +kernel
theorem dX11_height_61 : decode cX11_height 61 = .ok (.getfield 263, 3) := by decide +kernel
theorem dX11_height_64 : decode cX11_height 64 = .ok (.invokevirtual 266, 3) := by decide +kernel
theorem dX11_height_67 : decode cX11_height 67 = .ok (.aload_n 0, 1) := by decide +kernel
theorem dX11_height_68 : decode cX11_height 68 = .ok (.getfield 54, 3) := by decide +kernel
theorem dX11_height_71 : decode cX11_height 71 = .ok (.getfield 263, 3) := by decide +kernel
theorem dX11_height_74 : decode cX11_height 74 = .ok (.iload_n 3, 1) := by decide +kernel
theorem dX11_height_75 : decode cX11_height 75 = .ok (.bipush 9, 2) := by decide +kernel
theorem dX11_height_77 : decode cX11_height 77 = .ok (.imul, 1) := by decide +kernel
theorem dX11_height_78 : decode cX11_height 78 = .ok (.iload_n 2, 1) := by decide +kernel
theorem dX11_height_79 : decode cX11_height 79 = .ok (.iadd, 1) := by decide +kernel
theorem dX11_height_80 : decode cX11_height 80 = .ok (.iaload, 1) := by decide +kernel
theorem dX11_height_81 : decode cX11_height 81 = .ok (.ireturn, 1) := by decide +kernel
theorem dX11_turn_0 : decode cX11_turn 0 = .ok (.iload_n 1, 1) := by decide +kernel
theorem dX11_turn_1 : decode cX11_turn 1 = .ok (.invokestatic 194, 3) := by decide +kernel
theorem dX11_turn_4 : decode cX11_turn 4 = .ok (.ifCond .eq 33, 3) := by decide +kernel
theorem dX11_turn_7 : decode cX11_turn 7 = .ok (.iload_n 2, 1) := by decide +kernel
theorem dX11_turn_8 : decode cX11_turn 8 = .ok (.ifCond .lt 29, 3) := by decide +kernel
theorem dX11_turn_11 : decode cX11_turn 11 = .ok (.iload_n 2, 1) := by decide +kernel
theorem dX11_turn_12 : decode cX11_turn 12 = .ok (.aload_n 0, 1) := by decide +kernel
theorem dX11_turn_13 : decode cX11_turn 13 = .ok (.getfield 10, 3) := by decide +kernel
theorem dX11_turn_16 : decode cX11_turn 16 = .ok (.getfield 146, 3) := by decide +kernel
theorem dX11_turn_19 : decode cX11_turn 19 = .ok (.if_icmp .gt 18, 3) := by decide +kernel
theorem dX11_turn_22 : decode cX11_turn 22 = .ok (.iload_n 3, 1) := by decide +kernel
theorem dX11_turn_23 : decode cX11_turn 23 = .ok (.ifCond .lt 14, 3) := by decide +kernel
theorem dX11_turn_26 : decode cX11_turn 26 = .ok (.iload_n 3, 1) := by decide +kernel
theorem dX11_turn_27 : decode cX11_turn 27 = .ok (.aload_n 0, 1) := by decide +kernel
theorem dX11_turn_28 : decode cX11_turn 28 = .ok (.getfield 10, 3) := by decide +kernel
theorem dX11_turn_31 : decode cX11_turn 31 = .ok (.getfield 149, 3) := by decide +kernel
theorem dX11_turn_34 : decode cX11_turn 34 = .ok (.if_icmp .le 5, 3) := by decide +kernel
theorem dX11_turn_37 : decode cX11_turn 37 = .ok (.iconst (-1), 1) := by decide +kernel
theorem dX11_turn_38 : decode cX11_turn 38 = .ok (.ireturn, 1) := by decide +kernel
theorem dX11_turn_39 : decode cX11_turn 39 = .ok (.aload_n 0, 1) := by decide +kernel
theorem dX11_turn_40 : decode cX11_turn 40 = .ok (.iload_n 1, 1) := by decide +kernel
theorem dX11_turn_41 : decode cX11_turn 41 = .ok (.iload_n 1, 1) := by decide +kernel
theorem dX11_turn_42 : decode cX11_turn 42 = .ok (.invokevirtual 260, 3) := by decide +kernel
theorem dX11_turn_45 : decode cX11_turn 45 = .ok (.istore 4, 2) := by decide +kernel
theorem dX11_turn_47 : decode cX11_turn 47 = .ok (.iload 4, 2) := by decide +kernel
theorem dX11_turn_49 : decode cX11_turn 49 = .ok (.ifCond .ge 6, 3) := by decide +kernel
theorem dX11_turn_52 : decode cX11_turn 52 = .ok (.iload 4, 2) := by decide +kernel
theorem dX11_turn_54 : decode cX11_turn 54 = .ok (.ireturn, 1) := by decide +kernel
theorem dX11_turn_55 : decode cX11_turn 55 = .ok (.aload_n 0, 1) := by decide +kernel
theorem dX11_turn_56 : decode cX11_turn 56 = .ok (.getfield 54, 3) := by decide +kernel
theorem dX11_turn_59 : decode cX11_turn 59 = .ok (.aload_n 0, 1) := by decide +kernel
theorem dX11_turn_60 : decode cX11_turn 60 = .ok (.getfield 10, 3) := by decide +kernel
theorem dX11_turn_63 : decode cX11_turn 63 = .ok (.aload_n 0, 1) := by decide +kernel
theorem dX11_turn_64 : decode cX11_turn 64 = .ok (.getfield 67, 3) := by decide +kernel
theorem dX11_turn_67 : decode cX11_turn 67 = .ok (.iload_n 1, 1) := by decide +kernel
theorem dX11_turn_68 : decode cX11_turn 68 = .ok (.aaload, 1) := by decide +kernel
theorem dX11_turn_69 : decode cX11_turn 69 = .ok (.iload_n 2, 1) := by decide +kernel
theorem dX11_turn_70 : decode cX11_turn 70 = .ok (.iload_n 3, 1) := by decide +kernel
theorem dX11_turn_71 : decode cX11_turn 71 = .ok (.invokevirtual 270, 3) := by decide +kernel
theorem dX11_turn_74 : decode cX11_turn 74 = .ok (.istore 5, 2) := by decide +kernel
theorem dX11_turn_76 : decode cX11_turn 76 = .ok (.iload 5, 2) := by decide +kernel
theorem dX11_turn_78 : decode cX11_turn 78 = .ok (.ifCond .ge 6, 3) := by decide +kernel
theorem dX11_turn_81 : decode cX11_turn 81 = .ok (.bipush (-2), 2) := by decide +kernel
theorem dX11_turn_83 : decode cX11_turn 83 = .ok (.ireturn, 1) := by decide +kernel
theorem dX11_turn_84 : decode cX11_turn 84 = .ok (.aload_n 0, 1) := by decide +kernel
theorem dX11_turn_85 : decode cX11_turn 85 = .ok (.getfield 54, 3) := by decide +kernel
theorem dX11_turn_88 : decode cX11_turn 88 = .ok (.aload_n 0, 1) := by decide +kernel
theorem dX11_turn_89 : decode cX11_turn 89 = .ok (.getfield 10, 3) := by decide +kernel
theorem dX11_turn_92 : decode cX11_turn 92 = .ok (.aload_n 0, 1) := by decide +kernel
theorem dX11_turn_93 : decode cX11_turn 93 = .ok (.getfield 67, 3) := by decide +kernel
theorem dX11_turn_96 : decode cX11_turn 96 = .ok (.iload_n 1, 1) := by decide +kernel
theorem dX11_turn_97 : decode cX11_turn 97 = .ok (.aaload, 1) := by decide +kernel
theorem dX11_turn_98 : decode cX11_turn 98 = .ok (.iload_n 2, 1) := by decide +kernel
theorem dX11_turn_99 : decode cX11_turn 99 = .ok (.iload_n 3, 1) := by decide +kernel
theorem dX11_turn_100 : decode cX11_turn 100 = .ok (.invokevirtual 274, 3) := by decide +kernel
theorem dX11_turn_103 : decode cX11_turn 103 = .ok (.iload 5, 2) := by decide +kernel
theorem dX11_turn_105 : decode cX11_turn 105 = .ok (.ireturn, 1) := by decide +kernel
theorem dX11_turns_0 : decode cX11_turns 0 = .ok (.iload_n 1, 1) := by decide +kernel
theorem dX11_turns_1 : decode cX11_turns 1 = .ok (.invokestatic 194, 3) := by decide +kernel
theorem dX11_turns_4 : decode cX11_turns 4 = .ok (.ifCond .eq 12, 3) := by decide +kernel
theorem dX11_turns_7 : decode cX11_turns 7 = .ok (.iload_n 2, 1) := by decide +kernel
theorem dX11_turns_8 : decode cX11_turns 8 = .ok (.ifCond .eq 10, 3) := by decide +kernel
theorem dX11_turns_11 : decode cX11_turns 11 = .ok (.iload_n 2, 1) := by decide +kernel
theorem dX11_turns_12 : decode cX11_turns 12 = .ok (.iconst 1, 1) := by decide +kernel
theorem dX11_turns_13 : decode cX11_turns 13 = .ok (.if_icmp .eq 5, 3) := by decide +kernel
theorem dX11_turns_16 : decode cX11_turns 16 = .ok (.iconst (-1), 1) := by decide +kernel
theorem dX11_turns_17 : decode cX11_turns 17 = .ok (.ireturn, 1) := by decide +kernel
theorem dX11_turns_18 : decode cX11_turns 18 = .ok (.aload_n 0, 1) := by decide +kernel
theorem dX11_turns_19 : decode cX11_turns 19 = .ok (.iload_n 1, 1) := by decide +kernel
theorem dX11_turns_20 : decode cX11_turns 20 = .ok (.iload_n 1, 1) := by decide +kernel
theorem dX11_turns_21 : decode cX11_turns 21 = .ok (.invokevirtual 260, 3) := by decide +kernel
theorem dX11_turns_24 : decode cX11_turns 24 = .ok (.istore_n 3, 1) := by decide +kernel
theorem dX11_turns_25 : decode cX11_turns 25 = .ok (.iload_n 3, 1) := by decide +kernel
theorem dX11_turns_26 : decode cX11_turns 26 = .ok (.ifCond .ge 7, 3) := by decide +kernel
theorem dX11_turns_29 : decode cX11_turns 29 = .ok (.iload_n 3, 1) := by decide +kernel
theorem dX11_turns_30 : decode cX11_turns 30 = .ok (.goto 21, 3) := by decide +kernel
theorem dX11_turns_33 : decode cX11_turns 33 = .ok (.aload_n 0, 1) := by decide +kernel
theorem dX11_turns_34 : decode cX11_turns 34 = .ok (.getfield 54, 3) := by decide +kernel
theorem dX11_turns_37 : decode cX11_turns 37 = .ok (.aload_n 0, 1) := by decide +kernel
theorem dX11_turns_38 : decode cX11_turns 38 = .ok (.getfield 10, 3) := by decide +kernel
theorem dX11_turns_41 : decode cX11_turns 41 = .ok (.aload_n 0, 1) := by decide +kernel
theorem dX11_turns_42 : decode cX11_turns 42 = .ok (.getfield 67, 3) := by decide +kernel
theorem dX11_turns_45 : decode cX11_turns 45 = .ok (.iload_n 1, 1) := by decide +kernel
theorem dX11_turns_46 : decode cX11_turns 46 = .ok (.aaload, 1) := by decide +kernel
theorem dX11_turns_47 : decode cX11_turns 47 = .ok (.iload_n 2, 1) := by decide +kernel
theorem dX11_turns_48 : decode cX11_turns 48 = .ok (.invokevirtual 278, 3) := by decide +kernel
theorem dX11_turns_51 : decode cX11_turns 51 = .ok (.ireturn, 1) := by decide +kernel
theorem dX11_settle_0 : decode cX11_settle 0 = .ok (.iload_n 1, 1) := by decide +kernel
theorem dX11_settle_1 : decode cX11_settle 1 = .ok (.invokestatic 194, 3) := by decide +kernel
theorem dX11_settle_4 : decode cX11_settle 4 = .ok (.ifCond .eq 12, 3) := by decide +kernel
theorem dX11_settle_7 : decode cX11_settle 7 = .ok (.iload_n 2, 1) := by decide +kernel
theorem dX11_settle_8 : decode cX11_settle 8 = .ok (.ifCond .eq 10, 3) := by decide +kernel
theorem dX11_settle_11 : decode cX11_settle 11 = .ok (.iload_n 2, 1) := by decide +kernel
theorem dX11_settle_12 : decode cX11_settle 12 = .ok (.iconst 1, 1) := by decide +kernel
theorem dX11_settle_13 : decode cX11_settle 13 = .ok (.if_icmp .eq 5, 3) := by decide +kernel
theorem dX11_settle_16 : decode cX11_settle 16 = .ok (.iconst (-1), 1) := by decide +kernel
theorem dX11_settle_17 : decode cX11_settle 17 = .ok (.ireturn, 1) := by decide +kernel
theorem dX11_settle_18 : decode cX11_settle 18 = .ok (.aload_n 0, 1) := by decide +kernel
theorem dX11_settle_19 : decode cX11_settle 19 = .ok (.iload_n 1, 1) := by decide +kernel
theorem dX11_settle_20 : decode cX11_settle 20 = .ok (.iload_n 1, 1) := by decide +kernel
theorem dX11_settle_21 : decode cX11_settle 21 = .ok (.invokevirtual 260, 3) := by decide +kernel
theorem dX11_settle_24 : decode cX11_settle 24 = .ok (.istore_n 3, 1) := by decide +kernel
theorem dX11_settle_25 : decode cX11_settle 25 = .ok (.iload_n 3, 1) := by decide +kernel
theorem dX11_settle_26 : decode cX11_settle 26 = .ok (.ifCond .ge 7, 3) := by decide +kernel
theorem dX11_settle_29 : decode cX11_settle 29 = .ok (.iload_n 3, 1) := by decide +kernel
theorem dX11_settle_30 : decode cX11_settle 30 = .ok (.goto 21, 3) := by decide +kernel
theorem dX11_settle_33 : decode cX11_settle 33 = .ok (.aload_n 0, 1) := by decide +kernel
theorem dX11_settle_34 : decode cX11_settle 34 = .ok (.getfield 54, 3) := by decide +kernel
theorem dX11_settle_37 : decode cX11_settle 37 = .ok (.aload_n 0, 1) := by decide +kernel
theorem dX11_settle_38 : decode cX11_settle 38 = .ok (.getfield 10, 3) := by decide +kernel
theorem dX11_settle_41 : decode cX11_settle 41 = .ok (.aload_n 0, 1) := by decide +kernel
theorem dX11_settle_42 : decode cX11_settle 42 = .ok (.getfield 67, 3) := by decide +kernel
theorem dX11_settle_45 : decode cX11_settle 45 = .ok (.iload_n 1, 1) := by decide +kernel
theorem dX11_settle_46 : decode cX11_settle 46 = .ok (.aaload, 1) := by decide +kernel
theorem dX11_settle_47 : decode cX11_settle 47 = .ok (.iload_n 2, 1) := by decide +kernel
theorem dX11_settle_48 : decode cX11_settle 48 = .ok (.invokevirtual 282, 3) := by decide +kernel
theorem dX11_settle_51 : decode cX11_settle 51 = .ok (.ireturn, 1) := by decide +kernel
theorem dX11_far_0 : decode cX11_far 0 = .ok (.aload_n 0, 1) := by decide +kernel
theorem dX11_far_1 : decode cX11_far 1 = .ok (.iload_n 1, 1) := by decide +kernel
theorem dX11_far_2 : decode cX11_far 2 = .ok (.iload_n 2, 1) := by decide +kernel
theorem dX11_far_3 : decode cX11_far 3 = .ok (.invokevirtual 260, 3) := by decide +kernel
theorem dX11_far_6 : decode cX11_far 6 = .ok (.istore_n 3, 1) := by decide +kernel
theorem dX11_far_7 : decode cX11_far 7 = .ok (.iload_n 3, 1) := by decide +kernel
theorem dX11_far_8 : decode cX11_far 8 = .ok (.ifCond .ge 7, 3) := by decide +kernel
theorem dX11_far_11 : decode cX11_far 11 = .ok (.iload_n 3, 1) := by decide +kernel
theorem dX11_far_12 : decode cX11_far 12 = .ok (.goto 26, 3) := by decide +kernel
theorem dX11_far_15 : decode cX11_far 15 = .ok (.aload_n 0, 1) := by decide +kernel
theorem dX11_far_16 : decode cX11_far 16 = .ok (.getfield 54, 3) := by decide +kernel
theorem dX11_far_19 : decode cX11_far 19 = .ok (.aload_n 0, 1) := by decide +kernel
theorem dX11_far_20 : decode cX11_far 20 = .ok (.getfield 10, 3) := by decide +kernel
theorem dX11_far_23 : decode cX11_far 23 = .ok (.aload_n 0, 1) := by decide +kernel
theorem dX11_far_24 : decode cX11_far 24 = .ok (.getfield 67, 3) := by decide +kernel
theorem dX11_far_27 : decode cX11_far 27 = .ok (.iload_n 1, 1) := by decide +kernel
theorem dX11_far_28 : decode cX11_far 28 = .ok (.aaload, 1) := by decide +kernel
theorem dX11_far_29 : decode cX11_far 29 = .ok (.aload_n 0, 1) := by decide +kernel
theorem dX11_far_30 : decode cX11_far 30 = .ok (.getfield 67, 3) := by decide +kernel
theorem dX11_far_33 : decode cX11_far 33 = .ok (.iload_n 2, 1) := by decide +kernel
theorem dX11_far_34 : decode cX11_far 34 = .ok (.aaload, 1) := by decide +kernel
theorem dX11_far_35 : decode cX11_far 35 = .ok (.invokevirtual 285, 3) := by decide +kernel
theorem dX11_far_38 : decode cX11_far 38 = .ok (.ireturn, 1) := by decide +kernel
theorem dX11_toward_0 : decode cX11_toward 0 = .ok (.aload_n 0, 1) := by decide +kernel
theorem dX11_toward_1 : decode cX11_toward 1 = .ok (.iload_n 1, 1) := by decide +kernel
theorem dX11_toward_2 : decode cX11_toward 2 = .ok (.iload_n 2, 1) := by decide +kernel
theorem dX11_toward_3 : decode cX11_toward 3 = .ok (.invokevirtual 260, 3) := by decide +kernel
theorem dX11_toward_6 : decode cX11_toward 6 = .ok (.istore_n 3, 1) := by decide +kernel
theorem dX11_toward_7 : decode cX11_toward 7 = .ok (.iload_n 3, 1) := by decide +kernel
theorem dX11_toward_8 : decode cX11_toward 8 = .ok (.ifCond .ge 5, 3) := by decide +kernel
theorem dX11_toward_11 : decode cX11_toward 11 = .ok (.iload_n 3, 1) := by decide +kernel
theorem dX11_toward_12 : decode cX11_toward 12 = .ok (.ireturn, 1) := by decide +kernel
theorem dX11_toward_13 : decode cX11_toward 13 = .ok (.aload_n 0, 1) := by decide +kernel
theorem dX11_toward_14 : decode cX11_toward 14 = .ok (.getfield 54, 3) := by decide +kernel
theorem dX11_toward_17 : decode cX11_toward 17 = .ok (.aload_n 0, 1) := by decide +kernel
theorem dX11_toward_18 : decode cX11_toward 18 = .ok (.getfield 10, 3) := by decide +kernel
theorem dX11_toward_21 : decode cX11_toward 21 = .ok (.aload_n 0, 1) := by decide +kernel
theorem dX11_toward_22 : decode cX11_toward 22 = .ok (.getfield 67, 3) := by decide +kernel
theorem dX11_toward_25 : decode cX11_toward 25 = .ok (.iload_n 1, 1) := by decide +kernel
theorem dX11_toward_26 : decode cX11_toward 26 = .ok (.aaload, 1) := by decide +kernel
theorem dX11_toward_27 : decode cX11_toward 27 = .ok (.aload_n 0, 1) := by decide +kernel
theorem dX11_toward_28 : decode cX11_toward 28 = .ok (.getfield 67, 3) := by decide +kernel
theorem dX11_toward_31 : decode cX11_toward 31 = .ok (.iload_n 2, 1) := by decide +kernel
theorem dX11_toward_32 : decode cX11_toward 32 = .ok (.aaload, 1) := by decide +kernel
theorem dX11_toward_33 : decode cX11_toward 33 = .ok (.invokevirtual 289, 3) := by decide +kernel
theorem dX11_toward_36 : decode cX11_toward 36 = .ok (.istore 4, 2) := by decide +kernel
theorem dX11_toward_38 : decode cX11_toward 38 = .ok (.iload 4, 2) := by decide +kernel
theorem dX11_toward_40 : decode cX11_toward 40 = .ok (.ifCond .ge 8, 3) := by decide +kernel
theorem dX11_toward_43 : decode cX11_toward 43 = .ok (.bipush (-2), 2) := by decide +kernel
theorem dX11_toward_45 : decode cX11_toward 45 = .ok (.goto 5, 3) := by decide +kernel
theorem dX11_toward_48 : decode cX11_toward 48 = .ok (.iload 4, 2) := by decide +kernel
theorem dX11_toward_50 : decode cX11_toward 50 = .ok (.ireturn, 1) := by decide +kernel
theorem dX11_lines_0 : decode cX11_lines 0 = .ok (.aload_n 0, 1) := by decide +kernel
theorem dX11_lines_1 : decode cX11_lines 1 = .ok (.iload_n 1, 1) := by decide +kernel
theorem dX11_lines_2 : decode cX11_lines 2 = .ok (.invokevirtual 201, 3) := by decide +kernel
theorem dX11_lines_5 : decode cX11_lines 5 = .ok (.istore_n 2, 1) := by decide +kernel
theorem dX11_lines_6 : decode cX11_lines 6 = .ok (.iload_n 2, 1) := by decide +kernel
theorem dX11_lines_7 : decode cX11_lines 7 = .ok (.ifCond .ge 7, 3) := by decide +kernel
theorem dX11_lines_10 : decode cX11_lines 10 = .ok (.iload_n 2, 1) := by decide +kernel
theorem dX11_lines_11 : decode cX11_lines 11 = .ok (.goto 16, 3) := by decide +kernel
theorem dX11_lines_14 : decode cX11_lines 14 = .ok (.aload_n 0, 1) := by decide +kernel
theorem dX11_lines_15 : decode cX11_lines 15 = .ok (.getfield 67, 3) := by decide +kernel
theorem dX11_lines_18 : decode cX11_lines 18 = .ok (.iload_n 1, 1) := by decide +kernel
theorem dX11_lines_19 : decode cX11_lines 19 = .ok (.aaload, 1) := by decide +kernel
theorem dX11_lines_20 : decode cX11_lines 20 = .ok (.aload_n 0, 1) := by decide +kernel
theorem dX11_lines_21 : decode cX11_lines 21 = .ok (.getfield 10, 3) := by decide +kernel
theorem dX11_lines_24 : decode cX11_lines 24 = .ok (.invokevirtual 292, 3) := by decide +kernel
theorem dX11_lines_27 : decode cX11_lines 27 = .ok (.ireturn, 1) := by decide +kernel
theorem dX11_sound_0 : decode cX11_sound 0 = .ok (.aload_n 0, 1) := by decide +kernel
theorem dX11_sound_1 : decode cX11_sound 1 = .ok (.getfield 33, 3) := by decide +kernel
theorem dX11_sound_4 : decode cX11_sound 4 = .ok (.aload_n 0, 1) := by decide +kernel
theorem dX11_sound_5 : decode cX11_sound 5 = .ok (.getfield 10, 3) := by decide +kernel
theorem dX11_sound_8 : decode cX11_sound 8 = .ok (.invokevirtual 295, 3) := by decide +kernel
theorem dX11_sound_11 : decode cX11_sound 11 = .ok (.lreturn, 1) := by decide +kernel
theorem dX11_rings_0 : decode cX11_rings 0 = .ok (.aload_n 0, 1) := by decide +kernel
theorem dX11_rings_1 : decode cX11_rings 1 = .ok (.iload_n 1, 1) := by decide +kernel
theorem dX11_rings_2 : decode cX11_rings 2 = .ok (.iload_n 2, 1) := by decide +kernel
theorem dX11_rings_3 : decode cX11_rings 3 = .ok (.invokevirtual 298, 3) := by decide +kernel
theorem dX11_rings_6 : decode cX11_rings 6 = .ok (.istore_n 3, 1) := by decide +kernel
theorem dX11_rings_7 : decode cX11_rings 7 = .ok (.iload_n 3, 1) := by decide +kernel
theorem dX11_rings_8 : decode cX11_rings 8 = .ok (.ifCond .ge 7, 3) := by decide +kernel
theorem dX11_rings_11 : decode cX11_rings 11 = .ok (.iload_n 3, 1) := by decide +kernel
theorem dX11_rings_12 : decode cX11_rings 12 = .ok (.goto 26, 3) := by decide +kernel
theorem dX11_rings_15 : decode cX11_rings 15 = .ok (.aload_n 0, 1) := by decide +kernel
theorem dX11_rings_16 : decode cX11_rings 16 = .ok (.getfield 61, 3) := by decide +kernel
theorem dX11_rings_19 : decode cX11_rings 19 = .ok (.aload_n 0, 1) := by decide +kernel
theorem dX11_rings_20 : decode cX11_rings 20 = .ok (.getfield 10, 3) := by decide +kernel
theorem dX11_rings_23 : decode cX11_rings 23 = .ok (.aload_n 0, 1) := by decide +kernel
theorem dX11_rings_24 : decode cX11_rings 24 = .ok (.getfield 67, 3) := by decide +kernel
theorem dX11_rings_27 : decode cX11_rings 27 = .ok (.iload_n 1, 1) := by decide +kernel
theorem dX11_rings_28 : decode cX11_rings 28 = .ok (.aaload, 1) := by decide +kernel
theorem dX11_rings_29 : decode cX11_rings 29 = .ok (.aload_n 0, 1) := by decide +kernel
theorem dX11_rings_30 : decode cX11_rings 30 = .ok (.getfield 67, 3) := by decide +kernel
theorem dX11_rings_33 : decode cX11_rings 33 = .ok (.iload_n 2, 1) := by decide +kernel
theorem dX11_rings_34 : decode cX11_rings 34 = .ok (.aaload, 1) := by decide +kernel
theorem dX11_rings_35 : decode cX11_rings 35 = .ok (.invokevirtual 301, 3) := by decide +kernel
theorem dX11_rings_38 : decode cX11_rings 38 = .ok (.ireturn, 1) := by decide +kernel
theorem dX11_ring_0 : decode cX11_ring 0 = .ok (.aload_n 0, 1) := by decide +kernel
theorem dX11_ring_1 : decode cX11_ring 1 = .ok (.iload_n 1, 1) := by decide +kernel
theorem dX11_ring_2 : decode cX11_ring 2 = .ok (.iload_n 2, 1) := by decide +kernel
theorem dX11_ring_3 : decode cX11_ring 3 = .ok (.iload_n 3, 1) := by decide +kernel
theorem dX11_ring_4 : decode cX11_ring 4 = .ok (.invokevirtual 304, 3) := by decide +kernel
theorem dX11_ring_7 : decode cX11_ring 7 = .ok (.istore 4, 2) := by decide +kernel
theorem dX11_ring_9 : decode cX11_ring 9 = .ok (.iload 4, 2) := by decide +kernel
theorem dX11_ring_11 : decode cX11_ring 11 = .ok (.ifCond .ge 8, 3) := by decide +kernel
theorem dX11_ring_14 : decode cX11_ring 14 = .ok (.iload 4, 2) := by decide +kernel
theorem dX11_ring_16 : decode cX11_ring 16 = .ok (.goto 12, 3) := by decide +kernel
theorem dX11_ring_19 : decode cX11_ring 19 = .ok (.aload_n 0, 1) := by decide +kernel
theorem dX11_ring_20 : decode cX11_ring 20 = .ok (.getfield 61, 3) := by decide +kernel
theorem dX11_ring_23 : decode cX11_ring 23 = .ok (.getfield 308, 3) := by decide +kernel
theorem dX11_ring_26 : decode cX11_ring 26 = .ok (.iload_n 3, 1) := by decide +kernel
theorem dX11_ring_27 : decode cX11_ring 27 = .ok (.iaload, 1) := by decide +kernel
theorem dX11_ring_28 : decode cX11_ring 28 = .ok (.ireturn, 1) := by decide +kernel
theorem dX11_wind_0 : decode cX11_wind 0 = .ok (.aload_n 0, 1) := by decide +kernel
theorem dX11_wind_1 : decode cX11_wind 1 = .ok (.iload_n 1, 1) := by decide +kernel
theorem dX11_wind_2 : decode cX11_wind 2 = .ok (.iload_n 2, 1) := by decide +kernel
theorem dX11_wind_3 : decode cX11_wind 3 = .ok (.iload_n 3, 1) := by decide +kernel
theorem dX11_wind_4 : decode cX11_wind 4 = .ok (.invokevirtual 304, 3) := by decide +kernel
theorem dX11_wind_7 : decode cX11_wind 7 = .ok (.istore 4, 2) := by decide +kernel
theorem dX11_wind_9 : decode cX11_wind 9 = .ok (.iload 4, 2) := by decide +kernel
theorem dX11_wind_11 : decode cX11_wind 11 = .ok (.ifCond .ge 6, 3) := by decide +kernel
theorem dX11_wind_14 : decode cX11_wind 14 = .ok (.iload 4, 2) := by decide +kernel
theorem dX11_wind_16 : decode cX11_wind 16 = .ok (.ireturn, 1) := by decide +kernel
theorem dX11_wind_17 : decode cX11_wind 17 = .ok (.aload_n 0, 1) := by decide +kernel
theorem dX11_wind_18 : decode cX11_wind 18 = .ok (.getfield 61, 3) := by decide +kernel
theorem dX11_wind_21 : decode cX11_wind 21 = .ok (.aload_n 0, 1) := by decide +kernel
theorem dX11_wind_22 : decode cX11_wind 22 = .ok (.getfield 10, 3) := by decide +kernel
theorem dX11_wind_25 : decode cX11_wind 25 = .ok (.aload_n 0, 1) := by decide +kernel
theorem dX11_wind_26 : decode cX11_wind 26 = .ok (.getfield 67, 3) := by decide +kernel
theorem dX11_wind_29 : decode cX11_wind 29 = .ok (.iload_n 1, 1) := by decide +kernel
theorem dX11_wind_30 : decode cX11_wind 30 = .ok (.aaload, 1) := by decide +kernel
theorem dX11_wind_31 : decode cX11_wind 31 = .ok (.aload_n 0, 1) := by decide +kernel
theorem dX11_wind_32 : decode cX11_wind 32 = .ok (.getfield 67, 3) := by decide +kernel
theorem dX11_wind_35 : decode cX11_wind 35 = .ok (.iload_n 2, 1) := by decide +kernel
theorem dX11_wind_36 : decode cX11_wind 36 = .ok (.aaload, 1) := by decide +kernel
theorem dX11_wind_37 : decode cX11_wind 37 = .ok (.iload_n 3, 1) := by decide +kernel
theorem dX11_wind_38 : decode cX11_wind 38 = .ok (.invokevirtual 311, 3) := by decide +kernel
theorem dX11_wind_41 : decode cX11_wind 41 = .ok (.aload_n 0, 1) := by decide +kernel
theorem dX11_wind_42 : decode cX11_wind 42 = .ok (.getfield 61, 3) := by decide +kernel
theorem dX11_wind_45 : decode cX11_wind 45 = .ok (.getfield 308, 3) := by decide +kernel
theorem dX11_wind_48 : decode cX11_wind 48 = .ok (.iload_n 3, 1) := by decide +kernel
theorem dX11_wind_49 : decode cX11_wind 49 = .ok (.iaload, 1) := by decide +kernel
theorem dX11_wind_50 : decode cX11_wind 50 = .ok (.iconst 2, 1) := by decide +kernel
theorem dX11_wind_51 : decode cX11_wind 51 = .ok (.idiv, 1) := by decide +kernel
theorem dX11_wind_52 : decode cX11_wind 52 = .ok (.ireturn, 1) := by decide +kernel
theorem dX11_sheet_0 : decode cX11_sheet 0 = .ok (.iload_n 1, 1) := by decide +kernel
theorem dX11_sheet_1 : decode cX11_sheet 1 = .ok (.invokestatic 134, 3) := by decide +kernel
theorem dX11_sheet_4 : decode cX11_sheet 4 = .ok (.ifCond .eq 16, 3) := by decide +kernel
theorem dX11_sheet_7 : decode cX11_sheet 7 = .ok (.iload_n 2, 1) := by decide +kernel
theorem dX11_sheet_8 : decode cX11_sheet 8 = .ok (.invokestatic 315, 3) := by decide +kernel
theorem dX11_sheet_11 : decode cX11_sheet 11 = .ok (.ifCond .eq 9, 3) := by decide +kernel
theorem dX11_sheet_14 : decode cX11_sheet 14 = .ok (.iload_n 3, 1) := by decide +kernel
theorem dX11_sheet_15 : decode cX11_sheet 15 = .ok (.bipush 64, 2) := by decide +kernel
theorem dX11_sheet_17 : decode cX11_sheet 17 = .ok (.if_icmp .le 5, 3) := by decide +kernel
theorem dX11_sheet_20 : decode cX11_sheet 20 = .ok (.iconst (-1), 1) := by decide +kernel
theorem dX11_sheet_21 : decode cX11_sheet 21 = .ok (.ireturn, 1) := by decide +kernel
theorem dX11_sheet_22 : decode cX11_sheet 22 = .ok (.iload_n 3, 1) := by decide +kernel
theorem dX11_sheet_23 : decode cX11_sheet 23 = .ok (.ifCond .ge 6, 3) := by decide +kernel
theorem dX11_sheet_26 : decode cX11_sheet 26 = .ok (.bipush (-14), 2) := by decide +kernel
theorem dX11_sheet_28 : decode cX11_sheet 28 = .ok (.ireturn, 1) := by decide +kernel
theorem dX11_sheet_29 : decode cX11_sheet 29 = .ok (.aload_n 0, 1) := by decide +kernel
theorem dX11_sheet_30 : decode cX11_sheet 30 = .ok (.getfield 73, 3) := by decide +kernel
theorem dX11_sheet_33 : decode cX11_sheet 33 = .ok (.iload_n 1, 1) := by decide +kernel
theorem dX11_sheet_34 : decode cX11_sheet 34 = .ok (.aaload, 1) := by decide +kernel
theorem dX11_sheet_35 : decode cX11_sheet 35 = .ok (.iload_n 2, 1) := by decide +kernel
theorem dX11_sheet_36 : decode cX11_sheet 36 = .ok (.iload_n 3, 1) := by decide +kernel
theorem dX11_sheet_37 : decode cX11_sheet 37 = .ok (.invokevirtual 318, 3) := by decide +kernel
theorem dX11_sheet_40 : decode cX11_sheet 40 = .ok (.iload_n 3, 1) := by decide +kernel
theorem dX11_sheet_41 : decode cX11_sheet 41 = .ok (.ireturn, 1) := by decide +kernel
theorem dX11_drop_0 : decode cX11_drop 0 = .ok (.iload_n 1, 1) := by decide +kernel
theorem dX11_drop_1 : decode cX11_drop 1 = .ok (.invokestatic 134, 3) := by decide +kernel
theorem dX11_drop_4 : decode cX11_drop 4 = .ok (.ifCond .ne 5, 3) := by decide +kernel
theorem dX11_drop_7 : decode cX11_drop 7 = .ok (.iconst (-1), 1) := by decide +kernel
theorem dX11_drop_8 : decode cX11_drop 8 = .ok (.ireturn, 1) := by decide +kernel
theorem dX11_drop_9 : decode cX11_drop 9 = .ok (.aload_n 0, 1) := by decide +kernel
theorem dX11_drop_10 : decode cX11_drop 10 = .ok (.getfield 73, 3) := by decide +kernel
theorem dX11_drop_13 : decode cX11_drop 13 = .ok (.iload_n 1, 1) := by decide +kernel
theorem dX11_drop_14 : decode cX11_drop 14 = .ok (.aaload, 1) := by decide +kernel
theorem dX11_drop_15 : decode cX11_drop 15 = .ok (.getfield 321, 3) := by decide +kernel
theorem dX11_drop_18 : decode cX11_drop 18 = .ok (.ifCond .ne 6, 3) := by decide +kernel
theorem dX11_drop_21 : decode cX11_drop 21 = .ok (.bipush (-11), 2) := by decide +kernel
theorem dX11_drop_23 : decode cX11_drop 23 = .ok (.ireturn, 1) := by decide +kernel
theorem dX11_drop_24 : decode cX11_drop 24 = .ok (.aload_n 0, 1) := by decide +kernel
theorem dX11_drop_25 : decode cX11_drop 25 = .ok (.getfield 73, 3) := by decide +kernel
theorem dX11_drop_28 : decode cX11_drop 28 = .ok (.iload_n 1, 1) := by decide +kernel
theorem dX11_drop_29 : decode cX11_drop 29 = .ok (.aaload, 1) := by decide +kernel
theorem dX11_drop_30 : decode cX11_drop 30 = .ok (.iconst 0, 1) := by decide +kernel
theorem dX11_drop_31 : decode cX11_drop 31 = .ok (.putfield 321, 3) := by decide +kernel
theorem dX11_drop_34 : decode cX11_drop 34 = .ok (.aload_n 0, 1) := by decide +kernel
theorem dX11_drop_35 : decode cX11_drop 35 = .ok (.getfield 73, 3) := by decide +kernel
theorem dX11_drop_38 : decode cX11_drop 38 = .ok (.iload_n 1, 1) := by decide +kernel
theorem dX11_drop_39 : decode cX11_drop 39 = .ok (.aaload, 1) := by decide +kernel
theorem dX11_drop_40 : decode cX11_drop 40 = .ok (.getfield 141, 3) := by decide +kernel
theorem dX11_drop_43 : decode cX11_drop 43 = .ok (.ireturn, 1) := by decide +kernel
theorem dX11_item_0 : decode cX11_item 0 = .ok (.iload_n 1, 1) := by decide +kernel
theorem dX11_item_1 : decode cX11_item 1 = .ok (.invokestatic 134, 3) := by decide +kernel
theorem dX11_item_4 : decode cX11_item 4 = .ok (.ifCond .eq 10, 3) := by decide +kernel
theorem dX11_item_7 : decode cX11_item 7 = .ok (.iload_n 2, 1) := by decide +kernel
theorem dX11_item_8 : decode cX11_item 8 = .ok (.invokestatic 315, 3) := by decide +kernel
theorem dX11_item_11 : decode cX11_item 11 = .ok (.ifCond .ne 5, 3) := by decide +kernel
theorem dX11_item_14 : decode cX11_item 14 = .ok (.iconst (-1), 1) := by decide +kernel
theorem dX11_item_15 : decode cX11_item 15 = .ok (.ireturn, 1) := by decide +kernel
theorem dX11_item_16 : decode cX11_item 16 = .ok (.aload_n 0, 1) := by decide +kernel
theorem dX11_item_17 : decode cX11_item 17 = .ok (.iload_n 1, 1) := by decide +kernel
theorem dX11_item_18 : decode cX11_item 18 = .ok (.iload_n 2, 1) := by decide +kernel
theorem dX11_item_19 : decode cX11_item 19 = .ok (.invokevirtual 137, 3) := by decide +kernel
theorem dX11_item_22 : decode cX11_item 22 = .ok (.istore 5, 2) := by decide +kernel
theorem dX11_item_24 : decode cX11_item 24 = .ok (.iload 5, 2) := by decide +kernel
theorem dX11_item_26 : decode cX11_item 26 = .ok (.ifCond .ge 6, 3) := by decide +kernel
theorem dX11_item_29 : decode cX11_item 29 = .ok (.iload 5, 2) := by decide +kernel
theorem dX11_item_31 : decode cX11_item 31 = .ok (.ireturn, 1) := by decide +kernel
theorem dX11_item_32 : decode cX11_item 32 = .ok (.iload_n 3, 1) := by decide +kernel
theorem dX11_item_33 : decode cX11_item 33 = .ok (.ifCond .lt 16, 3) := by decide +kernel
theorem dX11_item_36 : decode cX11_item 36 = .ok (.iload_n 3, 1) := by decide +kernel
theorem dX11_item_37 : decode cX11_item 37 = .ok (.aload_n 0, 1) := by decide +kernel
theorem dX11_item_38 : decode cX11_item 38 = .ok (.getfield 73, 3) := by decide +kernel
theorem dX11_item_41 : decode cX11_item 41 = .ok (.iload_n 1, 1) := by decide +kernel
theorem dX11_item_42 : decode cX11_item 42 = .ok (.aaload, 1) := by decide +kernel
theorem dX11_item_43 : decode cX11_item 43 = .ok (.getfield 141, 3) := by decide +kernel
theorem dX11_item_46 : decode cX11_item 46 = .ok (.if_icmp .lt 6, 3) := by decide +kernel
theorem dX11_item_49 : decode cX11_item 49 = .ok (.bipush (-13), 2) := by decide +kernel
theorem dX11_item_51 : decode cX11_item 51 = .ok (.ireturn, 1) := by decide +kernel
theorem dX11_item_52 : decode cX11_item 52 = .ok (.aload_n 0, 1) := by decide +kernel
theorem dX11_item_53 : decode cX11_item 53 = .ok (.getfield 73, 3) := by decide +kernel
theorem dX11_item_56 : decode cX11_item 56 = .ok (.iload_n 1, 1) := by decide +kernel
theorem dX11_item_57 : decode cX11_item 57 = .ok (.aaload, 1) := by decide +kernel
theorem dX11_item_58 : decode cX11_item 58 = .ok (.iload_n 3, 1) := by decide +kernel
theorem dX11_item_59 : decode cX11_item 59 = .ok (.iload 4, 2) := by decide +kernel
theorem dX11_item_61 : decode cX11_item 61 = .ok (.invokevirtual 322, 3) := by decide +kernel
theorem dX11_item_64 : decode cX11_item 64 = .ok (.iconst 1, 1) := by decide +kernel
theorem dX11_item_65 : decode cX11_item 65 = .ok (.ireturn, 1) := by decide +kernel
theorem dX11_copy_0 : decode cX11_copy 0 = .ok (.iload_n 1, 1) := by decide +kernel
theorem dX11_copy_1 : decode cX11_copy 1 = .ok (.invokestatic 134, 3) := by decide +kernel
theorem dX11_copy_4 : decode cX11_copy 4 = .ok (.ifCond .eq 10, 3) := by decide +kernel
theorem dX11_copy_7 : decode cX11_copy 7 = .ok (.iload_n 3, 1) := by decide +kernel
theorem dX11_copy_8 : decode cX11_copy 8 = .ok (.invokestatic 134, 3) := by decide +kernel
theorem dX11_copy_11 : decode cX11_copy 11 = .ok (.ifCond .ne 5, 3) := by decide +kernel
theorem dX11_copy_14 : decode cX11_copy 14 = .ok (.iconst (-1), 1) := by decide +kernel
theorem dX11_copy_15 : decode cX11_copy 15 = .ok (.ireturn, 1) := by decide +kernel
theorem dX11_copy_16 : decode cX11_copy 16 = .ok (.aload_n 0, 1) := by decide +kernel
theorem dX11_copy_17 : decode cX11_copy 17 = .ok (.getfield 73, 3) := by decide +kernel
theorem dX11_copy_20 : decode cX11_copy 20 = .ok (.iload_n 1, 1) := by decide +kernel
theorem dX11_copy_21 : decode cX11_copy 21 = .ok (.aaload, 1) := by decide +kernel
theorem dX11_copy_22 : decode cX11_copy 22 = .ok (.astore 6, 2) := by decide +kernel
theorem dX11_copy_24 : decode cX11_copy 24 = .ok (.aload_n 0, 1) := by decide +kernel
theorem dX11_copy_25 : decode cX11_copy 25 = .ok (.getfield 73, 3) := by decide +kernel
theorem dX11_copy_28 : decode cX11_copy 28 = .ok (.iload_n 3, 1) := by decide +kernel
theorem dX11_copy_29 : decode cX11_copy 29 = .ok (.aaload, 1) := by decide +kernel
theorem dX11_copy_30 : decode cX11_copy 30 = .ok (.astore 7, 2) := by decide +kernel
theorem dX11_copy_32 : decode cX11_copy 32 = .ok (.aload 6, 2) := by decide +kernel
theorem dX11_copy_34 : decode cX11_copy 34 = .ok (.getfield 321, 3) := by decide +kernel
theorem dX11_copy_37 : decode cX11_copy 37 = .ok (.ifCond .eq 11, 3) := by decide +kernel
theorem dX11_copy_40 : decode cX11_copy 40 = .ok (.aload 7, 2) := by decide +kernel
theorem dX11_copy_42 : decode cX11_copy 42 = .ok (.getfield 321, 3) := by decide +kernel
theorem dX11_copy_45 : decode cX11_copy 45 = .ok (.ifCond .ne 6, 3) := by decide +kernel
theorem dX11_copy_48 : decode cX11_copy 48 = .ok (.bipush (-11), 2) := by decide +kernel
theorem dX11_copy_50 : decode cX11_copy 50 = .ok (.ireturn, 1) := by decide +kernel
theorem dX11_copy_51 : decode cX11_copy 51 = .ok (.aload 6, 2) := by decide +kernel
theorem dX11_copy_53 : decode cX11_copy 53 = .ok (.getfield 325, 3) := by decide +kernel
theorem dX11_copy_56 : decode cX11_copy 56 = .ok (.aload 7, 2) := by decide +kernel
theorem dX11_copy_58 : decode cX11_copy 58 = .ok (.getfield 325, 3) := by decide +kernel
theorem dX11_copy_61 : decode cX11_copy 61 = .ok (.if_icmp .eq 6, 3) := by decide +kernel
theorem dX11_copy_64 : decode cX11_copy 64 = .ok (.bipush (-12), 2) := by decide +kernel
theorem dX11_copy_66 : decode cX11_copy 66 = .ok (.ireturn, 1) := by decide +kernel
theorem dX11_copy_67 : decode cX11_copy 67 = .ok (.aload 6, 2) := by decide +kernel
theorem dX11_copy_69 : decode cX11_copy 69 = .ok (.iload_n 2, 1) := by decide +kernel
theorem dX11_copy_70 : decode cX11_copy 70 = .ok (.iload 5, 2) := by decide +kernel
theorem dX11_copy_72 : decode cX11_copy 72 = .ok (.invokevirtual 328, 3) := by decide +kernel
theorem dX11_copy_75 : decode cX11_copy 75 = .ok (.ifCond .eq 15, 3) := by decide +kernel
theorem dX11_copy_78 : decode cX11_copy 78 = .ok (.aload 7, 2) := by decide +kernel
theorem dX11_copy_80 : decode cX11_copy 80 = .ok (.iload 4, 2) := by decide +kernel
theorem dX11_copy_82 : decode cX11_copy 82 = .ok (.iload 5, 2) := by decide +kernel
theorem dX11_copy_84 : decode cX11_copy 84 = .ok (.invokevirtual 328, 3) := by decide +kernel
theorem dX11_copy_87 : decode cX11_copy 87 = .ok (.ifCond .ne 6, 3) := by decide +kernel
theorem dX11_copy_90 : decode cX11_copy 90 = .ok (.bipush (-13), 2) := by decide +kernel
theorem dX11_copy_92 : decode cX11_copy 92 = .ok (.ireturn, 1) := by decide +kernel
theorem dX11_copy_93 : decode cX11_copy 93 = .ok (.aload 6, 2) := by decide +kernel
theorem dX11_copy_95 : decode cX11_copy 95 = .ok (.getfield 142, 3) := by decide +kernel
theorem dX11_copy_98 : decode cX11_copy 98 = .ok (.iload_n 2, 1) := by decide +kernel
theorem dX11_copy_99 : decode cX11_copy 99 = .ok (.aload 7, 2) := by decide +kernel
theorem dX11_copy_101 : decode cX11_copy 101 = .ok (.getfield 142, 3) := by decide +kernel
theorem dX11_copy_104 : decode cX11_copy 104 = .ok (.iload 4, 2) := by decide +kernel
theorem dX11_copy_106 : decode cX11_copy 106 = .ok (.iload 5, 2) := by decide +kernel
theorem dX11_copy_108 : decode cX11_copy 108 = .ok (.invokestatic 331, 3) := by decide +kernel
theorem dX11_copy_111 : decode cX11_copy 111 = .ok (.iload 5, 2) := by decide +kernel
theorem dX11_copy_113 : decode cX11_copy 113 = .ok (.ireturn, 1) := by decide +kernel
theorem dX11_bit_0 : decode cX11_bit 0 = .ok (.iload_n 0, 1) := by decide +kernel
theorem dX11_bit_1 : decode cX11_bit 1 = .ok (.ifCond .eq 7, 3) := by decide +kernel
theorem dX11_bit_4 : decode cX11_bit 4 = .ok (.iconst 1, 1) := by decide +kernel
theorem dX11_bit_5 : decode cX11_bit 5 = .ok (.goto 4, 3) := by decide +kernel
theorem dX11_bit_8 : decode cX11_bit 8 = .ok (.iconst 0, 1) := by decide +kernel
theorem dX11_bit_9 : decode cX11_bit 9 = .ok (.ireturn, 1) := by decide +kernel
theorem dX11_isSlot_0 : decode cX11_isSlot 0 = .ok (.iload_n 0, 1) := by decide +kernel
theorem dX11_isSlot_1 : decode cX11_isSlot 1 = .ok (.ifCond .lt 12, 3) := by decide +kernel
theorem dX11_isSlot_4 : decode cX11_isSlot 4 = .ok (.iload_n 0, 1) := by decide +kernel
theorem dX11_isSlot_5 : decode cX11_isSlot 5 = .ok (.iconst 4, 1) := by decide +kernel
theorem dX11_isSlot_6 : decode cX11_isSlot 6 = .ok (.if_icmp .ge 7, 3) := by decide +kernel
theorem dX11_isSlot_9 : decode cX11_isSlot 9 = .ok (.iconst 1, 1) := by decide +kernel
theorem dX11_isSlot_10 : decode cX11_isSlot 10 = .ok (.goto 4, 3) := by decide +kernel
theorem dX11_isSlot_13 : decode cX11_isSlot 13 = .ok (.iconst 0, 1) := by decide +kernel
theorem dX11_isSlot_14 : decode cX11_isSlot 14 = .ok (.ireturn, 1) := by decide +kernel
theorem dX11_isSheet_0 : decode cX11_isSheet 0 = .ok (.iload_n 0, 1) := by decide +kernel
theorem dX11_isSheet_1 : decode cX11_isSheet 1 = .ok (.ifCond .lt 12, 3) := by decide +kernel
theorem dX11_isSheet_4 : decode cX11_isSheet 4 = .ok (.iload_n 0, 1) := by decide +kernel
theorem dX11_isSheet_5 : decode cX11_isSheet 5 = .ok (.iconst 4, 1) := by decide +kernel
theorem dX11_isSheet_6 : decode cX11_isSheet 6 = .ok (.if_icmp .ge 7, 3) := by decide +kernel
theorem dX11_isSheet_9 : decode cX11_isSheet 9 = .ok (.iconst 1, 1) := by decide +kernel
theorem dX11_isSheet_10 : decode cX11_isSheet 10 = .ok (.goto 4, 3) := by decide +kernel
theorem dX11_isSheet_13 : decode cX11_isSheet 13 = .ok (.iconst 0, 1) := by decide +kernel
theorem dX11_isSheet_14 : decode cX11_isSheet 14 = .ok (.ireturn, 1) := by decide +kernel
theorem dX11_isLane_0 : decode cX11_isLane 0 = .ok (.iload_n 0, 1) := by decide +kernel
theorem dX11_isLane_1 : decode cX11_isLane 1 = .ok (.ifCond .lt 12, 3) := by decide +kernel
theorem dX11_isLane_4 : decode cX11_isLane 4 = .ok (.iload_n 0, 1) := by decide +kernel
theorem dX11_isLane_5 : decode cX11_isLane 5 = .ok (.iconst 2, 1) := by decide +kernel
theorem dX11_isLane_6 : decode cX11_isLane 6 = .ok (.if_icmp .gt 7, 3) := by decide +kernel
theorem dX11_isLane_9 : decode cX11_isLane 9 = .ok (.iconst 1, 1) := by decide +kernel
theorem dX11_isLane_10 : decode cX11_isLane 10 = .ok (.goto 4, 3) := by decide +kernel
theorem dX11_isLane_13 : decode cX11_isLane 13 = .ok (.iconst 0, 1) := by decide +kernel
theorem dX11_isLane_14 : decode cX11_isLane 14 = .ok (.ireturn, 1) := by decide +kernel
theorem dX11_startYard_0 : decode cX11_startYard 0 = .ok (.aload_n 0, 1) := by decide +kernel
theorem dX11_startYard_1 : decode cX11_startYard 1 = .ok (.getfield 10, 3) := by decide +kernel
theorem dX11_startYard_4 : decode cX11_startYard 4 = .ok (.iload_n 1, 1) := by decide +kernel
theorem dX11_startYard_5 : decode cX11_startYard 5 = .ok (.iload_n 2, 1) := by decide +kernel
theorem dX11_startYard_6 : decode cX11_startYard 6 = .ok (.invokevirtual 337, 3) := by decide +kernel
theorem dX11_startYard_9 : decode cX11_startYard 9 = .ok (.aload_n 0, 1) := by decide +kernel
theorem dX11_startYard_10 : decode cX11_startYard 10 = .ok (.invokevirtual 338, 3) := by decide +kernel
theorem dX11_startYard_13 : decode cX11_startYard 13 = .ok (.return_, 1) := by decide +kernel
theorem dX11_changeCell_0 : decode cX11_changeCell 0 = .ok (.aload_n 0, 1) := by decide +kernel
theorem dX11_changeCell_1 : decode cX11_changeCell 1 = .ok (.getfield 10, 3) := by decide +kernel
theorem dX11_changeCell_4 : decode cX11_changeCell 4 = .ok (.getfield 341, 3) := by decide +kernel
theorem dX11_changeCell_7 : decode cX11_changeCell 7 = .ok (.iload_n 1, 1) := by decide +kernel
theorem dX11_changeCell_8 : decode cX11_changeCell 8 = .ok (.baload, 1) := by decide +kernel
theorem dX11_changeCell_9 : decode cX11_changeCell 9 = .ok (.istore_n 3, 1) := by decide +kernel
theorem dX11_changeCell_10 : decode cX11_changeCell 10 = .ok (.iload_n 3, 1) := by decide +kernel
theorem dX11_changeCell_11 : decode cX11_changeCell 11 = .ok (.iload_n 2, 1) := by decide +kernel
theorem dX11_changeCell_12 : decode cX11_changeCell 12 = .ok (.if_icmp .eq 16, 3) := by decide +kernel
theorem dX11_changeCell_15 : decode cX11_changeCell 15 = .ok (.aload_n 0, 1) := by decide +kernel
theorem dX11_changeCell_16 : decode cX11_changeCell 16 = .ok (.getfield 10, 3) := by decide +kernel
theorem dX11_changeCell_19 : decode cX11_changeCell 19 = .ok (.iload_n 1, 1) := by decide +kernel
theorem dX11_changeCell_20 : decode cX11_changeCell 20 = .ok (.iload_n 2, 1) := by decide +kernel
theorem dX11_changeCell_21 : decode cX11_changeCell 21 = .ok (.invokevirtual 345, 3) := by decide +kernel
theorem dX11_changeCell_24 : decode cX11_changeCell 24 = .ok (.aload_n 0, 1) := by decide +kernel
theorem dX11_changeCell_25 : decode cX11_changeCell 25 = .ok (.invokevirtual 338, 3) := by decide +kernel
theorem dX11_changeCell_28 : decode cX11_changeCell 28 = .ok (.iload_n 3, 1) := by decide +kernel
theorem dX11_changeCell_29 : decode cX11_changeCell 29 = .ok (.ireturn, 1) := by decide +kernel
theorem dX11_yardChanged_0 : decode cX11_yardChanged 0 = .ok (.aload_n 0, 1) := by decide +kernel
theorem dX11_yardChanged_1 : decode cX11_yardChanged 1 = .ok (.getfield 26, 3) := by decide +kernel
theorem dX11_yardChanged_4 : decode cX11_yardChanged 4 = .ok (.invokevirtual 170, 3) := by decide +kernel
theorem dX11_yardChanged_7 : decode cX11_yardChanged 7 = .ok (.iconst 0, 1) := by decide +kernel
theorem dX11_yardChanged_8 : decode cX11_yardChanged 8 = .ok (.istore_n 1, 1) := by decide +kernel
theorem dX11_yardChanged_9 : decode cX11_yardChanged 9 = .ok (.iload_n 1, 1) := by decide +kernel
theorem dX11_yardChanged_10 : decode cX11_yardChanged 10 = .ok (.iconst 4, 1) := by decide +kernel
theorem dX11_yardChanged_11 : decode cX11_yardChanged 11 = .ok (.if_icmp .ge 19, 3) := by decide +kernel
theorem dX11_yardChanged_14 : decode cX11_yardChanged 14 = .ok (.aload_n 0, 1) := by decide +kernel
theorem dX11_yardChanged_15 : decode cX11_yardChanged 15 = .ok (.getfield 67, 3) := by decide +kernel
theorem dX11_yardChanged_18 : decode cX11_yardChanged 18 = .ok (.iload_n 1, 1) := by decide +kernel
theorem dX11_yardChanged_19 : decode cX11_yardChanged 19 = .ok (.aaload, 1) := by decide +kernel
theorem dX11_yardChanged_20 : decode cX11_yardChanged 20 = .ok (.iconst 0, 1) := by decide +kernel
theorem dX11_yardChanged_21 : decode cX11_yardChanged 21 = .ok (.putfield 211, 3) := by decide +kernel
theorem dX11_yardChanged_24 : decode cX11_yardChanged 24 = .ok (.iinc 1 1, 3) := by decide +kernel
theorem dX11_yardChanged_27 : decode cX11_yardChanged 27 = .ok (.goto (-18), 3) := by decide +kernel
theorem dX11_yardChanged_30 : decode cX11_yardChanged 30 = .ok (.return_, 1) := by decide +kernel
theorem dX11_heldSlots_0 : decode cX11_heldSlots 0 = .ok (.iconst 0, 1) := by decide +kernel
theorem dX11_heldSlots_1 : decode cX11_heldSlots 1 = .ok (.istore_n 1, 1) := by decide +kernel
theorem dX11_heldSlots_2 : decode cX11_heldSlots 2 = .ok (.iconst 0, 1) := by decide +kernel
theorem dX11_heldSlots_3 : decode cX11_heldSlots 3 = .ok (.istore_n 2, 1) := by decide +kernel
theorem dX11_heldSlots_4 : decode cX11_heldSlots 4 = .ok (.iload_n 2, 1) := by decide +kernel
theorem dX11_heldSlots_5 : decode cX11_heldSlots 5 = .ok (.iconst 4, 1) := by decide +kernel
theorem dX11_heldSlots_6 : decode cX11_heldSlots 6 = .ok (.if_icmp .ge 24, 3) := by decide +kernel
theorem dX11_heldSlots_9 : decode cX11_heldSlots 9 = .ok (.iload_n 1, 1) := by decide +kernel
theorem dX11_heldSlots_10 : decode cX11_heldSlots 10 = .ok (.aload_n 0, 1) := by decide +kernel
theorem dX11_heldSlots_11 : decode cX11_heldSlots 11 = .ok (.getfield 67, 3) := by decide +kernel
theorem dX11_heldSlots_14 : decode cX11_heldSlots 14 = .ok (.iload_n 2, 1) := by decide +kernel
theorem dX11_heldSlots_15 : decode cX11_heldSlots 15 = .ok (.aaload, 1) := by decide +kernel
theorem dX11_heldSlots_16 : decode cX11_heldSlots 16 = .ok (.getfield 211, 3) := by decide +kernel
theorem dX11_heldSlots_19 : decode cX11_heldSlots 19 = .ok (.invokestatic 95, 3) := by decide +kernel
theorem dX11_heldSlots_22 : decode cX11_heldSlots 22 = .ok (.iadd, 1) := by decide +kernel
theorem dX11_heldSlots_23 : decode cX11_heldSlots 23 = .ok (.istore_n 1, 1) := by decide +kernel
theorem dX11_heldSlots_24 : decode cX11_heldSlots 24 = .ok (.iinc 2 1, 3) := by decide +kernel
theorem dX11_heldSlots_27 : decode cX11_heldSlots 27 = .ok (.goto (-23), 3) := by decide +kernel
theorem dX11_heldSlots_30 : decode cX11_heldSlots 30 = .ok (.iload_n 1, 1) := by decide +kernel
theorem dX11_heldSlots_31 : decode cX11_heldSlots 31 = .ok (.ireturn, 1) := by decide +kernel
theorem dX11_slotFault_0 : decode cX11_slotFault 0 = .ok (.aload_n 0, 1) := by decide +kernel
theorem dX11_slotFault_1 : decode cX11_slotFault 1 = .ok (.iload_n 1, 1) := by decide +kernel
theorem dX11_slotFault_2 : decode cX11_slotFault 2 = .ok (.iload_n 1, 1) := by decide +kernel
theorem dX11_slotFault_3 : decode cX11_slotFault 3 = .ok (.invokevirtual 298, 3) := by decide +kernel
theorem dX11_slotFault_6 : decode cX11_slotFault 6 = .ok (.ireturn, 1) := by decide +kernel
theorem dX11_slotsFault_0 : decode cX11_slotsFault 0 = .ok (.iload_n 1, 1) := by decide +kernel
theorem dX11_slotsFault_1 : decode cX11_slotsFault 1 = .ok (.invokestatic 194, 3) := by decide +kernel
theorem dX11_slotsFault_4 : decode cX11_slotsFault 4 = .ok (.ifCond .eq 10, 3) := by decide +kernel
theorem dX11_slotsFault_7 : decode cX11_slotsFault 7 = .ok (.iload_n 2, 1) := by decide +kernel
theorem dX11_slotsFault_8 : decode cX11_slotsFault 8 = .ok (.invokestatic 194, 3) := by decide +kernel
theorem dX11_slotsFault_11 : decode cX11_slotsFault 11 = .ok (.ifCond .ne 5, 3) := by decide +kernel
theorem dX11_slotsFault_14 : decode cX11_slotsFault 14 = .ok (.iconst (-1), 1) := by decide +kernel
theorem dX11_slotsFault_15 : decode cX11_slotsFault 15 = .ok (.ireturn, 1) := by decide +kernel
theorem dX11_slotsFault_16 : decode cX11_slotsFault 16 = .ok (.aload_n 0, 1) := by decide +kernel
theorem dX11_slotsFault_17 : decode cX11_slotsFault 17 = .ok (.getfield 67, 3) := by decide +kernel
theorem dX11_slotsFault_20 : decode cX11_slotsFault 20 = .ok (.iload_n 1, 1) := by decide +kernel
theorem dX11_slotsFault_21 : decode cX11_slotsFault 21 = .ok (.aaload, 1) := by decide +kernel
theorem dX11_slotsFault_22 : decode cX11_slotsFault 22 = .ok (.getfield 211, 3) := by decide +kernel
theorem dX11_slotsFault_25 : decode cX11_slotsFault 25 = .ok (.ifCond .eq 19, 3) := by decide +kernel
theorem dX11_slotsFault_28 : decode cX11_slotsFault 28 = .ok (.aload_n 0, 1) := by decide +kernel
theorem dX11_slotsFault_29 : decode cX11_slotsFault 29 = .ok (.getfield 67, 3) := by decide +kernel
theorem dX11_slotsFault_32 : decode cX11_slotsFault 32 = .ok (.iload_n 2, 1) := by decide +kernel
theorem dX11_slotsFault_33 : decode cX11_slotsFault 33 = .ok (.aaload, 1) := by decide +kernel
theorem dX11_slotsFault_34 : decode cX11_slotsFault 34 = .ok (.getfield 211, 3) := by decide +kernel
theorem dX11_slotsFault_37 : decode cX11_slotsFault 37 = .ok (.ifCond .eq 7, 3) := by decide +kernel
theorem dX11_slotsFault_40 : decode cX11_slotsFault 40 = .ok (.iconst 0, 1) := by decide +kernel
theorem dX11_slotsFault_41 : decode cX11_slotsFault 41 = .ok (.goto 5, 3) := by decide +kernel
theorem dX11_slotsFault_44 : decode cX11_slotsFault 44 = .ok (.bipush (-4), 2) := by decide +kernel
theorem dX11_slotsFault_46 : decode cX11_slotsFault 46 = .ok (.ireturn, 1) := by decide +kernel
theorem dX11_wholeFault_0 : decode cX11_wholeFault 0 = .ok (.aload_n 0, 1) := by decide +kernel
theorem dX11_wholeFault_1 : decode cX11_wholeFault 1 = .ok (.iload_n 1, 1) := by decide +kernel
theorem dX11_wholeFault_2 : decode cX11_wholeFault 2 = .ok (.iload_n 2, 1) := by decide +kernel
theorem dX11_wholeFault_3 : decode cX11_wholeFault 3 = .ok (.invokevirtual 298, 3) := by decide +kernel
theorem dX11_wholeFault_6 : decode cX11_wholeFault 6 = .ok (.istore_n 3, 1) := by decide +kernel
theorem dX11_wholeFault_7 : decode cX11_wholeFault 7 = .ok (.iload_n 3, 1) := by decide +kernel
theorem dX11_wholeFault_8 : decode cX11_wholeFault 8 = .ok (.ifCond .ge 5, 3) := by decide +kernel
theorem dX11_wholeFault_11 : decode cX11_wholeFault 11 = .ok (.iload_n 3, 1) := by decide +kernel
theorem dX11_wholeFault_12 : decode cX11_wholeFault 12 = .ok (.ireturn, 1) := by decide +kernel
theorem dX11_wholeFault_13 : decode cX11_wholeFault 13 = .ok (.aload_n 0, 1) := by decide +kernel
theorem dX11_wholeFault_14 : decode cX11_wholeFault 14 = .ok (.getfield 47, 3) := by decide +kernel
theorem dX11_wholeFault_17 : decode cX11_wholeFault 17 = .ok (.aload_n 0, 1) := by decide +kernel
theorem dX11_wholeFault_18 : decode cX11_wholeFault 18 = .ok (.getfield 10, 3) := by decide +kernel
theorem dX11_wholeFault_21 : decode cX11_wholeFault 21 = .ok (.invokevirtual 253, 3) := by decide +kernel
theorem dX11_wholeFault_24 : decode cX11_wholeFault 24 = .ok (.ifCond .eq 7, 3) := by decide +kernel
theorem dX11_wholeFault_27 : decode cX11_wholeFault 27 = .ok (.iconst 0, 1) := by decide +kernel
theorem dX11_wholeFault_28 : decode cX11_wholeFault 28 = .ok (.goto 5, 3) := by decide +kernel
theorem dX11_wholeFault_31 : decode cX11_wholeFault 31 = .ok (.bipush (-2), 2) := by decide +kernel
theorem dX11_wholeFault_33 : decode cX11_wholeFault 33 = .ok (.ireturn, 1) := by decide +kernel
theorem dX11_ringFault_0 : decode cX11_ringFault 0 = .ok (.iload_n 3, 1) := by decide +kernel
theorem dX11_ringFault_1 : decode cX11_ringFault 1 = .ok (.ifCond .ge 5, 3) := by decide +kernel
theorem dX11_ringFault_4 : decode cX11_ringFault 4 = .ok (.iconst (-1), 1) := by decide +kernel
theorem dX11_ringFault_5 : decode cX11_ringFault 5 = .ok (.ireturn, 1) := by decide +kernel
theorem dX11_ringFault_6 : decode cX11_ringFault 6 = .ok (.aload_n 0, 1) := by decide +kernel
theorem dX11_ringFault_7 : decode cX11_ringFault 7 = .ok (.iload_n 1, 1) := by decide +kernel
theorem dX11_ringFault_8 : decode cX11_ringFault 8 = .ok (.iload_n 2, 1) := by decide +kernel
theorem dX11_ringFault_9 : decode cX11_ringFault 9 = .ok (.invokevirtual 298, 3) := by decide +kernel
theorem dX11_ringFault_12 : decode cX11_ringFault 12 = .ok (.istore 4, 2) := by decide +kernel
theorem dX11_ringFault_14 : decode cX11_ringFault 14 = .ok (.iload 4, 2) := by decide +kernel
theorem dX11_ringFault_16 : decode cX11_ringFault 16 = .ok (.ifCond .ge 6, 3) := by decide +kernel
theorem dX11_ringFault_19 : decode cX11_ringFault 19 = .ok (.iload 4, 2) := by decide +kernel
theorem dX11_ringFault_21 : decode cX11_ringFault 21 = .ok (.ireturn, 1) := by decide +kernel
theorem dX11_ringFault_22 : decode cX11_ringFault 22 = .ok (.iload_n 3, 1) := by decide +kernel
theorem dX11_ringFault_23 : decode cX11_ringFault 23 = .ok (.aload_n 0, 1) := by decide +kernel
theorem dX11_ringFault_24 : decode cX11_ringFault 24 = .ok (.getfield 61, 3) := by decide +kernel
theorem dX11_ringFault_27 : decode cX11_ringFault 27 = .ok (.aload_n 0, 1) := by decide +kernel
theorem dX11_ringFault_28 : decode cX11_ringFault 28 = .ok (.getfield 10, 3) := by decide +kernel
theorem dX11_ringFault_31 : decode cX11_ringFault 31 = .ok (.aload_n 0, 1) := by decide +kernel
theorem dX11_ringFault_32 : decode cX11_ringFault 32 = .ok (.getfield 67, 3) := by decide +kernel
theorem dX11_ringFault_35 : decode cX11_ringFault 35 = .ok (.iload_n 1, 1) := by decide +kernel
theorem dX11_ringFault_36 : decode cX11_ringFault 36 = .ok (.aaload, 1) := by decide +kernel
theorem dX11_ringFault_37 : decode cX11_ringFault 37 = .ok (.aload_n 0, 1) := by decide +kernel
theorem dX11_ringFault_38 : decode cX11_ringFault 38 = .ok (.getfield 67, 3) := by decide +kernel
theorem dX11_ringFault_41 : decode cX11_ringFault 41 = .ok (.iload_n 2, 1) := by decide +kernel
theorem dX11_ringFault_42 : decode cX11_ringFault 42 = .ok (.aaload, 1) := by decide +kernel
theorem dX11_ringFault_43 : decode cX11_ringFault 43 = .ok (.invokevirtual 301, 3) := by decide +kernel
theorem dX11_ringFault_46 : decode cX11_ringFault 46 = .ok (.if_icmp .ge 7, 3) := by decide +kernel
theorem dX11_ringFault_49 : decode cX11_ringFault 49 = .ok (.iconst 0, 1) := by decide +kernel
theorem dX11_ringFault_50 : decode cX11_ringFault 50 = .ok (.goto 4, 3) := by decide +kernel
theorem dX11_ringFault_53 : decode cX11_ringFault 53 = .ok (.iconst (-1), 1) := by decide +kernel
theorem dX11_ringFault_54 : decode cX11_ringFault 54 = .ok (.ireturn, 1) := by decide +kernel
theorem dX11_sheetFault_0 : decode cX11_sheetFault 0 = .ok (.aload_n 0, 1) := by decide +kernel
theorem dX11_sheetFault_1 : decode cX11_sheetFault 1 = .ok (.getfield 73, 3) := by decide +kernel
theorem dX11_sheetFault_4 : decode cX11_sheetFault 4 = .ok (.iload_n 1, 1) := by decide +kernel
theorem dX11_sheetFault_5 : decode cX11_sheetFault 5 = .ok (.aaload, 1) := by decide +kernel
theorem dX11_sheetFault_6 : decode cX11_sheetFault 6 = .ok (.getfield 321, 3) := by decide +kernel
theorem dX11_sheetFault_9 : decode cX11_sheetFault 9 = .ok (.ifCond .ne 6, 3) := by decide +kernel
theorem dX11_sheetFault_12 : decode cX11_sheetFault 12 = .ok (.bipush (-11), 2) := by decide +kernel
theorem dX11_sheetFault_14 : decode cX11_sheetFault 14 = .ok (.ireturn, 1) := by decide +kernel
theorem dX11_sheetFault_15 : decode cX11_sheetFault 15 = .ok (.aload_n 0, 1) := by decide +kernel
theorem dX11_sheetFault_16 : decode cX11_sheetFault 16 = .ok (.getfield 73, 3) := by decide +kernel
theorem dX11_sheetFault_19 : decode cX11_sheetFault 19 = .ok (.iload_n 1, 1) := by decide +kernel
theorem dX11_sheetFault_20 : decode cX11_sheetFault 20 = .ok (.aaload, 1) := by decide +kernel
theorem dX11_sheetFault_21 : decode cX11_sheetFault 21 = .ok (.getfield 325, 3) := by decide +kernel
theorem dX11_sheetFault_24 : decode cX11_sheetFault 24 = .ok (.iload_n 2, 1) := by decide +kernel
theorem dX11_sheetFault_25 : decode cX11_sheetFault 25 = .ok (.if_icmp .ne 7, 3) := by decide +kernel
theorem dX11_sheetFault_28 : decode cX11_sheetFault 28 = .ok (.iconst 0, 1) := by decide +kernel
theorem dX11_sheetFault_29 : decode cX11_sheetFault 29 = .ok (.goto 5, 3) := by decide +kernel
theorem dX11_sheetFault_32 : decode cX11_sheetFault 32 = .ok (.bipush (-12), 2) := by decide +kernel
theorem dX11_sheetFault_34 : decode cX11_sheetFault 34 = .ok (.ireturn, 1) := by decide +kernel
theorem dX12_in_0 : decode cX12_in 0 = .ok (.lload_n 0, 1) := by decide +kernel
theorem dX12_in_1 : decode cX12_in 1 = .ok (.lload_n 2, 1) := by decide +kernel
theorem dX12_in_2 : decode cX12_in 2 = .ok (.lcmp, 1) := by decide +kernel
theorem dX12_in_3 : decode cX12_in 3 = .ok (.ifCond .lt 14, 3) := by decide +kernel
theorem dX12_in_6 : decode cX12_in 6 = .ok (.lload_n 0, 1) := by decide +kernel
theorem dX12_in_7 : decode cX12_in 7 = .ok (.lload 4, 2) := by decide +kernel
theorem dX12_in_9 : decode cX12_in 9 = .ok (.lcmp, 1) := by decide +kernel
theorem dX12_in_10 : decode cX12_in 10 = .ok (.ifCond .gt 7, 3) := by decide +kernel
theorem dX12_in_13 : decode cX12_in 13 = .ok (.iconst 1, 1) := by decide +kernel
theorem dX12_in_14 : decode cX12_in 14 = .ok (.goto 4, 3) := by decide +kernel
theorem dX12_in_17 : decode cX12_in 17 = .ok (.iconst 0, 1) := by decide +kernel
theorem dX12_in_18 : decode cX12_in 18 = .ok (.ireturn, 1) := by decide +kernel
theorem dX12_init_0 : decode cX12_init 0 = .ok (.aload_n 0, 1) := by decide +kernel
theorem dX12_init_1 : decode cX12_init 1 = .ok (.invokespecial 1, 3) := by decide +kernel
theorem dX12_init_4 : decode cX12_init 4 = .ok (.aload_n 0, 1) := by decide +kernel
theorem dX12_init_5 : decode cX12_init 5 = .ok (.bipush 64, 2) := by decide +kernel
theorem dX12_init_7 : decode cX12_init 7 = .ok (.newarray .boolean, 2) := by decide +kernel
theorem dX12_init_9 : decode cX12_init 9 = .ok (.putfield 7, 3) := by decide +kernel
theorem dX12_init_12 : decode cX12_init 12 = .ok (.aload_n 0, 1) := by decide +kernel
theorem dX12_init_13 : decode cX12_init 13 = .ok (.sipush 128, 3) := by decide +kernel
theorem dX12_init_16 : decode cX12_init 16 = .ok (.newarray .int, 2) := by decide +kernel
theorem dX12_init_18 : decode cX12_init 18 = .ok (.putfield 13, 3) := by decide +kernel
theorem dX12_init_21 : decode cX12_init 21 = .ok (.aload_n 0, 1) := by decide +kernel
theorem dX12_init_22 : decode cX12_init 22 = .ok (.sipush 128, 3) := by decide +kernel
theorem dX12_init_25 : decode cX12_init 25 = .ok (.newarray .int, 2) := by decide +kernel
theorem dX12_init_27 : decode cX12_init 27 = .ok (.putfield 17, 3) := by decide +kernel
theorem dX12_init_30 : decode cX12_init 30 = .ok (.aload_n 0, 1) := by decide +kernel
theorem dX12_init_31 : decode cX12_init 31 = .ok (.iconst 4, 1) := by decide +kernel
theorem dX12_init_32 : decode cX12_init 32 = .ok (.newarray .boolean, 2) := by decide +kernel
theorem dX12_init_34 : decode cX12_init 34 = .ok (.putfield 20, 3) := by decide +kernel
theorem dX12_init_37 : decode cX12_init 37 = .ok (.aload_n 0, 1) := by decide +kernel
theorem dX12_init_38 : decode cX12_init 38 = .ok (.sipush 256, 3) := by decide +kernel
theorem dX12_init_41 : decode cX12_init 41 = .ok (.newarray .int, 2) := by decide +kernel
theorem dX12_init_43 : decode cX12_init 43 = .ok (.putfield 23, 3) := by decide +kernel
theorem dX12_init_46 : decode cX12_init 46 = .ok (.aload_n 0, 1) := by decide +kernel
theorem dX12_init_47 : decode cX12_init 47 = .ok (.bipush 90, 2) := by decide +kernel
theorem dX12_init_49 : decode cX12_init 49 = .ok (.newarray .int, 2) := by decide +kernel
theorem dX12_init_51 : decode cX12_init 51 = .ok (.putfield 26, 3) := by decide +kernel
theorem dX12_init_54 : decode cX12_init 54 = .ok (.aload_n 0, 1) := by decide +kernel
theorem dX12_init_55 : decode cX12_init 55 = .ok (.bipush 64, 2) := by decide +kernel
theorem dX12_init_57 : decode cX12_init 57 = .ok (.newarray .boolean, 2) := by decide +kernel
theorem dX12_init_59 : decode cX12_init 59 = .ok (.putfield 29, 3) := by decide +kernel
theorem dX12_init_62 : decode cX12_init 62 = .ok (.aload_n 0, 1) := by decide +kernel
theorem dX12_init_63 : decode cX12_init 63 = .ok (.sipush 128, 3) := by decide +kernel
theorem dX12_init_66 : decode cX12_init 66 = .ok (.newarray .boolean, 2) := by decide +kernel
theorem dX12_init_68 : decode cX12_init 68 = .ok (.putfield 32, 3) := by decide +kernel
theorem dX12_init_71 : decode cX12_init 71 = .ok (.aload_n 0, 1) := by decide +kernel
theorem dX12_init_72 : decode cX12_init 72 = .ok (.sipush 16640, 3) := by decide +kernel
theorem dX12_init_75 : decode cX12_init 75 = .ok (.newarray .long, 2) := by decide +kernel
theorem dX12_init_77 : decode cX12_init 77 = .ok (.putfield 35, 3) := by decide +kernel
theorem dX12_init_80 : decode cX12_init 80 = .ok (.aload_n 0, 1) := by decide +kernel
theorem dX12_init_81 : decode cX12_init 81 = .ok (.sipush 16640, 3) := by decide +kernel
theorem dX12_init_84 : decode cX12_init 84 = .ok (.newarray .int, 2) := by decide +kernel
theorem dX12_init_86 : decode cX12_init 86 = .ok (.putfield 39, 3) := by decide +kernel
theorem dX12_init_89 : decode cX12_init 89 = .ok (.aload_n 0, 1) := by decide +kernel
theorem dX12_init_90 : decode cX12_init 90 = .ok (.bipush 64, 2) := by decide +kernel
theorem dX12_init_92 : decode cX12_init 92 = .ok (.newarray .boolean, 2) := by decide +kernel
theorem dX12_init_94 : decode cX12_init 94 = .ok (.putfield 42, 3) := by decide +kernel
theorem dX12_init_97 : decode cX12_init 97 = .ok (.aload_n 0, 1) := by decide +kernel
theorem dX12_init_98 : decode cX12_init 98 = .ok (.bipush 64, 2) := by decide +kernel
theorem dX12_init_100 : decode cX12_init 100 = .ok (.newarray .int, 2) := by decide +kernel
theorem dX12_init_102 : decode cX12_init 102 = .ok (.putfield 45, 3) := by decide +kernel
theorem dX12_init_105 : decode cX12_init 105 = .ok (.aload_n 0, 1) := by decide +kernel
theorem dX12_init_106 : decode cX12_init 106 = .ok (.bipush 64, 2) := by decide +kernel
theorem dX12_init_108 : decode cX12_init 108 = .ok (.newarray .int, 2) := by decide +kernel
theorem dX12_init_110 : decode cX12_init 110 = .ok (.putfield 48, 3) := by decide +kernel
theorem dX12_init_113 : decode cX12_init 113 = .ok (.aload_n 0, 1) := by decide +kernel
theorem dX12_init_114 : decode cX12_init 114 = .ok (.bipush 64, 2) := by decide +kernel
theorem dX12_init_116 : decode cX12_init 116 = .ok (.newarray .int, 2) := by decide +kernel
theorem dX12_init_118 : decode cX12_init 118 = .ok (.putfield 51, 3) := by decide +kernel
theorem dX12_init_121 : decode cX12_init 121 = .ok (.aload_n 0, 1) := by decide +kernel
theorem dX12_init_122 : decode cX12_init 122 = .ok (.bipush 64, 2) := by decide +kernel
theorem dX12_init_124 : decode cX12_init 124 = .ok (.newarray .int, 2) := by decide +kernel
theorem dX12_init_126 : decode cX12_init 126 = .ok (.putfield 54, 3) := by decide +kernel
theorem dX12_init_129 : decode cX12_init 129 = .ok (.aload_n 0, 1) := by decide +kernel
theorem dX12_init_130 : decode cX12_init 130 = .ok (.bipush 100, 2) := by decide +kernel
theorem dX12_init_132 : decode cX12_init 132 = .ok (.newarray .boolean, 2) := by decide +kernel
theorem dX12_init_134 : decode cX12_init 134 = .ok (.putfield 57, 3) := by decide +kernel
theorem dX12_init_137 : decode cX12_init 137 = .ok (.aload_n 0, 1) := by decide +kernel
theorem dX12_init_138 : decode cX12_init 138 = .ok (.bipush 100, 2) := by decide +kernel
theorem dX12_init_140 : decode cX12_init 140 = .ok (.newarray .int, 2) := by decide +kernel
theorem dX12_init_142 : decode cX12_init 142 = .ok (.putfield 60, 3) := by decide +kernel
theorem dX12_init_145 : decode cX12_init 145 = .ok (.aload_n 0, 1) := by decide +kernel
theorem dX12_init_146 : decode cX12_init 146 = .ok (.bipush 81, 2) := by decide +kernel
theorem dX12_init_148 : decode cX12_init 148 = .ok (.newarray .int, 2) := by decide +kernel
theorem dX12_init_150 : decode cX12_init 150 = .ok (.putfield 63, 3) := by decide +kernel
theorem dX12_init_153 : decode cX12_init 153 = .ok (.aload_n 0, 1) := by decide +kernel
theorem dX12_init_154 : decode cX12_init 154 = .ok (.bipush 81, 2) := by decide +kernel
theorem dX12_init_156 : decode cX12_init 156 = .ok (.newarray .int, 2) := by decide +kernel
theorem dX12_init_158 : decode cX12_init 158 = .ok (.putfield 66, 3) := by decide +kernel
theorem dX12_init_161 : decode cX12_init 161 = .ok (.aload_n 0, 1) := by decide +kernel
theorem dX12_init_162 : decode cX12_init 162 = .ok (.bipush 64, 2) := by decide +kernel
theorem dX12_init_164 : decode cX12_init 164 = .ok (.newarray .int, 2) := by decide +kernel
theorem dX12_init_166 : decode cX12_init 166 = .ok (.putfield 69, 3) := by decide +kernel
theorem dX12_init_169 : decode cX12_init 169 = .ok (.aload_n 0, 1) := by decide +kernel
theorem dX12_init_170 : decode cX12_init 170 = .ok (.iconst 4, 1) := by decide +kernel
theorem dX12_init_171 : decode cX12_init 171 = .ok (.newarray .int, 2) := by decide +kernel
theorem dX12_init_173 : decode cX12_init 173 = .ok (.putfield 72, 3) := by decide +kernel
theorem dX12_init_176 : decode cX12_init 176 = .ok (.aload_n 0, 1) := by decide +kernel
theorem dX12_init_177 : decode cX12_init 177 = .ok (.iconst 4, 1) := by decide +kernel
theorem dX12_init_178 : decode cX12_init 178 = .ok (.newarray .int, 2) := by decide +kernel
theorem dX12_init_180 : decode cX12_init 180 = .ok (.putfield 75, 3) := by decide +kernel
theorem dX12_init_183 : decode cX12_init 183 = .ok (.aload_n 0, 1) := by decide +kernel
theorem dX12_init_184 : decode cX12_init 184 = .ok (.sipush 256, 3) := by decide +kernel
theorem dX12_init_187 : decode cX12_init 187 = .ok (.newarray .int, 2) := by decide +kernel
theorem dX12_init_189 : decode cX12_init 189 = .ok (.putfield 78, 3) := by decide +kernel
theorem dX12_init_192 : decode cX12_init 192 = .ok (.aload_n 0, 1) := by decide +kernel
theorem dX12_init_193 : decode cX12_init 193 = .ok (.bipush 64, 2) := by decide +kernel
theorem dX12_init_195 : decode cX12_init 195 = .ok (.newarray .int, 2) := by decide +kernel
theorem dX12_init_197 : decode cX12_init 197 = .ok (.putfield 81, 3) := by decide +kernel
theorem dX12_init_200 : decode cX12_init 200 = .ok (.iconst 0, 1) := by decide +kernel
theorem dX12_init_201 : decode cX12_init 201 = .ok (.istore_n 1, 1) := by decide +kernel
theorem dX12_init_202 : decode cX12_init 202 = .ok (.iload_n 1, 1) := by decide +kernel
theorem dX12_init_203 : decode cX12_init 203 = .ok (.iconst 4, 1) := by decide +kernel
theorem dX12_init_204 : decode cX12_init 204 = .ok (.if_icmp .ge 16, 3) := by decide +kernel
theorem dX12_init_207 : decode cX12_init 207 = .ok (.aload_n 0, 1) := by decide +kernel
theorem dX12_init_208 : decode cX12_init 208 = .ok (.getfield 72, 3) := by decide +kernel
theorem dX12_init_211 : decode cX12_init 211 = .ok (.iload_n 1, 1) := by decide +kernel
theorem dX12_init_212 : decode cX12_init 212 = .ok (.iconst (-1), 1) := by decide +kernel
theorem dX12_init_213 : decode cX12_init 213 = .ok (.iastore, 1) := by decide +kernel
theorem dX12_init_214 : decode cX12_init 214 = .ok (.iinc 1 1, 3) := by decide +kernel
theorem dX12_init_217 : decode cX12_init 217 = .ok (.goto (-15), 3) := by decide +kernel
theorem dX12_init_220 : decode cX12_init 220 = .ok (.aload_n 0, 1) := by decide +kernel
theorem dX12_init_221 : decode cX12_init 221 = .ok (.iconst 4, 1) := by decide +kernel
theorem dX12_init_222 : decode cX12_init 222 = .ok (.iconst 4, 1) := by decide +kernel
theorem dX12_init_223 : decode cX12_init 223 = .ok (.invokevirtual 84, 3) := by decide +kernel
theorem dX12_init_226 : decode cX12_init 226 = .ok (.return_, 1) := by decide +kernel
theorem dX12_emptySlots_0 : decode cX12_emptySlots 0 = .ok (.iconst 0, 1) := by decide +kernel
theorem dX12_emptySlots_1 : decode cX12_emptySlots 1 = .ok (.istore_n 1, 1) := by decide +kernel
theorem dX12_emptySlots_2 : decode cX12_emptySlots 2 = .ok (.iload_n 1, 1) := by decide +kernel
theorem dX12_emptySlots_3 : decode cX12_emptySlots 3 = .ok (.iconst 4, 1) := by decide +kernel
theorem dX12_emptySlots_4 : decode cX12_emptySlots 4 = .ok (.if_icmp .ge 16, 3) := by decide +kernel
theorem dX12_emptySlots_7 : decode cX12_emptySlots 7 = .ok (.aload_n 0, 1) := by decide +kernel
theorem dX12_emptySlots_8 : decode cX12_emptySlots 8 = .ok (.getfield 20, 3) := by decide +kernel
theorem dX12_emptySlots_11 : decode cX12_emptySlots 11 = .ok (.iload_n 1, 1) := by decide +kernel
theorem dX12_emptySlots_12 : decode cX12_emptySlots 12 = .ok (.iconst 0, 1) := by decide +kernel
theorem dX12_emptySlots_13 : decode cX12_emptySlots 13 = .ok (.bastore, 1) := by decide +kernel
theorem dX12_emptySlots_14 : decode cX12_emptySlots 14 = .ok (.iinc 1 1, 3) := by decide +kernel
theorem dX12_emptySlots_17 : decode cX12_emptySlots 17 = .ok (.goto (-15), 3) := by decide +kernel
theorem dX12_emptySlots_20 : decode cX12_emptySlots 20 = .ok (.return_, 1) := by decide +kernel
theorem dX12_begins_0 : decode cX12_begins 0 = .ok (.aload_n 0, 1) := by decide +kernel
theorem dX12_begins_1 : decode cX12_begins 1 = .ok (.iload_n 1, 1) := by decide +kernel
theorem dX12_begins_2 : decode cX12_begins 2 = .ok (.putfield 88, 3) := by decide +kernel
theorem dX12_begins_5 : decode cX12_begins 5 = .ok (.aload_n 0, 1) := by decide +kernel
theorem dX12_begins_6 : decode cX12_begins 6 = .ok (.iload_n 2, 1) := by decide +kernel
theorem dX12_begins_7 : decode cX12_begins 7 = .ok (.putfield 92, 3) := by decide +kernel
theorem dX12_begins_10 : decode cX12_begins 10 = .ok (.iconst 0, 1) := by decide +kernel
theorem dX12_begins_11 : decode cX12_begins 11 = .ok (.istore_n 3, 1) := by decide +kernel
theorem dX12_begins_12 : decode cX12_begins 12 = .ok (.iload_n 3, 1) := by decide +kernel
theorem dX12_begins_13 : decode cX12_begins 13 = .ok (.bipush 64, 2) := by decide +kernel
theorem dX12_begins_15 : decode cX12_begins 15 = .ok (.if_icmp .ge 16, 3) := by decide +kernel
theorem dX12_begins_18 : decode cX12_begins 18 = .ok (.aload_n 0, 1) := by decide +kernel
theorem dX12_begins_19 : decode cX12_begins 19 = .ok (.getfield 7, 3) := by decide +kernel
theorem dX12_begins_22 : decode cX12_begins 22 = .ok (.iload_n 3, 1) := by decide +kernel
theorem dX12_begins_23 : decode cX12_begins 23 = .ok (.iconst 1, 1) := by decide +kernel
theorem dX12_begins_24 : decode cX12_begins 24 = .ok (.bastore, 1) := by decide +kernel
theorem dX12_begins_25 : decode cX12_begins 25 = .ok (.iinc 3 1, 3) := by decide +kernel
theorem dX12_begins_28 : decode cX12_begins 28 = .ok (.goto (-16), 3) := by decide +kernel
theorem dX12_begins_31 : decode cX12_begins 31 = .ok (.iconst 0, 1) := by decide +kernel
theorem dX12_begins_32 : decode cX12_begins 32 = .ok (.istore_n 3, 1) := by decide +kernel
theorem dX12_begins_33 : decode cX12_begins 33 = .ok (.iload_n 3, 1) := by decide +kernel
theorem dX12_begins_34 : decode cX12_begins 34 = .ok (.sipush 128, 3) := by decide +kernel
theorem dX12_begins_37 : decode cX12_begins 37 = .ok (.if_icmp .ge 23, 3) := by decide +kernel
theorem dX12_begins_40 : decode cX12_begins 40 = .ok (.aload_n 0, 1) := by decide +kernel
theorem dX12_begins_41 : decode cX12_begins 41 = .ok (.getfield 13, 3) := by decide +kernel
theorem dX12_begins_44 : decode cX12_begins 44 = .ok (.iload_n 3, 1) := by decide +kernel
theorem dX12_begins_45 : decode cX12_begins 45 = .ok (.iconst 0, 1) := by decide +kernel
theorem dX12_begins_46 : decode cX12_begins 46 = .ok (.iastore, 1) := by decide +kernel
theorem dX12_begins_47 : decode cX12_begins 47 = .ok (.aload_n 0, 1) := by decide +kernel
theorem dX12_begins_48 : decode cX12_begins 48 = .ok (.getfield 17, 3) := by decide +kernel
theorem dX12_begins_51 : decode cX12_begins 51 = .ok (.iload_n 3, 1) := by decide +kernel
theorem dX12_begins_52 : decode cX12_begins 52 = .ok (.iconst 0, 1) := by decide +kernel
theorem dX12_begins_53 : decode cX12_begins 53 = .ok (.iastore, 1) := by decide +kernel
theorem dX12_begins_54 : decode cX12_begins 54 = .ok (.iinc 3 1, 3) := by decide +kernel
theorem dX12_begins_57 : decode cX12_begins 57 = .ok (.goto (-24), 3) := by decide +kernel
theorem dX12_begins_60 : decode cX12_begins 60 = .ok (.aload_n 0, 1) := by decide +kernel
theorem dX12_begins_61 : decode cX12_begins 61 = .ok (.invokevirtual 95, 3) := by decide +kernel
theorem dX12_begins_64 : decode cX12_begins 64 = .ok (.return_, 1) := by decide +kernel
theorem dX12_yard_0 : decode cX12_yard 0 = .ok (.iload_n 1, 1) := by decide +kernel
theorem dX12_yard_1 : decode cX12_yard 1 = .ok (.i2l, 1) := by decide +kernel
theorem dX12_yard_2 : decode cX12_yard 2 = .ok (.lconst 1, 1) := by decide +kernel
theorem dX12_yard_3 : decode cX12_yard 3 = .ok (.ldc2_w 98, 3) := by decide +kernel
theorem dX12_yard_6 : decode cX12_yard 6 = .ok (.invokestatic 100, 3) := by decide +kernel
theorem dX12_yard_9 : decode cX12_yard 9 = .ok (.ifCond .eq 15, 3) := by decide +kernel
theorem dX12_yard_12 : decode cX12_yard 12 = .ok (.iload_n 2, 1) := by decide +kernel
theorem dX12_yard_13 : decode cX12_yard 13 = .ok (.i2l, 1) := by decide +kernel
theorem dX12_yard_14 : decode cX12_yard 14 = .ok (.lconst 1, 1) := by decide +kernel
theorem dX12_yard_15 : decode cX12_yard 15 = .ok (.ldc2_w 98, 3) := by decide +kernel
theorem dX12_yard_18 : decode cX12_yard 18 = .ok (.invokestatic 100, 3) := by decide +kernel
theorem dX12_yard_21 : decode cX12_yard 21 = .ok (.ifCond .ne 5, 3) := by decide +kernel
theorem dX12_yard_24 : decode cX12_yard 24 = .ok (.iconst (-1), 1) := by decide +kernel
theorem dX12_yard_25 : decode cX12_yard 25 = .ok (.ireturn, 1) := by decide +kernel
theorem dX12_yard_26 : decode cX12_yard 26 = .ok (.aload_n 0, 1) := by decide +kernel
theorem dX12_yard_27 : decode cX12_yard 27 = .ok (.iload_n 1, 1) := by decide +kernel
theorem dX12_yard_28 : decode cX12_yard 28 = .ok (.iload_n 2, 1) := by decide +kernel
theorem dX12_yard_29 : decode cX12_yard 29 = .ok (.invokevirtual 84, 3) := by decide +kernel
theorem dX12_yard_32 : decode cX12_yard 32 = .ok (.aload_n 0, 1) := by decide +kernel
theorem dX12_yard_33 : decode cX12_yard 33 = .ok (.getfield 88, 3) := by decide +kernel
theorem dX12_yard_36 : decode cX12_yard 36 = .ok (.aload_n 0, 1) := by decide +kernel
theorem dX12_yard_37 : decode cX12_yard 37 = .ok (.getfield 92, 3) := by decide +kernel
theorem dX12_yard_40 : decode cX12_yard 40 = .ok (.imul, 1) := by decide +kernel
theorem dX12_yard_41 : decode cX12_yard 41 = .ok (.ireturn, 1) := by decide +kernel
theorem dX12_isCell_0 : decode cX12_isCell 0 = .ok (.iload_n 1, 1) := by decide +kernel
theorem dX12_isCell_1 : decode cX12_isCell 1 = .ok (.i2l, 1) := by decide +kernel
theorem dX12_isCell_2 : decode cX12_isCell 2 = .ok (.lconst 0, 1) := by decide +kernel
theorem dX12_isCell_3 : decode cX12_isCell 3 = .ok (.aload_n 0, 1) := by decide +kernel
theorem dX12_isCell_4 : decode cX12_isCell 4 = .ok (.getfield 88, 3) := by decide +kernel
theorem dX12_isCell_7 : decode cX12_isCell 7 = .ok (.aload_n 0, 1) := by decide +kernel
theorem dX12_isCell_8 : decode cX12_isCell 8 = .ok (.getfield 92, 3) := by decide +kernel
theorem dX12_isCell_11 : decode cX12_isCell 11 = .ok (.imul, 1) := by decide +kernel
theorem dX12_isCell_12 : decode cX12_isCell 12 = .ok (.iconst 1, 1) := by decide +kernel
theorem dX12_isCell_13 : decode cX12_isCell 13 = .ok (.isub, 1) := by decide +kernel
theorem dX12_isCell_14 : decode cX12_isCell 14 = .ok (.i2l, 1) := by decide +kernel
theorem dX12_isCell_15 : decode cX12_isCell 15 = .ok (.invokestatic 100, 3) := by decide +kernel
theorem dX12_isCell_18 : decode cX12_isCell 18 = .ok (.ireturn, 1) := by decide +kernel
theorem dX12_isOpenAt_0 : decode cX12_isOpenAt 0 = .ok (.iload_n 1, 1) := by decide +kernel
theorem dX12_isOpenAt_1 : decode cX12_isOpenAt 1 = .ok (.i2l, 1) := by decide +kernel
theorem dX12_isOpenAt_2 : decode cX12_isOpenAt 2 = .ok (.lconst 0, 1) := by decide +kernel
theorem dX12_isOpenAt_3 : decode cX12_isOpenAt 3 = .ok (.aload_n 0, 1) := by decide +kernel
theorem dX12_isOpenAt_4 : decode cX12_isOpenAt 4 = .ok (.getfield 88, 3) := by decide +kernel
theorem dX12_isOpenAt_7 : decode cX12_isOpenAt 7 = .ok (.iconst 1, 1) := by decide +kernel
theorem dX12_isOpenAt_8 : decode cX12_isOpenAt 8 = .ok (.isub, 1) := by decide +kernel
theorem dX12_isOpenAt_9 : decode cX12_isOpenAt 9 = .ok (.i2l, 1) := by decide +kernel
theorem dX12_isOpenAt_10 : decode cX12_isOpenAt 10 = .ok (.invokestatic 100, 3) := by decide +kernel
theorem dX12_isOpenAt_13 : decode cX12_isOpenAt 13 = .ok (.ifCond .eq 39, 3) := by decide +kernel
theorem dX12_isOpenAt_16 : decode cX12_isOpenAt 16 = .ok (.iload_n 2, 1) := by decide +kernel
theorem dX12_isOpenAt_17 : decode cX12_isOpenAt 17 = .ok (.i2l, 1) := by decide +kernel
theorem dX12_isOpenAt_18 : decode cX12_isOpenAt 18 = .ok (.lconst 0, 1) := by decide +kernel
theorem dX12_isOpenAt_19 : decode cX12_isOpenAt 19 = .ok (.aload_n 0, 1) := by decide +kernel
theorem dX12_isOpenAt_20 : decode cX12_isOpenAt 20 = .ok (.getfield 92, 3) := by decide +kernel
theorem dX12_isOpenAt_23 : decode cX12_isOpenAt 23 = .ok (.iconst 1, 1) := by decide +kernel
theorem dX12_isOpenAt_24 : decode cX12_isOpenAt 24 = .ok (.isub, 1) := by decide +kernel
theorem dX12_isOpenAt_25 : decode cX12_isOpenAt 25 = .ok (.i2l, 1) := by decide +kernel
theorem dX12_isOpenAt_26 : decode cX12_isOpenAt 26 = .ok (.invokestatic 100, 3) := by decide +kernel
theorem dX12_isOpenAt_29 : decode cX12_isOpenAt 29 = .ok (.ifCond .eq 23, 3) := by decide +kernel
theorem dX12_isOpenAt_32 : decode cX12_isOpenAt 32 = .ok (.aload_n 0, 1) := by decide +kernel
theorem dX12_isOpenAt_33 : decode cX12_isOpenAt 33 = .ok (.getfield 7, 3) := by decide +kernel
theorem dX12_isOpenAt_36 : decode cX12_isOpenAt 36 = .ok (.aload_n 0, 1) := by decide +kernel
theorem dX12_isOpenAt_37 : decode cX12_isOpenAt 37 = .ok (.getfield 88, 3) := by decide +kernel
theorem dX12_isOpenAt_40 : decode cX12_isOpenAt 40 = .ok (.iload_n 2, 1) := by decide +kernel
theorem dX12_isOpenAt_41 : decode cX12_isOpenAt 41 = .ok (.imul, 1) := by decide +kernel
theorem dX12_isOpenAt_42 : decode cX12_isOpenAt 42 = .ok (.iload_n 1, 1) := by decide +kernel
theorem dX12_isOpenAt_43 : decode cX12_isOpenAt 43 = .ok (.iadd, 1) := by decide +kernel
theorem dX12_isOpenAt_44 : decode cX12_isOpenAt 44 = .ok (.baload, 1) := by decide +kernel
theorem dX12_isOpenAt_45 : decode cX12_isOpenAt 45 = .ok (.ifCond .eq 7, 3) := by decide +kernel
theorem dX12_isOpenAt_48 : decode cX12_isOpenAt 48 = .ok (.iconst 1, 1) := by decide +kernel
theorem dX12_isOpenAt_49 : decode cX12_isOpenAt 49 = .ok (.goto 4, 3) := by decide +kernel
theorem dX12_isOpenAt_52 : decode cX12_isOpenAt 52 = .ok (.iconst 0, 1) := by decide +kernel
theorem dX12_isOpenAt_53 : decode cX12_isOpenAt 53 = .ok (.ireturn, 1) := by decide +kernel
theorem dX12_isDark_0 : decode cX12_isDark 0 = .ok (.iload_n 0, 1) := by decide +kernel
theorem dX12_isDark_1 : decode cX12_isDark 1 = .ok (.iload_n 1, 1) := by decide +kernel
theorem dX12_isDark_2 : decode cX12_isDark 2 = .ok (.iadd, 1) := by decide +kernel
theorem dX12_isDark_3 : decode cX12_isDark 3 = .ok (.iconst 2, 1) := by decide +kernel
theorem dX12_isDark_4 : decode cX12_isDark 4 = .ok (.irem, 1) := by decide +kernel
theorem dX12_isDark_5 : decode cX12_isDark 5 = .ok (.ifCond .ne 7, 3) := by decide +kernel
theorem dX12_isDark_8 : decode cX12_isDark 8 = .ok (.iconst 1, 1) := by decide +kernel
theorem dX12_isDark_9 : decode cX12_isDark 9 = .ok (.goto 4, 3) := by decide +kernel
theorem dX12_isDark_12 : decode cX12_isDark 12 = .ok (.iconst 0, 1) := by decide +kernel
theorem dX12_isDark_13 : decode cX12_isDark 13 = .ok (.ireturn, 1) := by decide +kernel
theorem dX12_isDarkCell_0 : decode cX12_isDarkCell 0 = .ok (.iload_n 1, 1) := by decide +kernel
theorem dX12_isDarkCell_1 : decode cX12_isDarkCell 1 = .ok (.aload_n 0, 1) := by decide +kernel
theorem dX12_isDarkCell_2 : decode cX12_isDarkCell 2 = .ok (.getfield 88, 3) := by decide +kernel
theorem dX12_isDarkCell_5 : decode cX12_isDarkCell 5 = .ok (.irem, 1) := by decide +kernel
theorem dX12_isDarkCell_6 : decode cX12_isDarkCell 6 = .ok (.iload_n 1, 1) := by decide +kernel
theorem dX12_isDarkCell_7 : decode cX12_isDarkCell 7 = .ok (.aload_n 0, 1) := by decide +kernel
theorem dX12_isDarkCell_8 : decode cX12_isDarkCell 8 = .ok (.getfield 88, 3) := by decide +kernel
theorem dX12_isDarkCell_11 : decode cX12_isDarkCell 11 = .ok (.idiv, 1) := by decide +kernel
theorem dX12_isDarkCell_12 : decode cX12_isDarkCell 12 = .ok (.invokestatic 104, 3) := by decide +kernel
theorem dX12_isDarkCell_15 : decode cX12_isDarkCell 15 = .ok (.ireturn, 1) := by decide +kernel
theorem dX12_otherOf_0 : decode cX12_otherOf 0 = .ok (.iload_n 1, 1) := by decide +kernel
theorem dX12_otherOf_1 : decode cX12_otherOf 1 = .ok (.iconst 2, 1) := by decide +kernel
theorem dX12_otherOf_2 : decode cX12_otherOf 2 = .ok (.idiv, 1) := by decide +kernel
theorem dX12_otherOf_3 : decode cX12_otherOf 3 = .ok (.istore_n 2, 1) := by decide +kernel
theorem dX12_otherOf_4 : decode cX12_otherOf 4 = .ok (.iload_n 1, 1) := by decide +kernel
theorem dX12_otherOf_5 : decode cX12_otherOf 5 = .ok (.iconst 2, 1) := by decide +kernel
theorem dX12_otherOf_6 : decode cX12_otherOf 6 = .ok (.irem, 1) := by decide +kernel
theorem dX12_otherOf_7 : decode cX12_otherOf 7 = .ok (.ifCond .ne 26, 3) := by decide +kernel
theorem dX12_otherOf_10 : decode cX12_otherOf 10 = .ok (.iload_n 2, 1) := by decide +kernel
theorem dX12_otherOf_11 : decode cX12_otherOf 11 = .ok (.aload_n 0, 1) := by decide +kernel
theorem dX12_otherOf_12 : decode cX12_otherOf 12 = .ok (.getfield 88, 3) := by decide +kernel
theorem dX12_otherOf_15 : decode cX12_otherOf 15 = .ok (.irem, 1) := by decide +kernel
theorem dX12_otherOf_16 : decode cX12_otherOf 16 = .ok (.iconst 1, 1) := by decide +kernel
theorem dX12_otherOf_17 : decode cX12_otherOf 17 = .ok (.iadd, 1) := by decide +kernel
theorem dX12_otherOf_18 : decode cX12_otherOf 18 = .ok (.aload_n 0, 1) := by decide +kernel
theorem dX12_otherOf_19 : decode cX12_otherOf 19 = .ok (.getfield 88, 3) := by decide +kernel
theorem dX12_otherOf_22 : decode cX12_otherOf 22 = .ok (.if_icmp .ge 9, 3) := by decide +kernel
theorem dX12_otherOf_25 : decode cX12_otherOf 25 = .ok (.iload_n 2, 1) := by decide +kernel
theorem dX12_otherOf_26 : decode cX12_otherOf 26 = .ok (.iconst 1, 1) := by decide +kernel
theorem dX12_otherOf_27 : decode cX12_otherOf 27 = .ok (.iadd, 1) := by decide +kernel
theorem dX12_otherOf_28 : decode cX12_otherOf 28 = .ok (.goto 4, 3) := by decide +kernel
theorem dX12_otherOf_31 : decode cX12_otherOf 31 = .ok (.iconst (-1), 1) := by decide +kernel
theorem dX12_otherOf_32 : decode cX12_otherOf 32 = .ok (.ireturn, 1) := by decide +kernel
theorem dX12_otherOf_33 : decode cX12_otherOf 33 = .ok (.iload_n 2, 1) := by decide +kernel
theorem dX12_otherOf_34 : decode cX12_otherOf 34 = .ok (.aload_n 0, 1) := by decide +kernel
theorem dX12_otherOf_35 : decode cX12_otherOf 35 = .ok (.getfield 88, 3) := by decide +kernel
theorem dX12_otherOf_38 : decode cX12_otherOf 38 = .ok (.idiv, 1) := by decide +kernel
theorem dX12_otherOf_39 : decode cX12_otherOf 39 = .ok (.iconst 1, 1) := by decide +kernel
theorem dX12_otherOf_40 : decode cX12_otherOf 40 = .ok (.iadd, 1) := by decide +kernel
theorem dX12_otherOf_41 : decode cX12_otherOf 41 = .ok (.aload_n 0, 1) := by decide +kernel
theorem dX12_otherOf_42 : decode cX12_otherOf 42 = .ok (.getfield 92, 3) := by decide +kernel
theorem dX12_otherOf_45 : decode cX12_otherOf 45 = .ok (.if_icmp .ge 12, 3) := by decide +kernel
theorem dX12_otherOf_48 : decode cX12_otherOf 48 = .ok (.iload_n 2, 1) := by decide +kernel
theorem dX12_otherOf_49 : decode cX12_otherOf 49 = .ok (.aload_n 0, 1) := by decide +kernel
theorem dX12_otherOf_50 : decode cX12_otherOf 50 = .ok (.getfield 88, 3) := by decide +kernel
theorem dX12_otherOf_53 : decode cX12_otherOf 53 = .ok (.iadd, 1) := by decide +kernel
theorem dX12_otherOf_54 : decode cX12_otherOf 54 = .ok (.goto 4, 3) := by decide +kernel
theorem dX12_otherOf_57 : decode cX12_otherOf 57 = .ok (.iconst (-1), 1) := by decide +kernel
theorem dX12_otherOf_58 : decode cX12_otherOf 58 = .ok (.ireturn, 1) := by decide +kernel
theorem dX12_isBrick_0 : decode cX12_isBrick 0 = .ok (.iload_n 1, 1) := by decide +kernel
theorem dX12_isBrick_1 : decode cX12_isBrick 1 = .ok (.i2l, 1) := by decide +kernel
theorem dX12_isBrick_2 : decode cX12_isBrick 2 = .ok (.lconst 0, 1) := by decide +kernel
theorem dX12_isBrick_3 : decode cX12_isBrick 3 = .ok (.iconst 2, 1) := by decide +kernel
theorem dX12_isBrick_4 : decode cX12_isBrick 4 = .ok (.aload_n 0, 1) := by decide +kernel
theorem dX12_isBrick_5 : decode cX12_isBrick 5 = .ok (.getfield 88, 3) := by decide +kernel
theorem dX12_isBrick_8 : decode cX12_isBrick 8 = .ok (.imul, 1) := by decide +kernel
theorem dX12_isBrick_9 : decode cX12_isBrick 9 = .ok (.aload_n 0, 1) := by decide +kernel
theorem dX12_isBrick_10 : decode cX12_isBrick 10 = .ok (.getfield 92, 3) := by decide +kernel
theorem dX12_isBrick_13 : decode cX12_isBrick 13 = .ok (.imul, 1) := by decide +kernel
theorem dX12_isBrick_14 : decode cX12_isBrick 14 = .ok (.iconst 1, 1) := by decide +kernel
theorem dX12_isBrick_15 : decode cX12_isBrick 15 = .ok (.isub, 1) := by decide +kernel
theorem dX12_isBrick_16 : decode cX12_isBrick 16 = .ok (.i2l, 1) := by decide +kernel
theorem dX12_isBrick_17 : decode cX12_isBrick 17 = .ok (.invokestatic 100, 3) := by decide +kernel
theorem dX12_isBrick_20 : decode cX12_isBrick 20 = .ok (.ifCond .ne 5, 3) := by decide +kernel
theorem dX12_isBrick_23 : decode cX12_isBrick 23 = .ok (.iconst 0, 1) := by decide +kernel
theorem dX12_isBrick_24 : decode cX12_isBrick 24 = .ok (.ireturn, 1) := by decide +kernel
theorem dX12_isBrick_25 : decode cX12_isBrick 25 = .ok (.aload_n 0, 1) := by decide +kernel
theorem dX12_isBrick_26 : decode cX12_isBrick 26 = .ok (.iload_n 1, 1) := by decide +kernel
theorem dX12_isBrick_27 : decode cX12_isBrick 27 = .ok (.invokevirtual 108, 3) := by decide +kernel
theorem dX12_isBrick_30 : decode cX12_isBrick 30 = .ok (.istore_n 2, 1) := by decide +kernel
theorem dX12_isBrick_31 : decode cX12_isBrick 31 = .ok (.iload_n 2, 1) := by decide +kernel
theorem dX12_isBrick_32 : decode cX12_isBrick 32 = .ok (.ifCond .lt 27, 3) := by decide +kernel
theorem dX12_isBrick_35 : decode cX12_isBrick 35 = .ok (.aload_n 0, 1) := by decide +kernel
theorem dX12_isBrick_36 : decode cX12_isBrick 36 = .ok (.getfield 7, 3) := by decide +kernel
theorem dX12_isBrick_39 : decode cX12_isBrick 39 = .ok (.iload_n 1, 1) := by decide +kernel
theorem dX12_isBrick_40 : decode cX12_isBrick 40 = .ok (.iconst 2, 1) := by decide +kernel
theorem dX12_isBrick_41 : decode cX12_isBrick 41 = .ok (.idiv, 1) := by decide +kernel
theorem dX12_isBrick_42 : decode cX12_isBrick 42 = .ok (.baload, 1) := by decide +kernel
theorem dX12_isBrick_43 : decode cX12_isBrick 43 = .ok (.ifCond .eq 16, 3) := by decide +kernel
theorem dX12_isBrick_46 : decode cX12_isBrick 46 = .ok (.aload_n 0, 1) := by decide +kernel
theorem dX12_isBrick_47 : decode cX12_isBrick 47 = .ok (.getfield 7, 3) := by decide +kernel
theorem dX12_isBrick_50 : decode cX12_isBrick 50 = .ok (.iload_n 2, 1) := by decide +kernel
theorem dX12_isBrick_51 : decode cX12_isBrick 51 = .ok (.baload, 1) := by decide +kernel
theorem dX12_isBrick_52 : decode cX12_isBrick 52 = .ok (.ifCond .eq 7, 3) := by decide +kernel
theorem dX12_isBrick_55 : decode cX12_isBrick 55 = .ok (.iconst 1, 1) := by decide +kernel
theorem dX12_isBrick_56 : decode cX12_isBrick 56 = .ok (.goto 4, 3) := by decide +kernel
theorem dX12_isBrick_59 : decode cX12_isBrick 59 = .ok (.iconst 0, 1) := by decide +kernel
theorem dX12_isBrick_60 : decode cX12_isBrick 60 = .ok (.ireturn, 1) := by decide +kernel
theorem dX12_frees_0 : decode cX12_frees 0 = .ok (.aload_n 0, 1) := by decide +kernel
theorem dX12_frees_1 : decode cX12_frees 1 = .ok (.getfield 13, 3) := by decide +kernel
theorem dX12_frees_4 : decode cX12_frees 4 = .ok (.iload_n 1, 1) := by decide +kernel
theorem dX12_frees_5 : decode cX12_frees 5 = .ok (.iconst 0, 1) := by decide +kernel
theorem dX12_frees_6 : decode cX12_frees 6 = .ok (.iastore, 1) := by decide +kernel
theorem dX12_frees_7 : decode cX12_frees 7 = .ok (.aload_n 0, 1) := by decide +kernel
theorem dX12_frees_8 : decode cX12_frees 8 = .ok (.getfield 17, 3) := by decide +kernel
theorem dX12_frees_11 : decode cX12_frees 11 = .ok (.iload_n 1, 1) := by decide +kernel
theorem dX12_frees_12 : decode cX12_frees 12 = .ok (.iconst 0, 1) := by decide +kernel
theorem dX12_frees_13 : decode cX12_frees 13 = .ok (.iastore, 1) := by decide +kernel
theorem dX12_frees_14 : decode cX12_frees 14 = .ok (.return_, 1) := by decide +kernel
theorem dX12_sets_0 : decode cX12_sets 0 = .ok (.aload_n 0, 1) := by decide +kernel
theorem dX12_sets_1 : decode cX12_sets 1 = .ok (.getfield 7, 3) := by decide +kernel
theorem dX12_sets_4 : decode cX12_sets 4 = .ok (.iload_n 1, 1) := by decide +kernel
theorem dX12_sets_5 : decode cX12_sets 5 = .ok (.baload, 1) := by decide +kernel
theorem dX12_sets_6 : decode cX12_sets 6 = .ok (.iload_n 2, 1) := by decide +kernel
theorem dX12_sets_7 : decode cX12_sets 7 = .ok (.if_icmp .ne 4, 3) := by decide +kernel
theorem dX12_sets_10 : decode cX12_sets 10 = .ok (.return_, 1) := by decide +kernel
theorem dX12_sets_11 : decode cX12_sets 11 = .ok (.aload_n 0, 1) := by decide +kernel
theorem dX12_sets_12 : decode cX12_sets 12 = .ok (.getfield 7, 3) := by decide +kernel
theorem dX12_sets_15 : decode cX12_sets 15 = .ok (.iload_n 1, 1) := by decide +kernel
theorem dX12_sets_16 : decode cX12_sets 16 = .ok (.iload_n 2, 1) := by decide +kernel
theorem dX12_sets_17 : decode cX12_sets 17 = .ok (.bastore, 1) := by decide +kernel
theorem dX12_sets_18 : decode cX12_sets 18 = .ok (.aload_n 0, 1) := by decide +kernel
theorem dX12_sets_19 : decode cX12_sets 19 = .ok (.iconst 2, 1) := by decide +kernel
theorem dX12_sets_20 : decode cX12_sets 20 = .ok (.iload_n 1, 1) := by decide +kernel
theorem dX12_sets_21 : decode cX12_sets 21 = .ok (.imul, 1) := by decide +kernel
theorem dX12_sets_22 : decode cX12_sets 22 = .ok (.invokevirtual 112, 3) := by decide +kernel
theorem dX12_sets_25 : decode cX12_sets 25 = .ok (.aload_n 0, 1) := by decide +kernel
theorem dX12_sets_26 : decode cX12_sets 26 = .ok (.iconst 2, 1) := by decide +kernel
theorem dX12_sets_27 : decode cX12_sets 27 = .ok (.iload_n 1, 1) := by decide +kernel
theorem dX12_sets_28 : decode cX12_sets 28 = .ok (.imul, 1) := by decide +kernel
theorem dX12_sets_29 : decode cX12_sets 29 = .ok (.iconst 1, 1) := by decide +kernel
theorem dX12_sets_30 : decode cX12_sets 30 = .ok (.iadd, 1) := by decide +kernel
theorem dX12_sets_31 : decode cX12_sets 31 = .ok (.invokevirtual 112, 3) := by decide +kernel
theorem dX12_sets_34 : decode cX12_sets 34 = .ok (.iload_n 1, 1) := by decide +kernel
theorem dX12_sets_35 : decode cX12_sets 35 = .ok (.aload_n 0, 1) := by decide +kernel
theorem dX12_sets_36 : decode cX12_sets 36 = .ok (.getfield 88, 3) := by decide +kernel
theorem dX12_sets_39 : decode cX12_sets 39 = .ok (.irem, 1) := by decide +kernel
theorem dX12_sets_40 : decode cX12_sets 40 = .ok (.ifCond .le 12, 3) := by decide +kernel
theorem dX12_sets_43 : decode cX12_sets 43 = .ok (.aload_n 0, 1) := by decide +kernel
theorem dX12_sets_44 : decode cX12_sets 44 = .ok (.iconst 2, 1) := by decide +kernel
theorem dX12_sets_45 : decode cX12_sets 45 = .ok (.iload_n 1, 1) := by decide +kernel
theorem dX12_sets_46 : decode cX12_sets 46 = .ok (.imul, 1) := by decide +kernel
theorem dX12_sets_47 : decode cX12_sets 47 = .ok (.iconst 2, 1) := by decide +kernel
theorem dX12_sets_48 : decode cX12_sets 48 = .ok (.isub, 1) := by decide +kernel
theorem dX12_sets_49 : decode cX12_sets 49 = .ok (.invokevirtual 112, 3) := by decide +kernel
theorem dX12_sets_52 : decode cX12_sets 52 = .ok (.iload_n 1, 1) := by decide +kernel
theorem dX12_sets_53 : decode cX12_sets 53 = .ok (.aload_n 0, 1) := by decide +kernel
theorem dX12_sets_54 : decode cX12_sets 54 = .ok (.getfield 88, 3) := by decide +kernel
theorem dX12_sets_57 : decode cX12_sets 57 = .ok (.if_icmp .lt 17, 3) := by decide +kernel
theorem dX12_sets_60 : decode cX12_sets 60 = .ok (.aload_n 0, 1) := by decide +kernel
theorem dX12_sets_61 : decode cX12_sets 61 = .ok (.iconst 2, 1) := by decide +kernel
theorem dX12_sets_62 : decode cX12_sets 62 = .ok (.iload_n 1, 1) := by decide +kernel
theorem dX12_sets_63 : decode cX12_sets 63 = .ok (.aload_n 0, 1) := by decide +kernel
theorem dX12_sets_64 : decode cX12_sets 64 = .ok (.getfield 88, 3) := by decide +kernel
theorem dX12_sets_67 : decode cX12_sets 67 = .ok (.isub, 1) := by decide +kernel
theorem dX12_sets_68 : decode cX12_sets 68 = .ok (.imul, 1) := by decide +kernel
theorem dX12_sets_69 : decode cX12_sets 69 = .ok (.iconst 1, 1) := by decide +kernel
theorem dX12_sets_70 : decode cX12_sets 70 = .ok (.iadd, 1) := by decide +kernel
theorem dX12_sets_71 : decode cX12_sets 71 = .ok (.invokevirtual 112, 3) := by decide +kernel
theorem dX12_sets_74 : decode cX12_sets 74 = .ok (.aload_n 0, 1) := by decide +kernel
theorem dX12_sets_75 : decode cX12_sets 75 = .ok (.invokevirtual 95, 3) := by decide +kernel
theorem dX12_sets_78 : decode cX12_sets 78 = .ok (.return_, 1) := by decide +kernel
theorem dX12_cell_0 : decode cX12_cell 0 = .ok (.aload_n 0, 1) := by decide +kernel
theorem dX12_cell_1 : decode cX12_cell 1 = .ok (.iload_n 1, 1) := by decide +kernel
theorem dX12_cell_2 : decode cX12_cell 2 = .ok (.invokevirtual 116, 3) := by decide +kernel
theorem dX12_cell_5 : decode cX12_cell 5 = .ok (.ifCond .ne 5, 3) := by decide +kernel
theorem dX12_cell_8 : decode cX12_cell 8 = .ok (.iconst (-1), 1) := by decide +kernel
theorem dX12_cell_9 : decode cX12_cell 9 = .ok (.ireturn, 1) := by decide +kernel
theorem dX12_cell_10 : decode cX12_cell 10 = .ok (.aload_n 0, 1) := by decide +kernel
theorem dX12_cell_11 : decode cX12_cell 11 = .ok (.getfield 7, 3) := by decide +kernel
theorem dX12_cell_14 : decode cX12_cell 14 = .ok (.iload_n 1, 1) := by decide +kernel
theorem dX12_cell_15 : decode cX12_cell 15 = .ok (.baload, 1) := by decide +kernel
theorem dX12_cell_16 : decode cX12_cell 16 = .ok (.istore_n 3, 1) := by decide +kernel
theorem dX12_cell_17 : decode cX12_cell 17 = .ok (.aload_n 0, 1) := by decide +kernel
theorem dX12_cell_18 : decode cX12_cell 18 = .ok (.iload_n 1, 1) := by decide +kernel
theorem dX12_cell_19 : decode cX12_cell 19 = .ok (.iload_n 2, 1) := by decide +kernel
theorem dX12_cell_20 : decode cX12_cell 20 = .ok (.invokevirtual 120, 3) := by decide +kernel
theorem dX12_cell_23 : decode cX12_cell 23 = .ok (.iload_n 3, 1) := by decide +kernel
theorem dX12_cell_24 : decode cX12_cell 24 = .ok (.ifCond .eq 7, 3) := by decide +kernel
theorem dX12_cell_27 : decode cX12_cell 27 = .ok (.iconst 1, 1) := by decide +kernel
theorem dX12_cell_28 : decode cX12_cell 28 = .ok (.goto 4, 3) := by decide +kernel
theorem dX12_cell_31 : decode cX12_cell 31 = .ok (.iconst 0, 1) := by decide +kernel
theorem dX12_cell_32 : decode cX12_cell 32 = .ok (.ireturn, 1) := by decide +kernel
theorem dX12_type_0 : decode cX12_type 0 = .ok (.iload_n 3, 1) := by decide +kernel
theorem dX12_type_1 : decode cX12_type 1 = .ok (.i2l, 1) := by decide +kernel
theorem dX12_type_2 : decode cX12_type 2 = .ok (.lconst 1, 1) := by decide +kernel
theorem dX12_type_3 : decode cX12_type 3 = .ok (.ldc2_w 98, 3) := by decide +kernel
theorem dX12_type_6 : decode cX12_type 6 = .ok (.invokestatic 100, 3) := by decide +kernel
theorem dX12_type_9 : decode cX12_type 9 = .ok (.ifCond .ne 5, 3) := by decide +kernel
theorem dX12_type_12 : decode cX12_type 12 = .ok (.iconst (-1), 1) := by decide +kernel
theorem dX12_type_13 : decode cX12_type 13 = .ok (.ireturn, 1) := by decide +kernel
theorem dX12_type_14 : decode cX12_type 14 = .ok (.iconst 0, 1) := by decide +kernel
theorem dX12_type_15 : decode cX12_type 15 = .ok (.istore 4, 2) := by decide +kernel
theorem dX12_type_17 : decode cX12_type 17 = .ok (.iload 4, 2) := by decide +kernel
theorem dX12_type_19 : decode cX12_type 19 = .ok (.iload_n 3, 1) := by decide +kernel
theorem dX12_type_20 : decode cX12_type 20 = .ok (.if_icmp .ge 34, 3) := by decide +kernel
theorem dX12_type_23 : decode cX12_type 23 = .ok (.lload_n 1, 1) := by decide +kernel
theorem dX12_type_24 : decode cX12_type 24 = .ok (.bipush 8, 2) := by decide +kernel
theorem dX12_type_26 : decode cX12_type 26 = .ok (.iload 4, 2) := by decide +kernel
theorem dX12_type_28 : decode cX12_type 28 = .ok (.imul, 1) := by decide +kernel
theorem dX12_type_29 : decode cX12_type 29 = .ok (.lshr, 1) := by decide +kernel
theorem dX12_type_30 : decode cX12_type 30 = .ok (.ldc2_w 124, 3) := by decide +kernel
theorem dX12_type_33 : decode cX12_type 33 = .ok (.land, 1) := by decide +kernel
theorem dX12_type_34 : decode cX12_type 34 = .ok (.ldc2_w 126, 3) := by decide +kernel
theorem dX12_type_37 : decode cX12_type 37 = .ok (.ldc2_w 128, 3) := by decide +kernel
theorem dX12_type_40 : decode cX12_type 40 = .ok (.invokestatic 100, 3) := by decide +kernel
theorem dX12_type_43 : decode cX12_type 43 = .ok (.ifCond .ne 5, 3) := by decide +kernel
theorem dX12_type_46 : decode cX12_type 46 = .ok (.iconst (-1), 1) := by decide +kernel
theorem dX12_type_47 : decode cX12_type 47 = .ok (.ireturn, 1) := by decide +kernel
theorem dX12_type_48 : decode cX12_type 48 = .ok (.iinc 4 1, 3) := by decide +kernel
theorem dX12_type_51 : decode cX12_type 51 = .ok (.goto (-34), 3) := by decide +kernel
theorem dX12_type_54 : decode cX12_type 54 = .ok (.aload_n 0, 1) := by decide +kernel
theorem dX12_type_55 : decode cX12_type 55 = .ok (.getfield 130, 3) := by decide +kernel
theorem dX12_type_58 : decode cX12_type 58 = .ok (.iload_n 3, 1) := by decide +kernel
theorem dX12_type_59 : decode cX12_type 59 = .ok (.iadd, 1) := by decide +kernel
theorem dX12_type_60 : decode cX12_type 60 = .ok (.bipush 90, 2) := by decide +kernel
theorem dX12_type_62 : decode cX12_type 62 = .ok (.if_icmp .le 6, 3) := by decide +kernel
theorem dX12_type_65 : decode cX12_type 65 = .ok (.bipush (-3), 2) := by decide +kernel
theorem dX12_type_67 : decode cX12_type 67 = .ok (.ireturn, 1) := by decide +kernel
theorem dX12_type_68 : decode cX12_type 68 = .ok (.iload_n 3, 1) := by decide +kernel
theorem dX12_type_69 : decode cX12_type 69 = .ok (.iconst 1, 1) := by decide +kernel
theorem dX12_type_70 : decode cX12_type 70 = .ok (.isub, 1) := by decide +kernel
theorem dX12_type_71 : decode cX12_type 71 = .ok (.istore 4, 2) := by decide +kernel
theorem dX12_type_73 : decode cX12_type 73 = .ok (.iload 4, 2) := by decide +kernel
theorem dX12_type_75 : decode cX12_type 75 = .ok (.ifCond .lt 40, 3) := by decide +kernel
theorem dX12_type_78 : decode cX12_type 78 = .ok (.aload_n 0, 1) := by decide +kernel
theorem dX12_type_79 : decode cX12_type 79 = .ok (.getfield 26, 3) := by decide +kernel
theorem dX12_type_82 : decode cX12_type 82 = .ok (.aload_n 0, 1) := by decide +kernel
theorem dX12_type_83 : decode cX12_type 83 = .ok (.getfield 130, 3) := by decide +kernel
theorem dX12_type_86 : decode cX12_type 86 = .ok (.lload_n 1, 1) := by decide +kernel
theorem dX12_type_87 : decode cX12_type 87 = .ok (.bipush 8, 2) := by decide +kernel
theorem dX12_type_89 : decode cX12_type 89 = .ok (.iload 4, 2) := by decide +kernel
theorem dX12_type_91 : decode cX12_type 91 = .ok (.imul, 1) := by decide +kernel
theorem dX12_type_92 : decode cX12_type 92 = .ok (.lshr, 1) := by decide +kernel
theorem dX12_type_93 : decode cX12_type 93 = .ok (.ldc2_w 124, 3) := by decide +kernel
theorem dX12_type_96 : decode cX12_type 96 = .ok (.land, 1) := by decide +kernel
theorem dX12_type_97 : decode cX12_type 97 = .ok (.l2i, 1) := by decide +kernel
theorem dX12_type_98 : decode cX12_type 98 = .ok (.iastore, 1) := by decide +kernel
theorem dX12_type_99 : decode cX12_type 99 = .ok (.aload_n 0, 1) := by decide +kernel
theorem dX12_type_100 : decode cX12_type 100 = .ok (.dup, 1) := by decide +kernel
theorem dX12_type_101 : decode cX12_type 101 = .ok (.getfield 130, 3) := by decide +kernel
theorem dX12_type_104 : decode cX12_type 104 = .ok (.iconst 1, 1) := by decide +kernel
theorem dX12_type_105 : decode cX12_type 105 = .ok (.iadd, 1) := by decide +kernel
theorem dX12_type_106 : decode cX12_type 106 = .ok (.putfield 130, 3) := by decide +kernel
theorem dX12_type_109 : decode cX12_type 109 = .ok (.iinc 4 (-1), 3) := by decide +kernel
theorem dX12_type_112 : decode cX12_type 112 = .ok (.goto (-39), 3) := by decide +kernel
theorem dX12_type_115 : decode cX12_type 115 = .ok (.aload_n 0, 1) := by decide +kernel
theorem dX12_type_116 : decode cX12_type 116 = .ok (.getfield 130, 3) := by decide +kernel
theorem dX12_type_119 : decode cX12_type 119 = .ok (.ireturn, 1) := by decide +kernel
theorem dX12_next_0 : decode cX12_next 0 = .ok (.aload_n 0, 1) := by decide +kernel
theorem dX12_next_1 : decode cX12_next 1 = .ok (.getfield 133, 3) := by decide +kernel
theorem dX12_next_4 : decode cX12_next 4 = .ok (.aload_n 0, 1) := by decide +kernel
theorem dX12_next_5 : decode cX12_next 5 = .ok (.getfield 130, 3) := by decide +kernel
theorem dX12_next_8 : decode cX12_next 8 = .ok (.if_icmp .ge 30, 3) := by decide +kernel
theorem dX12_next_11 : decode cX12_next 11 = .ok (.aload_n 0, 1) := by decide +kernel
theorem dX12_next_12 : decode cX12_next 12 = .ok (.getfield 26, 3) := by decide +kernel
theorem dX12_next_15 : decode cX12_next 15 = .ok (.aload_n 0, 1) := by decide +kernel
theorem dX12_next_16 : decode cX12_next 16 = .ok (.getfield 133, 3) := by decide +kernel
theorem dX12_next_19 : decode cX12_next 19 = .ok (.iaload, 1) := by decide +kernel
theorem dX12_next_20 : decode cX12_next 20 = .ok (.bipush 32, 2) := by decide +kernel
theorem dX12_next_22 : decode cX12_next 22 = .ok (.if_icmp .ne 16, 3) := by decide +kernel
theorem dX12_next_25 : decode cX12_next 25 = .ok (.aload_n 0, 1) := by decide +kernel
theorem dX12_next_26 : decode cX12_next 26 = .ok (.dup, 1) := by decide +kernel
theorem dX12_next_27 : decode cX12_next 27 = .ok (.getfield 133, 3) := by decide +kernel
theorem dX12_next_30 : decode cX12_next 30 = .ok (.iconst 1, 1) := by decide +kernel
theorem dX12_next_31 : decode cX12_next 31 = .ok (.iadd, 1) := by decide +kernel
theorem dX12_next_32 : decode cX12_next 32 = .ok (.putfield 133, 3) := by decide +kernel
theorem dX12_next_35 : decode cX12_next 35 = .ok (.goto (-35), 3) := by decide +kernel
theorem dX12_next_38 : decode cX12_next 38 = .ok (.aload_n 0, 1) := by decide +kernel
theorem dX12_next_39 : decode cX12_next 39 = .ok (.getfield 133, 3) := by decide +kernel
theorem dX12_next_42 : decode cX12_next 42 = .ok (.aload_n 0, 1) := by decide +kernel
theorem dX12_next_43 : decode cX12_next 43 = .ok (.getfield 130, 3) := by decide +kernel
theorem dX12_next_46 : decode cX12_next 46 = .ok (.if_icmp .ge 15, 3) := by decide +kernel
theorem dX12_next_49 : decode cX12_next 49 = .ok (.aload_n 0, 1) := by decide +kernel
theorem dX12_next_50 : decode cX12_next 50 = .ok (.getfield 26, 3) := by decide +kernel
theorem dX12_next_53 : decode cX12_next 53 = .ok (.aload_n 0, 1) := by decide +kernel
theorem dX12_next_54 : decode cX12_next 54 = .ok (.getfield 133, 3) := by decide +kernel
theorem dX12_next_57 : decode cX12_next 57 = .ok (.iaload, 1) := by decide +kernel
theorem dX12_next_58 : decode cX12_next 58 = .ok (.goto 4, 3) := by decide +kernel
theorem dX12_next_61 : decode cX12_next 61 = .ok (.iconst 0, 1) := by decide +kernel
theorem dX12_next_62 : decode cX12_next 62 = .ok (.ireturn, 1) := by decide +kernel
theorem dX12_openMany_0 : decode cX12_openMany 0 = .ok (.iconst 0, 1) := by decide +kernel
theorem dX12_openMany_1 : decode cX12_openMany 1 = .ok (.istore_n 1, 1) := by decide +kernel
theorem dX12_openMany_2 : decode cX12_openMany 2 = .ok (.iconst 0, 1) := by decide +kernel
theorem dX12_openMany_3 : decode cX12_openMany 3 = .ok (.istore_n 2, 1) := by decide +kernel
theorem dX12_openMany_4 : decode cX12_openMany 4 = .ok (.iload_n 2, 1) := by decide +kernel
theorem dX12_openMany_5 : decode cX12_openMany 5 = .ok (.aload_n 0, 1) := by decide +kernel
theorem dX12_openMany_6 : decode cX12_openMany 6 = .ok (.getfield 88, 3) := by decide +kernel
theorem dX12_openMany_9 : decode cX12_openMany 9 = .ok (.aload_n 0, 1) := by decide +kernel
theorem dX12_openMany_10 : decode cX12_openMany 10 = .ok (.getfield 92, 3) := by decide +kernel
theorem dX12_openMany_13 : decode cX12_openMany 13 = .ok (.imul, 1) := by decide +kernel
theorem dX12_openMany_14 : decode cX12_openMany 14 = .ok (.if_icmp .ge 26, 3) := by decide +kernel
theorem dX12_openMany_17 : decode cX12_openMany 17 = .ok (.iload_n 1, 1) := by decide +kernel
theorem dX12_openMany_18 : decode cX12_openMany 18 = .ok (.aload_n 0, 1) := by decide +kernel
theorem dX12_openMany_19 : decode cX12_openMany 19 = .ok (.getfield 7, 3) := by decide +kernel
theorem dX12_openMany_22 : decode cX12_openMany 22 = .ok (.iload_n 2, 1) := by decide +kernel
theorem dX12_openMany_23 : decode cX12_openMany 23 = .ok (.baload, 1) := by decide +kernel
theorem dX12_openMany_24 : decode cX12_openMany 24 = .ok (.ifCond .eq 7, 3) := by decide +kernel
theorem dX12_openMany_27 : decode cX12_openMany 27 = .ok (.iconst 1, 1) := by decide +kernel
theorem dX12_openMany_28 : decode cX12_openMany 28 = .ok (.goto 4, 3) := by decide +kernel
theorem dX12_openMany_31 : decode cX12_openMany 31 = .ok (.iconst 0, 1) := by decide +kernel
theorem dX12_openMany_32 : decode cX12_openMany 32 = .ok (.iadd, 1) := by decide +kernel
theorem dX12_openMany_33 : decode cX12_openMany 33 = .ok (.istore_n 1, 1) := by decide +kernel
theorem dX12_openMany_34 : decode cX12_openMany 34 = .ok (.iinc 2 1, 3) := by decide +kernel
theorem dX12_openMany_37 : decode cX12_openMany 37 = .ok (.goto (-33), 3) := by decide +kernel
theorem dX12_openMany_40 : decode cX12_openMany 40 = .ok (.iload_n 1, 1) := by decide +kernel
theorem dX12_openMany_41 : decode cX12_openMany 41 = .ok (.ireturn, 1) := by decide +kernel
theorem dX12_read_0 : decode cX12_read 0 = .ok (.aload_n 0, 1) := by decide +kernel
theorem dX12_read_1 : decode cX12_read 1 = .ok (.iconst 0, 1) := by decide +kernel
theorem dX12_read_2 : decode cX12_read 2 = .ok (.putfield 133, 3) := by decide +kernel
theorem dX12_read_5 : decode cX12_read 5 = .ok (.iconst 0, 1) := by decide +kernel
theorem dX12_read_6 : decode cX12_read 6 = .ok (.istore_n 1, 1) := by decide +kernel
theorem dX12_read_7 : decode cX12_read 7 = .ok (.iconst 0, 1) := by decide +kernel
theorem dX12_read_8 : decode cX12_read 8 = .ok (.istore_n 2, 1) := by decide +kernel
theorem dX12_read_9 : decode cX12_read 9 = .ok (.iconst 0, 1) := by decide +kernel
theorem dX12_read_10 : decode cX12_read 10 = .ok (.istore_n 3, 1) := by decide +kernel
theorem dX12_read_11 : decode cX12_read 11 = .ok (.iconst 1, 1) := by decide +kernel
theorem dX12_read_12 : decode cX12_read 12 = .ok (.istore 4, 2) := by decide +kernel
theorem dX12_read_14 : decode cX12_read 14 = .ok (.iload 4, 2) := by decide +kernel
theorem dX12_read_16 : decode cX12_read 16 = .ok (.ifCond .eq 181, 3) := by decide +kernel
theorem dX12_read_19 : decode cX12_read 19 = .ok (.iload_n 3, 1) := by decide +kernel
theorem dX12_read_20 : decode cX12_read 20 = .ok (.ifCond .ne 177, 3) := by decide +kernel
theorem dX12_read_23 : decode cX12_read 23 = .ok (.iconst 0, 1) := by decide +kernel
theorem dX12_read_24 : decode cX12_read 24 = .ok (.istore 5, 2) := by decide +kernel
theorem dX12_read_26 : decode cX12_read 26 = .ok (.iload_n 2, 1) := by decide +kernel
theorem dX12_read_27 : decode cX12_read 27 = .ok (.ifCond .ne 8, 3) := by decide +kernel
theorem dX12_read_30 : decode cX12_read 30 = .ok (.bipush 8, 2) := by decide +kernel
theorem dX12_read_32 : decode cX12_read 32 = .ok (.goto 4, 3) := by decide +kernel
theorem dX12_read_35 : decode cX12_read 35 = .ok (.iload_n 1, 1) := by decide +kernel
theorem dX12_read_36 : decode cX12_read 36 = .ok (.istore 6, 2) := by decide +kernel
theorem dX12_read_38 : decode cX12_read 38 = .ok (.iload 5, 2) := by decide +kernel
theorem dX12_read_40 : decode cX12_read 40 = .ok (.iload 6, 2) := by decide +kernel
theorem dX12_read_42 : decode cX12_read 42 = .ok (.if_icmp .ge 63, 3) := by decide +kernel
theorem dX12_read_45 : decode cX12_read 45 = .ok (.aload_n 0, 1) := by decide +kernel
theorem dX12_read_46 : decode cX12_read 46 = .ok (.invokevirtual 136, 3) := by decide +kernel
theorem dX12_read_49 : decode cX12_read 49 = .ok (.bipush 46, 2) := by decide +kernel
theorem dX12_read_51 : decode cX12_read 51 = .ok (.if_icmp .eq 12, 3) := by decide +kernel
theorem dX12_read_54 : decode cX12_read 54 = .ok (.aload_n 0, 1) := by decide +kernel
theorem dX12_read_55 : decode cX12_read 55 = .ok (.invokevirtual 136, 3) := by decide +kernel
theorem dX12_read_58 : decode cX12_read 58 = .ok (.bipush 35, 2) := by decide +kernel
theorem dX12_read_60 : decode cX12_read 60 = .ok (.if_icmp .ne 45, 3) := by decide +kernel
theorem dX12_read_63 : decode cX12_read 63 = .ok (.aload_n 0, 1) := by decide +kernel
theorem dX12_read_64 : decode cX12_read 64 = .ok (.getfield 29, 3) := by decide +kernel
theorem dX12_read_67 : decode cX12_read 67 = .ok (.bipush 8, 2) := by decide +kernel
theorem dX12_read_69 : decode cX12_read 69 = .ok (.iload_n 2, 1) := by decide +kernel
theorem dX12_read_70 : decode cX12_read 70 = .ok (.imul, 1) := by decide +kernel
theorem dX12_read_71 : decode cX12_read 71 = .ok (.iload 5, 2) := by decide +kernel
theorem dX12_read_73 : decode cX12_read 73 = .ok (.iadd, 1) := by decide +kernel
theorem dX12_read_74 : decode cX12_read 74 = .ok (.aload_n 0, 1) := by decide +kernel
theorem dX12_read_75 : decode cX12_read 75 = .ok (.invokevirtual 136, 3) := by decide +kernel
theorem dX12_read_78 : decode cX12_read 78 = .ok (.bipush 46, 2) := by decide +kernel
theorem dX12_read_80 : decode cX12_read 80 = .ok (.if_icmp .ne 7, 3) := by decide +kernel
theorem dX12_read_83 : decode cX12_read 83 = .ok (.iconst 1, 1) := by decide +kernel
theorem dX12_read_84 : decode cX12_read 84 = .ok (.goto 4, 3) := by decide +kernel
theorem dX12_read_87 : decode cX12_read 87 = .ok (.iconst 0, 1) := by decide +kernel
theorem dX12_read_88 : decode cX12_read 88 = .ok (.bastore, 1) := by decide +kernel
theorem dX12_read_89 : decode cX12_read 89 = .ok (.iinc 5 1, 3) := by decide +kernel
theorem dX12_read_92 : decode cX12_read 92 = .ok (.aload_n 0, 1) := by decide +kernel
theorem dX12_read_93 : decode cX12_read 93 = .ok (.dup, 1) := by decide +kernel
theorem dX12_read_94 : decode cX12_read 94 = .ok (.getfield 133, 3) := by decide +kernel
theorem dX12_read_97 : decode cX12_read 97 = .ok (.iconst 1, 1) := by decide +kernel
theorem dX12_read_98 : decode cX12_read 98 = .ok (.iadd, 1) := by decide +kernel
theorem dX12_read_99 : decode cX12_read 99 = .ok (.putfield 133, 3) := by decide +kernel
theorem dX12_read_102 : decode cX12_read 102 = .ok (.goto (-64), 3) := by decide +kernel
theorem dX12_read_105 : decode cX12_read 105 = .ok (.iload 5, 2) := by decide +kernel
theorem dX12_read_107 : decode cX12_read 107 = .ok (.ifCond .eq 13, 3) := by decide +kernel
theorem dX12_read_110 : decode cX12_read 110 = .ok (.iload_n 2, 1) := by decide +kernel
theorem dX12_read_111 : decode cX12_read 111 = .ok (.ifCond .le 13, 3) := by decide +kernel
theorem dX12_read_114 : decode cX12_read 114 = .ok (.iload 5, 2) := by decide +kernel
theorem dX12_read_116 : decode cX12_read 116 = .ok (.iload_n 1, 1) := by decide +kernel
theorem dX12_read_117 : decode cX12_read 117 = .ok (.if_icmp .ge 7, 3) := by decide +kernel
theorem dX12_read_120 : decode cX12_read 120 = .ok (.iconst 1, 1) := by decide +kernel
theorem dX12_read_121 : decode cX12_read 121 = .ok (.goto 4, 3) := by decide +kernel
theorem dX12_read_124 : decode cX12_read 124 = .ok (.iconst 0, 1) := by decide +kernel
theorem dX12_read_125 : decode cX12_read 125 = .ok (.istore_n 3, 1) := by decide +kernel
theorem dX12_read_126 : decode cX12_read 126 = .ok (.iload_n 2, 1) := by decide +kernel
theorem dX12_read_127 : decode cX12_read 127 = .ok (.ifCond .ne 8, 3) := by decide +kernel
theorem dX12_read_130 : decode cX12_read 130 = .ok (.iload 5, 2) := by decide +kernel
theorem dX12_read_132 : decode cX12_read 132 = .ok (.goto 4, 3) := by decide +kernel
theorem dX12_read_135 : decode cX12_read 135 = .ok (.iload_n 1, 1) := by decide +kernel
theorem dX12_read_136 : decode cX12_read 136 = .ok (.istore_n 1, 1) := by decide +kernel
theorem dX12_read_137 : decode cX12_read 137 = .ok (.iload_n 2, 1) := by decide +kernel
theorem dX12_read_138 : decode cX12_read 138 = .ok (.iload_n 3, 1) := by decide +kernel
theorem dX12_read_139 : decode cX12_read 139 = .ok (.ifCond .eq 7, 3) := by decide +kernel
theorem dX12_read_142 : decode cX12_read 142 = .ok (.iconst 0, 1) := by decide +kernel
theorem dX12_read_143 : decode cX12_read 143 = .ok (.goto 4, 3) := by decide +kernel
theorem dX12_read_146 : decode cX12_read 146 = .ok (.iconst 1, 1) := by decide +kernel
theorem dX12_read_147 : decode cX12_read 147 = .ok (.iadd, 1) := by decide +kernel
theorem dX12_read_148 : decode cX12_read 148 = .ok (.istore_n 2, 1) := by decide +kernel
theorem dX12_read_149 : decode cX12_read 149 = .ok (.iload_n 3, 1) := by decide +kernel
theorem dX12_read_150 : decode cX12_read 150 = .ok (.ifCond .ne 22, 3) := by decide +kernel
theorem dX12_read_153 : decode cX12_read 153 = .ok (.iload_n 2, 1) := by decide +kernel
theorem dX12_read_154 : decode cX12_read 154 = .ok (.bipush 8, 2) := by decide +kernel
theorem dX12_read_156 : decode cX12_read 156 = .ok (.if_icmp .ge 16, 3) := by decide +kernel
theorem dX12_read_159 : decode cX12_read 159 = .ok (.aload_n 0, 1) := by decide +kernel
theorem dX12_read_160 : decode cX12_read 160 = .ok (.invokevirtual 136, 3) := by decide +kernel
theorem dX12_read_163 : decode cX12_read 163 = .ok (.bipush 59, 2) := by decide +kernel
theorem dX12_read_165 : decode cX12_read 165 = .ok (.if_icmp .ne 7, 3) := by decide +kernel
theorem dX12_read_168 : decode cX12_read 168 = .ok (.iconst 1, 1) := by decide +kernel
theorem dX12_read_169 : decode cX12_read 169 = .ok (.goto 4, 3) := by decide +kernel
theorem dX12_read_172 : decode cX12_read 172 = .ok (.iconst 0, 1) := by decide +kernel
theorem dX12_read_173 : decode cX12_read 173 = .ok (.istore 4, 2) := by decide +kernel
theorem dX12_read_175 : decode cX12_read 175 = .ok (.aload_n 0, 1) := by decide +kernel
theorem dX12_read_176 : decode cX12_read 176 = .ok (.dup, 1) := by decide +kernel
theorem dX12_read_177 : decode cX12_read 177 = .ok (.getfield 133, 3) := by decide +kernel
theorem dX12_read_180 : decode cX12_read 180 = .ok (.iload 4, 2) := by decide +kernel
theorem dX12_read_182 : decode cX12_read 182 = .ok (.ifCond .eq 7, 3) := by decide +kernel
theorem dX12_read_185 : decode cX12_read 185 = .ok (.iconst 1, 1) := by decide +kernel
theorem dX12_read_186 : decode cX12_read 186 = .ok (.goto 4, 3) := by decide +kernel
theorem dX12_read_189 : decode cX12_read 189 = .ok (.iconst 0, 1) := by decide +kernel
theorem dX12_read_190 : decode cX12_read 190 = .ok (.iadd, 1) := by decide +kernel
theorem dX12_read_191 : decode cX12_read 191 = .ok (.putfield 133, 3) := by decide +kernel
theorem dX12_read_194 : decode cX12_read 194 = .ok (.goto (-180), 3) := by decide +kernel
theorem dX12_read_197 : decode cX12_read 197 = .ok (.iload_n 3, 1) := by decide +kernel
theorem dX12_read_198 : decode cX12_read 198 = .ok (.ifCond .ne 10, 3) := by decide +kernel
theorem dX12_read_201 : decode cX12_read 201 = .ok (.aload_n 0, 1) := by decide +kernel
theorem dX12_read_202 : decode cX12_read 202 = .ok (.invokevirtual 136, 3) := by decide +kernel
theorem dX12_read_205 : decode cX12_read 205 = .ok (.ifCond .eq 7, 3) := by decide +kernel
theorem dX12_read_208 : decode cX12_read 208 = .ok (.iconst 1, 1) := by decide +kernel
theorem dX12_read_209 : decode cX12_read 209 = .ok (.goto 4, 3) := by decide +kernel
theorem dX12_read_212 : decode cX12_read 212 = .ok (.iconst 0, 1) := by decide +kernel
theorem dX12_read_213 : decode cX12_read 213 = .ok (.istore_n 3, 1) := by decide +kernel
theorem dX12_read_214 : decode cX12_read 214 = .ok (.aload_n 0, 1) := by decide +kernel
theorem dX12_read_215 : decode cX12_read 215 = .ok (.iconst 0, 1) := by decide +kernel
theorem dX12_read_216 : decode cX12_read 216 = .ok (.putfield 130, 3) := by decide +kernel
theorem dX12_read_219 : decode cX12_read 219 = .ok (.iload_n 3, 1) := by decide +kernel
theorem dX12_read_220 : decode cX12_read 220 = .ok (.ifCond .eq 11, 3) := by decide +kernel
theorem dX12_read_223 : decode cX12_read 223 = .ok (.bipush (-20), 2) := by decide +kernel
theorem dX12_read_225 : decode cX12_read 225 = .ok (.aload_n 0, 1) := by decide +kernel
theorem dX12_read_226 : decode cX12_read 226 = .ok (.getfield 133, 3) := by decide +kernel
theorem dX12_read_229 : decode cX12_read 229 = .ok (.isub, 1) := by decide +kernel
theorem dX12_read_230 : decode cX12_read 230 = .ok (.ireturn, 1) := by decide +kernel
theorem dX12_read_231 : decode cX12_read 231 = .ok (.aload_n 0, 1) := by decide +kernel
theorem dX12_read_232 : decode cX12_read 232 = .ok (.iload_n 1, 1) := by decide +kernel
theorem dX12_read_233 : decode cX12_read 233 = .ok (.iload_n 2, 1) := by decide +kernel
theorem dX12_read_234 : decode cX12_read 234 = .ok (.invokevirtual 84, 3) := by decide +kernel
theorem dX12_read_237 : decode cX12_read 237 = .ok (.iconst 0, 1) := by decide +kernel
theorem dX12_read_238 : decode cX12_read 238 = .ok (.istore 5, 2) := by decide +kernel
theorem dX12_read_240 : decode cX12_read 240 = .ok (.iload 5, 2) := by decide +kernel
theorem dX12_read_242 : decode cX12_read 242 = .ok (.aload_n 0, 1) := by decide +kernel
theorem dX12_read_243 : decode cX12_read 243 = .ok (.getfield 88, 3) := by decide +kernel
theorem dX12_read_246 : decode cX12_read 246 = .ok (.aload_n 0, 1) := by decide +kernel
theorem dX12_read_247 : decode cX12_read 247 = .ok (.getfield 92, 3) := by decide +kernel
theorem dX12_read_250 : decode cX12_read 250 = .ok (.imul, 1) := by decide +kernel
theorem dX12_read_251 : decode cX12_read 251 = .ok (.if_icmp .ge 39, 3) := by decide +kernel
theorem dX12_read_254 : decode cX12_read 254 = .ok (.aload_n 0, 1) := by decide +kernel
theorem dX12_read_255 : decode cX12_read 255 = .ok (.getfield 7, 3) := by decide +kernel
theorem dX12_read_258 : decode cX12_read 258 = .ok (.iload 5, 2) := by decide +kernel
theorem dX12_read_260 : decode cX12_read 260 = .ok (.aload_n 0, 1) := by decide +kernel
theorem dX12_read_261 : decode cX12_read 261 = .ok (.getfield 29, 3) := by decide +kernel
theorem dX12_read_264 : decode cX12_read 264 = .ok (.bipush 8, 2) := by decide +kernel
theorem dX12_read_266 : decode cX12_read 266 = .ok (.iload 5, 2) := by decide +kernel
theorem dX12_read_268 : decode cX12_read 268 = .ok (.aload_n 0, 1) := by decide +kernel
theorem dX12_read_269 : decode cX12_read 269 = .ok (.getfield 88, 3) := by decide +kernel
theorem dX12_read_272 : decode cX12_read 272 = .ok (.idiv, 1) := by decide +kernel
theorem dX12_read_273 : decode cX12_read 273 = .ok (.imul, 1) := by decide +kernel
theorem dX12_read_274 : decode cX12_read 274 = .ok (.iload 5, 2) := by decide +kernel
theorem dX12_read_276 : decode cX12_read 276 = .ok (.aload_n 0, 1) := by decide +kernel
theorem dX12_read_277 : decode cX12_read 277 = .ok (.getfield 88, 3) := by decide +kernel
theorem dX12_read_280 : decode cX12_read 280 = .ok (.irem, 1) := by decide +kernel
theorem dX12_read_281 : decode cX12_read 281 = .ok (.iadd, 1) := by decide +kernel
theorem dX12_read_282 : decode cX12_read 282 = .ok (.baload, 1) := by decide +kernel
theorem dX12_read_283 : decode cX12_read 283 = .ok (.bastore, 1) := by decide +kernel
theorem dX12_read_284 : decode cX12_read 284 = .ok (.iinc 5 1, 3) := by decide +kernel
theorem dX12_read_287 : decode cX12_read 287 = .ok (.goto (-47), 3) := by decide +kernel
theorem dX12_read_290 : decode cX12_read 290 = .ok (.aload_n 0, 1) := by decide +kernel
theorem dX12_read_291 : decode cX12_read 291 = .ok (.invokevirtual 140, 3) := by decide +kernel
theorem dX12_read_294 : decode cX12_read 294 = .ok (.ireturn, 1) := by decide +kernel
theorem dX12_lay_0 : decode cX12_lay 0 = .ok (.iload_n 1, 1) := by decide +kernel
theorem dX12_lay_1 : decode cX12_lay 1 = .ok (.i2l, 1) := by decide +kernel
theorem dX12_lay_2 : decode cX12_lay 2 = .ok (.lconst 0, 1) := by decide +kernel
theorem dX12_lay_3 : decode cX12_lay 3 = .ok (.aload_n 0, 1) := by decide +kernel
theorem dX12_lay_4 : decode cX12_lay 4 = .ok (.getfield 88, 3) := by decide +kernel
theorem dX12_lay_7 : decode cX12_lay 7 = .ok (.aload_n 0, 1) := by decide +kernel
theorem dX12_lay_8 : decode cX12_lay 8 = .ok (.getfield 92, 3) := by decide +kernel
theorem dX12_lay_11 : decode cX12_lay 11 = .ok (.imul, 1) := by decide +kernel
theorem dX12_lay_12 : decode cX12_lay 12 = .ok (.i2l, 1) := by decide +kernel
theorem dX12_lay_13 : decode cX12_lay 13 = .ok (.invokestatic 100, 3) := by decide +kernel
theorem dX12_lay_16 : decode cX12_lay 16 = .ok (.ifCond .eq 10, 3) := by decide +kernel
theorem dX12_lay_19 : decode cX12_lay 19 = .ok (.iload_n 2, 1) := by decide +kernel
theorem dX12_lay_20 : decode cX12_lay 20 = .ok (.invokestatic 143, 3) := by decide +kernel
theorem dX12_lay_23 : decode cX12_lay 23 = .ok (.ifCond .ne 5, 3) := by decide +kernel
theorem dX12_lay_26 : decode cX12_lay 26 = .ok (.iconst (-1), 1) := by decide +kernel
theorem dX12_lay_27 : decode cX12_lay 27 = .ok (.ireturn, 1) := by decide +kernel
theorem dX12_lay_28 : decode cX12_lay 28 = .ok (.aload_n 0, 1) := by decide +kernel
theorem dX12_lay_29 : decode cX12_lay 29 = .ok (.iload_n 2, 1) := by decide +kernel
theorem dX12_lay_30 : decode cX12_lay 30 = .ok (.iconst 0, 1) := by decide +kernel
theorem dX12_lay_31 : decode cX12_lay 31 = .ok (.iload_n 3, 1) := by decide +kernel
theorem dX12_lay_32 : decode cX12_lay 32 = .ok (.iconst 0, 1) := by decide +kernel
theorem dX12_lay_33 : decode cX12_lay 33 = .ok (.invokevirtual 146, 3) := by decide +kernel
theorem dX12_lay_36 : decode cX12_lay 36 = .ok (.istore 4, 2) := by decide +kernel
theorem dX12_lay_38 : decode cX12_lay 38 = .ok (.iload 4, 2) := by decide +kernel
theorem dX12_lay_40 : decode cX12_lay 40 = .ok (.ifCond .ge 6, 3) := by decide +kernel
theorem dX12_lay_43 : decode cX12_lay 43 = .ok (.iload 4, 2) := by decide +kernel
theorem dX12_lay_45 : decode cX12_lay 45 = .ok (.ireturn, 1) := by decide +kernel
theorem dX12_lay_46 : decode cX12_lay 46 = .ok (.aload_n 0, 1) := by decide +kernel
theorem dX12_lay_47 : decode cX12_lay 47 = .ok (.getfield 75, 3) := by decide +kernel
theorem dX12_lay_50 : decode cX12_lay 50 = .ok (.iload_n 2, 1) := by decide +kernel
theorem dX12_lay_51 : decode cX12_lay 51 = .ok (.iaload, 1) := by decide +kernel
theorem dX12_lay_52 : decode cX12_lay 52 = .ok (.iload_n 3, 1) := by decide +kernel
theorem dX12_lay_53 : decode cX12_lay 53 = .ok (.isub, 1) := by decide +kernel
theorem dX12_lay_54 : decode cX12_lay 54 = .ok (.istore 5, 2) := by decide +kernel
theorem dX12_lay_56 : decode cX12_lay 56 = .ok (.iload_n 1, 1) := by decide +kernel
theorem dX12_lay_57 : decode cX12_lay 57 = .ok (.iload 5, 2) := by decide +kernel
theorem dX12_lay_59 : decode cX12_lay 59 = .ok (.iadd, 1) := by decide +kernel
theorem dX12_lay_60 : decode cX12_lay 60 = .ok (.aload_n 0, 1) := by decide +kernel
theorem dX12_lay_61 : decode cX12_lay 61 = .ok (.getfield 88, 3) := by decide +kernel
theorem dX12_lay_64 : decode cX12_lay 64 = .ok (.aload_n 0, 1) := by decide +kernel
theorem dX12_lay_65 : decode cX12_lay 65 = .ok (.getfield 92, 3) := by decide +kernel
theorem dX12_lay_68 : decode cX12_lay 68 = .ok (.imul, 1) := by decide +kernel
theorem dX12_lay_69 : decode cX12_lay 69 = .ok (.if_icmp .le 5, 3) := by decide +kernel
theorem dX12_lay_72 : decode cX12_lay 72 = .ok (.iconst (-1), 1) := by decide +kernel
theorem dX12_lay_73 : decode cX12_lay 73 = .ok (.ireturn, 1) := by decide +kernel
theorem dX12_lay_74 : decode cX12_lay 74 = .ok (.iconst 0, 1) := by decide +kernel
theorem dX12_lay_75 : decode cX12_lay 75 = .ok (.istore 6, 2) := by decide +kernel
theorem dX12_lay_77 : decode cX12_lay 77 = .ok (.iload 6, 2) := by decide +kernel
theorem dX12_lay_79 : decode cX12_lay 79 = .ok (.iload 5, 2) := by decide +kernel
theorem dX12_lay_81 : decode cX12_lay 81 = .ok (.if_icmp .ge 39, 3) := by decide +kernel
theorem dX12_lay_84 : decode cX12_lay 84 = .ok (.aload_n 0, 1) := by decide +kernel
theorem dX12_lay_85 : decode cX12_lay 85 = .ok (.iload_n 1, 1) := by decide +kernel
theorem dX12_lay_86 : decode cX12_lay 86 = .ok (.iload 6, 2) := by decide +kernel
theorem dX12_lay_88 : decode cX12_lay 88 = .ok (.iadd, 1) := by decide +kernel
theorem dX12_lay_89 : decode cX12_lay 89 = .ok (.aload_n 0, 1) := by decide +kernel
theorem dX12_lay_90 : decode cX12_lay 90 = .ok (.getfield 78, 3) := by decide +kernel
theorem dX12_lay_93 : decode cX12_lay 93 = .ok (.bipush 64, 2) := by decide +kernel
theorem dX12_lay_95 : decode cX12_lay 95 = .ok (.iload_n 2, 1) := by decide +kernel
theorem dX12_lay_96 : decode cX12_lay 96 = .ok (.imul, 1) := by decide +kernel
theorem dX12_lay_97 : decode cX12_lay 97 = .ok (.iload_n 3, 1) := by decide +kernel
theorem dX12_lay_98 : decode cX12_lay 98 = .ok (.iadd, 1) := by decide +kernel
theorem dX12_lay_99 : decode cX12_lay 99 = .ok (.iload 6, 2) := by decide +kernel
theorem dX12_lay_101 : decode cX12_lay 101 = .ok (.iadd, 1) := by decide +kernel
theorem dX12_lay_102 : decode cX12_lay 102 = .ok (.iaload, 1) := by decide +kernel
theorem dX12_lay_103 : decode cX12_lay 103 = .ok (.ifCond .eq 7, 3) := by decide +kernel
theorem dX12_lay_106 : decode cX12_lay 106 = .ok (.iconst 1, 1) := by decide +kernel
theorem dX12_lay_107 : decode cX12_lay 107 = .ok (.goto 4, 3) := by decide +kernel
theorem dX12_lay_110 : decode cX12_lay 110 = .ok (.iconst 0, 1) := by decide +kernel
theorem dX12_lay_111 : decode cX12_lay 111 = .ok (.invokevirtual 120, 3) := by decide +kernel
theorem dX12_lay_114 : decode cX12_lay 114 = .ok (.iinc 6 1, 3) := by decide +kernel
theorem dX12_lay_117 : decode cX12_lay 117 = .ok (.goto (-40), 3) := by decide +kernel
theorem dX12_lay_120 : decode cX12_lay 120 = .ok (.iload 5, 2) := by decide +kernel
theorem dX12_lay_122 : decode cX12_lay 122 = .ok (.ireturn, 1) := by decide +kernel
theorem dX12_count_0 : decode cX12_count 0 = .ok (.iconst 0, 1) := by decide +kernel
theorem dX12_count_1 : decode cX12_count 1 = .ok (.istore_n 2, 1) := by decide +kernel
theorem dX12_count_2 : decode cX12_count 2 = .ok (.iconst 0, 1) := by decide +kernel
theorem dX12_count_3 : decode cX12_count 3 = .ok (.istore_n 3, 1) := by decide +kernel
theorem dX12_count_4 : decode cX12_count 4 = .ok (.iload_n 3, 1) := by decide +kernel
theorem dX12_count_5 : decode cX12_count 5 = .ok (.aload_n 0, 1) := by decide +kernel
theorem dX12_count_6 : decode cX12_count 6 = .ok (.getfield 88, 3) := by decide +kernel
theorem dX12_count_9 : decode cX12_count 9 = .ok (.aload_n 0, 1) := by decide +kernel
theorem dX12_count_10 : decode cX12_count 10 = .ok (.getfield 92, 3) := by decide +kernel
theorem dX12_count_13 : decode cX12_count 13 = .ok (.imul, 1) := by decide +kernel
theorem dX12_count_14 : decode cX12_count 14 = .ok (.if_icmp .ge 34, 3) := by decide +kernel
theorem dX12_count_17 : decode cX12_count 17 = .ok (.iload_n 2, 1) := by decide +kernel
theorem dX12_count_18 : decode cX12_count 18 = .ok (.aload_n 0, 1) := by decide +kernel
theorem dX12_count_19 : decode cX12_count 19 = .ok (.getfield 7, 3) := by decide +kernel
theorem dX12_count_22 : decode cX12_count 22 = .ok (.iload_n 3, 1) := by decide +kernel
theorem dX12_count_23 : decode cX12_count 23 = .ok (.baload, 1) := by decide +kernel
theorem dX12_count_24 : decode cX12_count 24 = .ok (.ifCond .eq 15, 3) := by decide +kernel
theorem dX12_count_27 : decode cX12_count 27 = .ok (.aload_n 0, 1) := by decide +kernel
theorem dX12_count_28 : decode cX12_count 28 = .ok (.iload_n 3, 1) := by decide +kernel
theorem dX12_count_29 : decode cX12_count 29 = .ok (.invokevirtual 150, 3) := by decide +kernel
theorem dX12_count_32 : decode cX12_count 32 = .ok (.ifCond .eq 7, 3) := by decide +kernel
theorem dX12_count_35 : decode cX12_count 35 = .ok (.iconst 1, 1) := by decide +kernel
theorem dX12_count_36 : decode cX12_count 36 = .ok (.goto 4, 3) := by decide +kernel
theorem dX12_count_39 : decode cX12_count 39 = .ok (.iconst 0, 1) := by decide +kernel
theorem dX12_count_40 : decode cX12_count 40 = .ok (.iadd, 1) := by decide +kernel
theorem dX12_count_41 : decode cX12_count 41 = .ok (.istore_n 2, 1) := by decide +kernel
theorem dX12_count_42 : decode cX12_count 42 = .ok (.iinc 3 1, 3) := by decide +kernel
theorem dX12_count_45 : decode cX12_count 45 = .ok (.goto (-41), 3) := by decide +kernel
theorem dX12_count_48 : decode cX12_count 48 = .ok (.iconst 0, 1) := by decide +kernel
theorem dX12_count_49 : decode cX12_count 49 = .ok (.istore_n 3, 1) := by decide +kernel
theorem dX12_count_50 : decode cX12_count 50 = .ok (.iconst 0, 1) := by decide +kernel
theorem dX12_count_51 : decode cX12_count 51 = .ok (.istore 4, 2) := by decide +kernel
theorem dX12_count_53 : decode cX12_count 53 = .ok (.iconst 0, 1) := by decide +kernel
theorem dX12_count_54 : decode cX12_count 54 = .ok (.istore 5, 2) := by decide +kernel
theorem dX12_count_56 : decode cX12_count 56 = .ok (.iconst 0, 1) := by decide +kernel
theorem dX12_count_57 : decode cX12_count 57 = .ok (.istore 6, 2) := by decide +kernel
theorem dX12_count_59 : decode cX12_count 59 = .ok (.iload 6, 2) := by decide +kernel
theorem dX12_count_61 : decode cX12_count 61 = .ok (.iconst 2, 1) := by decide +kernel
theorem dX12_count_62 : decode cX12_count 62 = .ok (.aload_n 0, 1) := by decide +kernel
theorem dX12_count_63 : decode cX12_count 63 = .ok (.getfield 88, 3) := by decide +kernel
theorem dX12_count_66 : decode cX12_count 66 = .ok (.imul, 1) := by decide +kernel
theorem dX12_count_67 : decode cX12_count 67 = .ok (.aload_n 0, 1) := by decide +kernel
theorem dX12_count_68 : decode cX12_count 68 = .ok (.getfield 92, 3) := by decide +kernel
theorem dX12_count_71 : decode cX12_count 71 = .ok (.imul, 1) := by decide +kernel
theorem dX12_count_72 : decode cX12_count 72 = .ok (.if_icmp .ge 68, 3) := by decide +kernel
theorem dX12_count_75 : decode cX12_count 75 = .ok (.iload_n 3, 1) := by decide +kernel
theorem dX12_count_76 : decode cX12_count 76 = .ok (.aload_n 0, 1) := by decide +kernel
theorem dX12_count_77 : decode cX12_count 77 = .ok (.iload 6, 2) := by decide +kernel
theorem dX12_count_79 : decode cX12_count 79 = .ok (.invokevirtual 153, 3) := by decide +kernel
theorem dX12_count_82 : decode cX12_count 82 = .ok (.ifCond .eq 7, 3) := by decide +kernel
theorem dX12_count_85 : decode cX12_count 85 = .ok (.iconst 1, 1) := by decide +kernel
theorem dX12_count_86 : decode cX12_count 86 = .ok (.goto 4, 3) := by decide +kernel
theorem dX12_count_89 : decode cX12_count 89 = .ok (.iconst 0, 1) := by decide +kernel
theorem dX12_count_90 : decode cX12_count 90 = .ok (.iadd, 1) := by decide +kernel
theorem dX12_count_91 : decode cX12_count 91 = .ok (.istore_n 3, 1) := by decide +kernel
theorem dX12_count_92 : decode cX12_count 92 = .ok (.iload 4, 2) := by decide +kernel
theorem dX12_count_94 : decode cX12_count 94 = .ok (.aload_n 0, 1) := by decide +kernel
theorem dX12_count_95 : decode cX12_count 95 = .ok (.getfield 13, 3) := by decide +kernel
theorem dX12_count_98 : decode cX12_count 98 = .ok (.iload 6, 2) := by decide +kernel
theorem dX12_count_100 : decode cX12_count 100 = .ok (.iaload, 1) := by decide +kernel
theorem dX12_count_101 : decode cX12_count 101 = .ok (.iconst 1, 1) := by decide +kernel
theorem dX12_count_102 : decode cX12_count 102 = .ok (.if_icmp .ne 7, 3) := by decide +kernel
theorem dX12_count_105 : decode cX12_count 105 = .ok (.iconst 1, 1) := by decide +kernel
theorem dX12_count_106 : decode cX12_count 106 = .ok (.goto 4, 3) := by decide +kernel
theorem dX12_count_109 : decode cX12_count 109 = .ok (.iconst 0, 1) := by decide +kernel
theorem dX12_count_110 : decode cX12_count 110 = .ok (.iadd, 1) := by decide +kernel
theorem dX12_count_111 : decode cX12_count 111 = .ok (.istore 4, 2) := by decide +kernel
theorem dX12_count_113 : decode cX12_count 113 = .ok (.iload 5, 2) := by decide +kernel
theorem dX12_count_115 : decode cX12_count 115 = .ok (.aload_n 0, 1) := by decide +kernel
theorem dX12_count_116 : decode cX12_count 116 = .ok (.getfield 13, 3) := by decide +kernel
theorem dX12_count_119 : decode cX12_count 119 = .ok (.iload 6, 2) := by decide +kernel
theorem dX12_count_121 : decode cX12_count 121 = .ok (.iaload, 1) := by decide +kernel
theorem dX12_count_122 : decode cX12_count 122 = .ok (.iconst 2, 1) := by decide +kernel
theorem dX12_count_123 : decode cX12_count 123 = .ok (.if_icmp .ne 7, 3) := by decide +kernel
theorem dX12_count_126 : decode cX12_count 126 = .ok (.iconst 1, 1) := by decide +kernel
theorem dX12_count_127 : decode cX12_count 127 = .ok (.goto 4, 3) := by decide +kernel
theorem dX12_count_130 : decode cX12_count 130 = .ok (.iconst 0, 1) := by decide +kernel
theorem dX12_count_131 : decode cX12_count 131 = .ok (.iadd, 1) := by decide +kernel
theorem dX12_count_132 : decode cX12_count 132 = .ok (.istore 5, 2) := by decide +kernel
theorem dX12_count_134 : decode cX12_count 134 = .ok (.iinc 6 1, 3) := by decide +kernel
theorem dX12_count_137 : decode cX12_count 137 = .ok (.goto (-78), 3) := by decide +kernel
theorem dX12_count_140 : decode cX12_count 140 = .ok (.iconst 0, 1) := by decide +kernel
theorem dX12_count_141 : decode cX12_count 141 = .ok (.istore 6, 2) := by decide +kernel
theorem dX12_count_143 : decode cX12_count 143 = .ok (.iconst 0, 1) := by decide +kernel
theorem dX12_count_144 : decode cX12_count 144 = .ok (.istore 7, 2) := by decide +kernel
theorem dX12_count_146 : decode cX12_count 146 = .ok (.iload 7, 2) := by decide +kernel
theorem dX12_count_148 : decode cX12_count 148 = .ok (.iconst 4, 1) := by decide +kernel
theorem dX12_count_149 : decode cX12_count 149 = .ok (.if_icmp .ge 29, 3) := by decide +kernel
theorem dX12_count_152 : decode cX12_count 152 = .ok (.iload 6, 2) := by decide +kernel
theorem dX12_count_154 : decode cX12_count 154 = .ok (.aload_n 0, 1) := by decide +kernel
theorem dX12_count_155 : decode cX12_count 155 = .ok (.getfield 20, 3) := by decide +kernel
theorem dX12_count_158 : decode cX12_count 158 = .ok (.iload 7, 2) := by decide +kernel
theorem dX12_count_160 : decode cX12_count 160 = .ok (.baload, 1) := by decide +kernel
theorem dX12_count_161 : decode cX12_count 161 = .ok (.ifCond .eq 7, 3) := by decide +kernel
theorem dX12_count_164 : decode cX12_count 164 = .ok (.iconst 1, 1) := by decide +kernel
theorem dX12_count_165 : decode cX12_count 165 = .ok (.goto 4, 3) := by decide +kernel
theorem dX12_count_168 : decode cX12_count 168 = .ok (.iconst 0, 1) := by decide +kernel
theorem dX12_count_169 : decode cX12_count 169 = .ok (.iadd, 1) := by decide +kernel
theorem dX12_count_170 : decode cX12_count 170 = .ok (.istore 6, 2) := by decide +kernel
theorem dX12_count_172 : decode cX12_count 172 = .ok (.iinc 7 1, 3) := by decide +kernel
theorem dX12_count_175 : decode cX12_count 175 = .ok (.goto (-29), 3) := by decide +kernel
theorem dX12_count_178 : decode cX12_count 178 = .ok (.iload_n 1, 1) := by decide +kernel
theorem dX12_count_179 : decode cX12_count 179 = .ok (.tableswitch 73 0 7 #[45, 50, 55, 60, 62, 64, 67, 70], 45) := by decide +kernel
theorem dX12_count_224 : decode cX12_count 224 = .ok (.aload_n 0, 1) := by decide +kernel
theorem dX12_count_225 : decode cX12_count 225 = .ok (.getfield 88, 3) := by decide +kernel
theorem dX12_count_228 : decode cX12_count 228 = .ok (.ireturn, 1) := by decide +kernel
theorem dX12_count_229 : decode cX12_count 229 = .ok (.aload_n 0, 1) := by decide +kernel
theorem dX12_count_230 : decode cX12_count 230 = .ok (.getfield 92, 3) := by decide +kernel
theorem dX12_count_233 : decode cX12_count 233 = .ok (.ireturn, 1) := by decide +kernel
theorem dX12_count_234 : decode cX12_count 234 = .ok (.aload_n 0, 1) := by decide +kernel
theorem dX12_count_235 : decode cX12_count 235 = .ok (.invokevirtual 140, 3) := by decide +kernel
theorem dX12_count_238 : decode cX12_count 238 = .ok (.ireturn, 1) := by decide +kernel
theorem dX12_count_239 : decode cX12_count 239 = .ok (.iload_n 2, 1) := by decide +kernel
theorem dX12_count_240 : decode cX12_count 240 = .ok (.ireturn, 1) := by decide +kernel
theorem dX12_count_241 : decode cX12_count 241 = .ok (.iload_n 3, 1) := by decide +kernel
theorem dX12_count_242 : decode cX12_count 242 = .ok (.ireturn, 1) := by decide +kernel
theorem dX12_count_243 : decode cX12_count 243 = .ok (.iload 4, 2) := by decide +kernel
theorem dX12_count_245 : decode cX12_count 245 = .ok (.ireturn, 1) := by decide +kernel
theorem dX12_count_246 : decode cX12_count 246 = .ok (.iload 5, 2) := by decide +kernel
theorem dX12_count_248 : decode cX12_count 248 = .ok (.ireturn, 1) := by decide +kernel
theorem dX12_count_249 : decode cX12_count 249 = .ok (.iload 6, 2) := by decide +kernel
theorem dX12_count_251 : decode cX12_count 251 = .ok (.ireturn, 1) := by decide +kernel
theorem dX12_count_252 : decode cX12_count 252 = .ok (.iconst (-1), 1) := by decide +kernel
theorem dX12_count_253 : decode cX12_count 253 = .ok (.ireturn, 1) := by decide +kernel
theorem dX12_want_0 : decode cX12_want 0 = .ok (.aload_n 0, 1) := by decide +kernel
theorem dX12_want_1 : decode cX12_want 1 = .ok (.iload_n 1, 1) := by decide +kernel
theorem dX12_want_2 : decode cX12_want 2 = .ok (.invokevirtual 153, 3) := by decide +kernel
theorem dX12_want_5 : decode cX12_want 5 = .ok (.ifCond .eq 15, 3) := by decide +kernel
theorem dX12_want_8 : decode cX12_want 8 = .ok (.iload_n 2, 1) := by decide +kernel
theorem dX12_want_9 : decode cX12_want 9 = .ok (.i2l, 1) := by decide +kernel
theorem dX12_want_10 : decode cX12_want 10 = .ok (.lconst 0, 1) := by decide +kernel
theorem dX12_want_11 : decode cX12_want 11 = .ok (.ldc2_w 156, 3) := by decide +kernel
theorem dX12_want_14 : decode cX12_want 14 = .ok (.invokestatic 100, 3) := by decide +kernel
theorem dX12_want_17 : decode cX12_want 17 = .ok (.ifCond .ne 5, 3) := by decide +kernel
theorem dX12_want_20 : decode cX12_want 20 = .ok (.iconst (-1), 1) := by decide +kernel
theorem dX12_want_21 : decode cX12_want 21 = .ok (.ireturn, 1) := by decide +kernel
theorem dX12_want_22 : decode cX12_want 22 = .ok (.aload_n 0, 1) := by decide +kernel
theorem dX12_want_23 : decode cX12_want 23 = .ok (.getfield 13, 3) := by decide +kernel
theorem dX12_want_26 : decode cX12_want 26 = .ok (.iload_n 1, 1) := by decide +kernel
theorem dX12_want_27 : decode cX12_want 27 = .ok (.iaload, 1) := by decide +kernel
theorem dX12_want_28 : decode cX12_want 28 = .ok (.istore_n 3, 1) := by decide +kernel
theorem dX12_want_29 : decode cX12_want 29 = .ok (.aload_n 0, 1) := by decide +kernel
theorem dX12_want_30 : decode cX12_want 30 = .ok (.getfield 13, 3) := by decide +kernel
theorem dX12_want_33 : decode cX12_want 33 = .ok (.iload_n 1, 1) := by decide +kernel
theorem dX12_want_34 : decode cX12_want 34 = .ok (.iload_n 2, 1) := by decide +kernel
theorem dX12_want_35 : decode cX12_want 35 = .ok (.iastore, 1) := by decide +kernel
theorem dX12_want_36 : decode cX12_want 36 = .ok (.iload_n 3, 1) := by decide +kernel
theorem dX12_want_37 : decode cX12_want 37 = .ok (.ireturn, 1) := by decide +kernel
theorem dX12_price_0 : decode cX12_price 0 = .ok (.aload_n 0, 1) := by decide +kernel
theorem dX12_price_1 : decode cX12_price 1 = .ok (.iload_n 1, 1) := by decide +kernel
theorem dX12_price_2 : decode cX12_price 2 = .ok (.invokevirtual 153, 3) := by decide +kernel
theorem dX12_price_5 : decode cX12_price 5 = .ok (.ifCond .eq 15, 3) := by decide +kernel
theorem dX12_price_8 : decode cX12_price 8 = .ok (.iload_n 2, 1) := by decide +kernel
theorem dX12_price_9 : decode cX12_price 9 = .ok (.i2l, 1) := by decide +kernel
theorem dX12_price_10 : decode cX12_price 10 = .ok (.lconst 0, 1) := by decide +kernel
theorem dX12_price_11 : decode cX12_price 11 = .ok (.ldc2_w 158, 3) := by decide +kernel
theorem dX12_price_14 : decode cX12_price 14 = .ok (.invokestatic 100, 3) := by decide +kernel
theorem dX12_price_17 : decode cX12_price 17 = .ok (.ifCond .ne 5, 3) := by decide +kernel
theorem dX12_price_20 : decode cX12_price 20 = .ok (.iconst (-1), 1) := by decide +kernel
theorem dX12_price_21 : decode cX12_price 21 = .ok (.ireturn, 1) := by decide +kernel
theorem dX12_price_22 : decode cX12_price 22 = .ok (.aload_n 0, 1) := by decide +kernel
theorem dX12_price_23 : decode cX12_price 23 = .ok (.getfield 17, 3) := by decide +kernel
theorem dX12_price_26 : decode cX12_price 26 = .ok (.iload_n 1, 1) := by decide +kernel
theorem dX12_price_27 : decode cX12_price 27 = .ok (.iaload, 1) := by decide +kernel
theorem dX12_price_28 : decode cX12_price 28 = .ok (.istore_n 3, 1) := by decide +kernel
theorem dX12_price_29 : decode cX12_price 29 = .ok (.aload_n 0, 1) := by decide +kernel
theorem dX12_price_30 : decode cX12_price 30 = .ok (.getfield 17, 3) := by decide +kernel
theorem dX12_price_33 : decode cX12_price 33 = .ok (.iload_n 1, 1) := by decide +kernel
theorem dX12_price_34 : decode cX12_price 34 = .ok (.iload_n 2, 1) := by decide +kernel
theorem dX12_price_35 : decode cX12_price 35 = .ok (.iastore, 1) := by decide +kernel
theorem dX12_price_36 : decode cX12_price 36 = .ok (.iload_n 3, 1) := by decide +kernel
theorem dX12_price_37 : decode cX12_price 37 = .ok (.ireturn, 1) := by decide +kernel
theorem dX12_allows_0 : decode cX12_allows 0 = .ok (.iconst 0, 1) := by decide +kernel
theorem dX12_allows_1 : decode cX12_allows 1 = .ok (.istore_n 2, 1) := by decide +kernel
theorem dX12_allows_2 : decode cX12_allows 2 = .ok (.iload_n 2, 1) := by decide +kernel
theorem dX12_allows_3 : decode cX12_allows 3 = .ok (.sipush 128, 3) := by decide +kernel
theorem dX12_allows_6 : decode cX12_allows 6 = .ok (.if_icmp .ge 42, 3) := by decide +kernel
theorem dX12_allows_9 : decode cX12_allows 9 = .ok (.aload_n 0, 1) := by decide +kernel
theorem dX12_allows_10 : decode cX12_allows 10 = .ok (.getfield 32, 3) := by decide +kernel
theorem dX12_allows_13 : decode cX12_allows 13 = .ok (.iload_n 2, 1) := by decide +kernel
theorem dX12_allows_14 : decode cX12_allows 14 = .ok (.aload_n 0, 1) := by decide +kernel
theorem dX12_allows_15 : decode cX12_allows 15 = .ok (.iload_n 2, 1) := by decide +kernel
theorem dX12_allows_16 : decode cX12_allows 16 = .ok (.invokevirtual 153, 3) := by decide +kernel
theorem dX12_allows_19 : decode cX12_allows 19 = .ok (.ifCond .eq 21, 3) := by decide +kernel
theorem dX12_allows_22 : decode cX12_allows 22 = .ok (.iload_n 1, 1) := by decide +kernel
theorem dX12_allows_23 : decode cX12_allows 23 = .ok (.ifCond .eq 13, 3) := by decide +kernel
theorem dX12_allows_26 : decode cX12_allows 26 = .ok (.aload_n 0, 1) := by decide +kernel
theorem dX12_allows_27 : decode cX12_allows 27 = .ok (.getfield 13, 3) := by decide +kernel
theorem dX12_allows_30 : decode cX12_allows 30 = .ok (.iload_n 2, 1) := by decide +kernel
theorem dX12_allows_31 : decode cX12_allows 31 = .ok (.iaload, 1) := by decide +kernel
theorem dX12_allows_32 : decode cX12_allows 32 = .ok (.iconst 2, 1) := by decide +kernel
theorem dX12_allows_33 : decode cX12_allows 33 = .ok (.if_icmp .eq 7, 3) := by decide +kernel
theorem dX12_allows_36 : decode cX12_allows 36 = .ok (.iconst 1, 1) := by decide +kernel
theorem dX12_allows_37 : decode cX12_allows 37 = .ok (.goto 4, 3) := by decide +kernel
theorem dX12_allows_40 : decode cX12_allows 40 = .ok (.iconst 0, 1) := by decide +kernel
theorem dX12_allows_41 : decode cX12_allows 41 = .ok (.bastore, 1) := by decide +kernel
theorem dX12_allows_42 : decode cX12_allows 42 = .ok (.iinc 2 1, 3) := by decide +kernel
theorem dX12_allows_45 : decode cX12_allows 45 = .ok (.goto (-43), 3) := by decide +kernel
theorem dX12_allows_48 : decode cX12_allows 48 = .ok (.iconst 0, 1) := by decide +kernel
theorem dX12_allows_49 : decode cX12_allows 49 = .ok (.istore_n 2, 1) := by decide +kernel
theorem dX12_allows_50 : decode cX12_allows 50 = .ok (.iload_n 2, 1) := by decide +kernel
theorem dX12_allows_51 : decode cX12_allows 51 = .ok (.sipush 128, 3) := by decide +kernel
theorem dX12_allows_54 : decode cX12_allows 54 = .ok (.if_icmp .ge 36, 3) := by decide +kernel
theorem dX12_allows_57 : decode cX12_allows 57 = .ok (.iload_n 1, 1) := by decide +kernel
theorem dX12_allows_58 : decode cX12_allows 58 = .ok (.ifCond .eq 32, 3) := by decide +kernel
theorem dX12_allows_61 : decode cX12_allows 61 = .ok (.aload_n 0, 1) := by decide +kernel
theorem dX12_allows_62 : decode cX12_allows 62 = .ok (.iload_n 2, 1) := by decide +kernel
theorem dX12_allows_63 : decode cX12_allows 63 = .ok (.invokevirtual 153, 3) := by decide +kernel
theorem dX12_allows_66 : decode cX12_allows 66 = .ok (.ifCond .eq 18, 3) := by decide +kernel
theorem dX12_allows_69 : decode cX12_allows 69 = .ok (.aload_n 0, 1) := by decide +kernel
theorem dX12_allows_70 : decode cX12_allows 70 = .ok (.getfield 13, 3) := by decide +kernel
theorem dX12_allows_73 : decode cX12_allows 73 = .ok (.iload_n 2, 1) := by decide +kernel
theorem dX12_allows_74 : decode cX12_allows 74 = .ok (.iaload, 1) := by decide +kernel
theorem dX12_allows_75 : decode cX12_allows 75 = .ok (.iconst 1, 1) := by decide +kernel
theorem dX12_allows_76 : decode cX12_allows 76 = .ok (.if_icmp .ne 8, 3) := by decide +kernel
theorem dX12_allows_79 : decode cX12_allows 79 = .ok (.aload_n 0, 1) := by decide +kernel
theorem dX12_allows_80 : decode cX12_allows 80 = .ok (.iload_n 2, 1) := by decide +kernel
theorem dX12_allows_81 : decode cX12_allows 81 = .ok (.invokevirtual 160, 3) := by decide +kernel
theorem dX12_allows_84 : decode cX12_allows 84 = .ok (.iinc 2 1, 3) := by decide +kernel
theorem dX12_allows_87 : decode cX12_allows 87 = .ok (.goto (-37), 3) := by decide +kernel
theorem dX12_allows_90 : decode cX12_allows 90 = .ok (.return_, 1) := by decide +kernel
theorem dX12_musts_0 : decode cX12_musts 0 = .ok (.iload_n 1, 1) := by decide +kernel
theorem dX12_musts_1 : decode cX12_musts 1 = .ok (.iconst 2, 1) := by decide +kernel
theorem dX12_musts_2 : decode cX12_musts 2 = .ok (.idiv, 1) := by decide +kernel
theorem dX12_musts_3 : decode cX12_musts 3 = .ok (.istore_n 2, 1) := by decide +kernel
theorem dX12_musts_4 : decode cX12_musts 4 = .ok (.aload_n 0, 1) := by decide +kernel
theorem dX12_musts_5 : decode cX12_musts 5 = .ok (.iload_n 1, 1) := by decide +kernel
theorem dX12_musts_6 : decode cX12_musts 6 = .ok (.invokevirtual 108, 3) := by decide +kernel
theorem dX12_musts_9 : decode cX12_musts 9 = .ok (.istore_n 3, 1) := by decide +kernel
theorem dX12_musts_10 : decode cX12_musts 10 = .ok (.iconst 0, 1) := by decide +kernel
theorem dX12_musts_11 : decode cX12_musts 11 = .ok (.istore 4, 2) := by decide +kernel
theorem dX12_musts_13 : decode cX12_musts 13 = .ok (.iload 4, 2) := by decide +kernel
theorem dX12_musts_15 : decode cX12_musts 15 = .ok (.iconst 2, 1) := by decide +kernel
theorem dX12_musts_16 : decode cX12_musts 16 = .ok (.aload_n 0, 1) := by decide +kernel
theorem dX12_musts_17 : decode cX12_musts 17 = .ok (.getfield 88, 3) := by decide +kernel
theorem dX12_musts_20 : decode cX12_musts 20 = .ok (.imul, 1) := by decide +kernel
theorem dX12_musts_21 : decode cX12_musts 21 = .ok (.aload_n 0, 1) := by decide +kernel
theorem dX12_musts_22 : decode cX12_musts 22 = .ok (.getfield 92, 3) := by decide +kernel
theorem dX12_musts_25 : decode cX12_musts 25 = .ok (.imul, 1) := by decide +kernel
theorem dX12_musts_26 : decode cX12_musts 26 = .ok (.if_icmp .ge 75, 3) := by decide +kernel
theorem dX12_musts_29 : decode cX12_musts 29 = .ok (.iload 4, 2) := by decide +kernel
theorem dX12_musts_31 : decode cX12_musts 31 = .ok (.iconst 2, 1) := by decide +kernel
theorem dX12_musts_32 : decode cX12_musts 32 = .ok (.idiv, 1) := by decide +kernel
theorem dX12_musts_33 : decode cX12_musts 33 = .ok (.istore 5, 2) := by decide +kernel
theorem dX12_musts_35 : decode cX12_musts 35 = .ok (.aload_n 0, 1) := by decide +kernel
theorem dX12_musts_36 : decode cX12_musts 36 = .ok (.iload 4, 2) := by decide +kernel
theorem dX12_musts_38 : decode cX12_musts 38 = .ok (.invokevirtual 108, 3) := by decide +kernel
theorem dX12_musts_41 : decode cX12_musts 41 = .ok (.istore 6, 2) := by decide +kernel
theorem dX12_musts_43 : decode cX12_musts 43 = .ok (.aload_n 0, 1) := by decide +kernel
theorem dX12_musts_44 : decode cX12_musts 44 = .ok (.getfield 32, 3) := by decide +kernel
theorem dX12_musts_47 : decode cX12_musts 47 = .ok (.iload 4, 2) := by decide +kernel
theorem dX12_musts_49 : decode cX12_musts 49 = .ok (.aload_n 0, 1) := by decide +kernel
theorem dX12_musts_50 : decode cX12_musts 50 = .ok (.getfield 32, 3) := by decide +kernel
theorem dX12_musts_53 : decode cX12_musts 53 = .ok (.iload 4, 2) := by decide +kernel
theorem dX12_musts_55 : decode cX12_musts 55 = .ok (.baload, 1) := by decide +kernel
theorem dX12_musts_56 : decode cX12_musts 56 = .ok (.ifCond .eq 37, 3) := by decide +kernel
theorem dX12_musts_59 : decode cX12_musts 59 = .ok (.iload 4, 2) := by decide +kernel
theorem dX12_musts_61 : decode cX12_musts 61 = .ok (.iload_n 1, 1) := by decide +kernel
theorem dX12_musts_62 : decode cX12_musts 62 = .ok (.if_icmp .eq 27, 3) := by decide +kernel
theorem dX12_musts_65 : decode cX12_musts 65 = .ok (.iload 5, 2) := by decide +kernel
theorem dX12_musts_67 : decode cX12_musts 67 = .ok (.iload_n 2, 1) := by decide +kernel
theorem dX12_musts_68 : decode cX12_musts 68 = .ok (.if_icmp .eq 25, 3) := by decide +kernel
theorem dX12_musts_71 : decode cX12_musts 71 = .ok (.iload 5, 2) := by decide +kernel
theorem dX12_musts_73 : decode cX12_musts 73 = .ok (.iload_n 3, 1) := by decide +kernel
theorem dX12_musts_74 : decode cX12_musts 74 = .ok (.if_icmp .eq 19, 3) := by decide +kernel
theorem dX12_musts_77 : decode cX12_musts 77 = .ok (.iload 6, 2) := by decide +kernel
theorem dX12_musts_79 : decode cX12_musts 79 = .ok (.iload_n 2, 1) := by decide +kernel
theorem dX12_musts_80 : decode cX12_musts 80 = .ok (.if_icmp .eq 13, 3) := by decide +kernel
theorem dX12_musts_83 : decode cX12_musts 83 = .ok (.iload 6, 2) := by decide +kernel
theorem dX12_musts_85 : decode cX12_musts 85 = .ok (.iload_n 3, 1) := by decide +kernel
theorem dX12_musts_86 : decode cX12_musts 86 = .ok (.if_icmp .eq 7, 3) := by decide +kernel
theorem dX12_musts_89 : decode cX12_musts 89 = .ok (.iconst 1, 1) := by decide +kernel
theorem dX12_musts_90 : decode cX12_musts 90 = .ok (.goto 4, 3) := by decide +kernel
theorem dX12_musts_93 : decode cX12_musts 93 = .ok (.iconst 0, 1) := by decide +kernel
theorem dX12_musts_94 : decode cX12_musts 94 = .ok (.bastore, 1) := by decide +kernel
theorem dX12_musts_95 : decode cX12_musts 95 = .ok (.iinc 4 1, 3) := by decide +kernel
theorem dX12_musts_98 : decode cX12_musts 98 = .ok (.goto (-85), 3) := by decide +kernel
theorem dX12_musts_101 : decode cX12_musts 101 = .ok (.return_, 1) := by decide +kernel
theorem dX12_canEast_0 : decode cX12_canEast 0 = .ok (.aload_n 0, 1) := by decide +kernel
theorem dX12_canEast_1 : decode cX12_canEast 1 = .ok (.getfield 32, 3) := by decide +kernel
theorem dX12_canEast_4 : decode cX12_canEast 4 = .ok (.iconst 2, 1) := by decide +kernel
theorem dX12_canEast_5 : decode cX12_canEast 5 = .ok (.iload_n 1, 1) := by decide +kernel
theorem dX12_canEast_6 : decode cX12_canEast 6 = .ok (.imul, 1) := by decide +kernel
theorem dX12_canEast_7 : decode cX12_canEast 7 = .ok (.baload, 1) := by decide +kernel
theorem dX12_canEast_8 : decode cX12_canEast 8 = .ok (.ifCond .eq 13, 3) := by decide +kernel
theorem dX12_canEast_11 : decode cX12_canEast 11 = .ok (.iload_n 2, 1) := by decide +kernel
theorem dX12_canEast_12 : decode cX12_canEast 12 = .ok (.iconst 2, 1) := by decide +kernel
theorem dX12_canEast_13 : decode cX12_canEast 13 = .ok (.iand, 1) := by decide +kernel
theorem dX12_canEast_14 : decode cX12_canEast 14 = .ok (.ifCond .ne 7, 3) := by decide +kernel
theorem dX12_canEast_17 : decode cX12_canEast 17 = .ok (.iconst 1, 1) := by decide +kernel
theorem dX12_canEast_18 : decode cX12_canEast 18 = .ok (.goto 4, 3) := by decide +kernel
theorem dX12_canEast_21 : decode cX12_canEast 21 = .ok (.iconst 0, 1) := by decide +kernel
theorem dX12_canEast_22 : decode cX12_canEast 22 = .ok (.ireturn, 1) := by decide +kernel
theorem dX12_countOn_0 : decode cX12_countOn 0 = .ok (.aload_n 0, 1) := by decide +kernel
theorem dX12_countOn_1 : decode cX12_countOn 1 = .ok (.getfield 88, 3) := by decide +kernel
theorem dX12_countOn_4 : decode cX12_countOn 4 = .ok (.aload_n 0, 1) := by decide +kernel
theorem dX12_countOn_5 : decode cX12_countOn 5 = .ok (.getfield 92, 3) := by decide +kernel
theorem dX12_countOn_8 : decode cX12_countOn 8 = .ok (.imul, 1) := by decide +kernel
theorem dX12_countOn_9 : decode cX12_countOn 9 = .ok (.istore_n 1, 1) := by decide +kernel
theorem dX12_countOn_10 : decode cX12_countOn 10 = .ok (.iconst 0, 1) := by decide +kernel
theorem dX12_countOn_11 : decode cX12_countOn 11 = .ok (.istore_n 2, 1) := by decide +kernel
theorem dX12_countOn_12 : decode cX12_countOn 12 = .ok (.iload_n 2, 1) := by decide +kernel
theorem dX12_countOn_13 : decode cX12_countOn 13 = .ok (.iconst 1, 1) := by decide +kernel
theorem dX12_countOn_14 : decode cX12_countOn 14 = .ok (.aload_n 0, 1) := by decide +kernel
theorem dX12_countOn_15 : decode cX12_countOn 15 = .ok (.getfield 88, 3) := by decide +kernel
theorem dX12_countOn_18 : decode cX12_countOn 18 = .ok (.ishl, 1) := by decide +kernel
theorem dX12_countOn_19 : decode cX12_countOn 19 = .ok (.if_icmp .ge 30, 3) := by decide +kernel
theorem dX12_countOn_22 : decode cX12_countOn 22 = .ok (.aload_n 0, 1) := by decide +kernel
theorem dX12_countOn_23 : decode cX12_countOn 23 = .ok (.getfield 35, 3) := by decide +kernel
theorem dX12_countOn_26 : decode cX12_countOn 26 = .ok (.sipush 256, 3) := by decide +kernel
theorem dX12_countOn_29 : decode cX12_countOn 29 = .ok (.iload_n 1, 1) := by decide +kernel
theorem dX12_countOn_30 : decode cX12_countOn 30 = .ok (.imul, 1) := by decide +kernel
theorem dX12_countOn_31 : decode cX12_countOn 31 = .ok (.iload_n 2, 1) := by decide +kernel
theorem dX12_countOn_32 : decode cX12_countOn 32 = .ok (.iadd, 1) := by decide +kernel
theorem dX12_countOn_33 : decode cX12_countOn 33 = .ok (.iload_n 2, 1) := by decide +kernel
theorem dX12_countOn_34 : decode cX12_countOn 34 = .ok (.ifCond .ne 7, 3) := by decide +kernel
theorem dX12_countOn_37 : decode cX12_countOn 37 = .ok (.lconst 1, 1) := by decide +kernel
theorem dX12_countOn_38 : decode cX12_countOn 38 = .ok (.goto 4, 3) := by decide +kernel
theorem dX12_countOn_41 : decode cX12_countOn 41 = .ok (.lconst 0, 1) := by decide +kernel
theorem dX12_countOn_42 : decode cX12_countOn 42 = .ok (.lastore, 1) := by decide +kernel
theorem dX12_countOn_43 : decode cX12_countOn 43 = .ok (.iinc 2 1, 3) := by decide +kernel
theorem dX12_countOn_46 : decode cX12_countOn 46 = .ok (.goto (-34), 3) := by decide +kernel
theorem dX12_countOn_49 : decode cX12_countOn 49 = .ok (.iload_n 1, 1) := by decide +kernel
theorem dX12_countOn_50 : decode cX12_countOn 50 = .ok (.iconst 1, 1) := by decide +kernel
theorem dX12_countOn_51 : decode cX12_countOn 51 = .ok (.isub, 1) := by decide +kernel
theorem dX12_countOn_52 : decode cX12_countOn 52 = .ok (.istore_n 2, 1) := by decide +kernel
theorem dX12_countOn_53 : decode cX12_countOn 53 = .ok (.iload_n 2, 1) := by decide +kernel
theorem dX12_countOn_54 : decode cX12_countOn 54 = .ok (.ifCond .lt 192, 3) := by decide +kernel
theorem dX12_countOn_57 : decode cX12_countOn 57 = .ok (.iconst 0, 1) := by decide +kernel
theorem dX12_countOn_58 : decode cX12_countOn 58 = .ok (.istore_n 3, 1) := by decide +kernel
theorem dX12_countOn_59 : decode cX12_countOn 59 = .ok (.iload_n 3, 1) := by decide +kernel
theorem dX12_countOn_60 : decode cX12_countOn 60 = .ok (.iconst 1, 1) := by decide +kernel
theorem dX12_countOn_61 : decode cX12_countOn 61 = .ok (.aload_n 0, 1) := by decide +kernel
theorem dX12_countOn_62 : decode cX12_countOn 62 = .ok (.getfield 88, 3) := by decide +kernel
theorem dX12_countOn_65 : decode cX12_countOn 65 = .ok (.ishl, 1) := by decide +kernel
theorem dX12_countOn_66 : decode cX12_countOn 66 = .ok (.if_icmp .ge 174, 3) := by decide +kernel
theorem dX12_countOn_69 : decode cX12_countOn 69 = .ok (.aload_n 0, 1) := by decide +kernel
theorem dX12_countOn_70 : decode cX12_countOn 70 = .ok (.getfield 7, 3) := by decide +kernel
theorem dX12_countOn_73 : decode cX12_countOn 73 = .ok (.iload_n 2, 1) := by decide +kernel
theorem dX12_countOn_74 : decode cX12_countOn 74 = .ok (.baload, 1) := by decide +kernel
theorem dX12_countOn_75 : decode cX12_countOn 75 = .ok (.ifCond .ne 35, 3) := by decide +kernel
theorem dX12_countOn_78 : decode cX12_countOn 78 = .ok (.iload_n 3, 1) := by decide +kernel
theorem dX12_countOn_79 : decode cX12_countOn 79 = .ok (.iconst 1, 1) := by decide +kernel
theorem dX12_countOn_80 : decode cX12_countOn 80 = .ok (.iand, 1) := by decide +kernel
theorem dX12_countOn_81 : decode cX12_countOn 81 = .ok (.iconst 1, 1) := by decide +kernel
theorem dX12_countOn_82 : decode cX12_countOn 82 = .ok (.if_icmp .ne 7, 3) := by decide +kernel
theorem dX12_countOn_85 : decode cX12_countOn 85 = .ok (.lconst 0, 1) := by decide +kernel
theorem dX12_countOn_86 : decode cX12_countOn 86 = .ok (.goto 19, 3) := by decide +kernel
theorem dX12_countOn_89 : decode cX12_countOn 89 = .ok (.aload_n 0, 1) := by decide +kernel
theorem dX12_countOn_90 : decode cX12_countOn 90 = .ok (.getfield 35, 3) := by decide +kernel
theorem dX12_countOn_93 : decode cX12_countOn 93 = .ok (.sipush 256, 3) := by decide +kernel
theorem dX12_countOn_96 : decode cX12_countOn 96 = .ok (.iload_n 2, 1) := by decide +kernel
theorem dX12_countOn_97 : decode cX12_countOn 97 = .ok (.iconst 1, 1) := by decide +kernel
theorem dX12_countOn_98 : decode cX12_countOn 98 = .ok (.iadd, 1) := by decide +kernel
theorem dX12_countOn_99 : decode cX12_countOn 99 = .ok (.imul, 1) := by decide +kernel
theorem dX12_countOn_100 : decode cX12_countOn 100 = .ok (.iload_n 3, 1) := by decide +kernel
theorem dX12_countOn_101 : decode cX12_countOn 101 = .ok (.iconst 1, 1) := by decide +kernel
theorem dX12_countOn_102 : decode cX12_countOn 102 = .ok (.ishr, 1) := by decide +kernel
theorem dX12_countOn_103 : decode cX12_countOn 103 = .ok (.iadd, 1) := by decide +kernel
theorem dX12_countOn_104 : decode cX12_countOn 104 = .ok (.laload, 1) := by decide +kernel
theorem dX12_countOn_105 : decode cX12_countOn 105 = .ok (.lstore 4, 2) := by decide +kernel
theorem dX12_countOn_107 : decode cX12_countOn 107 = .ok (.goto 113, 3) := by decide +kernel
theorem dX12_countOn_110 : decode cX12_countOn 110 = .ok (.iload_n 3, 1) := by decide +kernel
theorem dX12_countOn_111 : decode cX12_countOn 111 = .ok (.iconst 1, 1) := by decide +kernel
theorem dX12_countOn_112 : decode cX12_countOn 112 = .ok (.iand, 1) := by decide +kernel
theorem dX12_countOn_113 : decode cX12_countOn 113 = .ok (.iconst 1, 1) := by decide +kernel
theorem dX12_countOn_114 : decode cX12_countOn 114 = .ok (.if_icmp .ne 24, 3) := by decide +kernel
theorem dX12_countOn_117 : decode cX12_countOn 117 = .ok (.aload_n 0, 1) := by decide +kernel
theorem dX12_countOn_118 : decode cX12_countOn 118 = .ok (.getfield 35, 3) := by decide +kernel
theorem dX12_countOn_121 : decode cX12_countOn 121 = .ok (.sipush 256, 3) := by decide +kernel
theorem dX12_countOn_124 : decode cX12_countOn 124 = .ok (.iload_n 2, 1) := by decide +kernel
theorem dX12_countOn_125 : decode cX12_countOn 125 = .ok (.iconst 1, 1) := by decide +kernel
theorem dX12_countOn_126 : decode cX12_countOn 126 = .ok (.iadd, 1) := by decide +kernel
theorem dX12_countOn_127 : decode cX12_countOn 127 = .ok (.imul, 1) := by decide +kernel
theorem dX12_countOn_128 : decode cX12_countOn 128 = .ok (.iload_n 3, 1) := by decide +kernel
theorem dX12_countOn_129 : decode cX12_countOn 129 = .ok (.iconst 1, 1) := by decide +kernel
theorem dX12_countOn_130 : decode cX12_countOn 130 = .ok (.ishr, 1) := by decide +kernel
theorem dX12_countOn_131 : decode cX12_countOn 131 = .ok (.iadd, 1) := by decide +kernel
theorem dX12_countOn_132 : decode cX12_countOn 132 = .ok (.laload, 1) := by decide +kernel
theorem dX12_countOn_133 : decode cX12_countOn 133 = .ok (.lstore 4, 2) := by decide +kernel
theorem dX12_countOn_135 : decode cX12_countOn 135 = .ok (.goto 85, 3) := by decide +kernel
theorem dX12_countOn_138 : decode cX12_countOn 138 = .ok (.aload_n 0, 1) := by decide +kernel
theorem dX12_countOn_139 : decode cX12_countOn 139 = .ok (.iload_n 2, 1) := by decide +kernel
theorem dX12_countOn_140 : decode cX12_countOn 140 = .ok (.iload_n 3, 1) := by decide +kernel
theorem dX12_countOn_141 : decode cX12_countOn 141 = .ok (.invokevirtual 163, 3) := by decide +kernel
theorem dX12_countOn_144 : decode cX12_countOn 144 = .ok (.ifCond .eq 24, 3) := by decide +kernel
theorem dX12_countOn_147 : decode cX12_countOn 147 = .ok (.aload_n 0, 1) := by decide +kernel
theorem dX12_countOn_148 : decode cX12_countOn 148 = .ok (.getfield 35, 3) := by decide +kernel
theorem dX12_countOn_151 : decode cX12_countOn 151 = .ok (.sipush 256, 3) := by decide +kernel
theorem dX12_countOn_154 : decode cX12_countOn 154 = .ok (.iload_n 2, 1) := by decide +kernel
theorem dX12_countOn_155 : decode cX12_countOn 155 = .ok (.iconst 1, 1) := by decide +kernel
theorem dX12_countOn_156 : decode cX12_countOn 156 = .ok (.iadd, 1) := by decide +kernel
theorem dX12_countOn_157 : decode cX12_countOn 157 = .ok (.imul, 1) := by decide +kernel
theorem dX12_countOn_158 : decode cX12_countOn 158 = .ok (.iload_n 3, 1) := by decide +kernel
theorem dX12_countOn_159 : decode cX12_countOn 159 = .ok (.iconst 2, 1) := by decide +kernel
theorem dX12_countOn_160 : decode cX12_countOn 160 = .ok (.ior, 1) := by decide +kernel
theorem dX12_countOn_161 : decode cX12_countOn 161 = .ok (.iconst 1, 1) := by decide +kernel
theorem dX12_countOn_162 : decode cX12_countOn 162 = .ok (.ishr, 1) := by decide +kernel
theorem dX12_countOn_163 : decode cX12_countOn 163 = .ok (.iadd, 1) := by decide +kernel
theorem dX12_countOn_164 : decode cX12_countOn 164 = .ok (.laload, 1) := by decide +kernel
theorem dX12_countOn_165 : decode cX12_countOn 165 = .ok (.goto 4, 3) := by decide +kernel
theorem dX12_countOn_168 : decode cX12_countOn 168 = .ok (.lconst 0, 1) := by decide +kernel
theorem dX12_countOn_169 : decode cX12_countOn 169 = .ok (.lstore 6, 2) := by decide +kernel
theorem dX12_countOn_171 : decode cX12_countOn 171 = .ok (.aload_n 0, 1) := by decide +kernel
theorem dX12_countOn_172 : decode cX12_countOn 172 = .ok (.getfield 32, 3) := by decide +kernel
theorem dX12_countOn_175 : decode cX12_countOn 175 = .ok (.iconst 2, 1) := by decide +kernel
theorem dX12_countOn_176 : decode cX12_countOn 176 = .ok (.iload_n 2, 1) := by decide +kernel
theorem dX12_countOn_177 : decode cX12_countOn 177 = .ok (.imul, 1) := by decide +kernel
theorem dX12_countOn_178 : decode cX12_countOn 178 = .ok (.iconst 1, 1) := by decide +kernel
theorem dX12_countOn_179 : decode cX12_countOn 179 = .ok (.iadd, 1) := by decide +kernel
theorem dX12_countOn_180 : decode cX12_countOn 180 = .ok (.baload, 1) := by decide +kernel
theorem dX12_countOn_181 : decode cX12_countOn 181 = .ok (.ifCond .eq 29, 3) := by decide +kernel
theorem dX12_countOn_184 : decode cX12_countOn 184 = .ok (.aload_n 0, 1) := by decide +kernel
theorem dX12_countOn_185 : decode cX12_countOn 185 = .ok (.getfield 35, 3) := by decide +kernel
theorem dX12_countOn_188 : decode cX12_countOn 188 = .ok (.sipush 256, 3) := by decide +kernel
theorem dX12_countOn_191 : decode cX12_countOn 191 = .ok (.iload_n 2, 1) := by decide +kernel
theorem dX12_countOn_192 : decode cX12_countOn 192 = .ok (.iconst 1, 1) := by decide +kernel
theorem dX12_countOn_193 : decode cX12_countOn 193 = .ok (.iadd, 1) := by decide +kernel
theorem dX12_countOn_194 : decode cX12_countOn 194 = .ok (.imul, 1) := by decide +kernel
theorem dX12_countOn_195 : decode cX12_countOn 195 = .ok (.iload_n 3, 1) := by decide +kernel
theorem dX12_countOn_196 : decode cX12_countOn 196 = .ok (.iconst 1, 1) := by decide +kernel
theorem dX12_countOn_197 : decode cX12_countOn 197 = .ok (.aload_n 0, 1) := by decide +kernel
theorem dX12_countOn_198 : decode cX12_countOn 198 = .ok (.getfield 88, 3) := by decide +kernel
theorem dX12_countOn_201 : decode cX12_countOn 201 = .ok (.ishl, 1) := by decide +kernel
theorem dX12_countOn_202 : decode cX12_countOn 202 = .ok (.ior, 1) := by decide +kernel
theorem dX12_countOn_203 : decode cX12_countOn 203 = .ok (.iconst 1, 1) := by decide +kernel
theorem dX12_countOn_204 : decode cX12_countOn 204 = .ok (.ishr, 1) := by decide +kernel
theorem dX12_countOn_205 : decode cX12_countOn 205 = .ok (.iadd, 1) := by decide +kernel
theorem dX12_countOn_206 : decode cX12_countOn 206 = .ok (.laload, 1) := by decide +kernel
theorem dX12_countOn_207 : decode cX12_countOn 207 = .ok (.goto 4, 3) := by decide +kernel
theorem dX12_countOn_210 : decode cX12_countOn 210 = .ok (.lconst 0, 1) := by decide +kernel
theorem dX12_countOn_211 : decode cX12_countOn 211 = .ok (.lstore 8, 2) := by decide +kernel
theorem dX12_countOn_213 : decode cX12_countOn 213 = .ok (.lload 6, 2) := by decide +kernel
theorem dX12_countOn_215 : decode cX12_countOn 215 = .ok (.lload 8, 2) := by decide +kernel
theorem dX12_countOn_217 : decode cX12_countOn 217 = .ok (.ladd, 1) := by decide +kernel
theorem dX12_countOn_218 : decode cX12_countOn 218 = .ok (.lstore 4, 2) := by decide +kernel
theorem dX12_countOn_220 : decode cX12_countOn 220 = .ok (.aload_n 0, 1) := by decide +kernel
theorem dX12_countOn_221 : decode cX12_countOn 221 = .ok (.getfield 35, 3) := by decide +kernel
theorem dX12_countOn_224 : decode cX12_countOn 224 = .ok (.sipush 256, 3) := by decide +kernel
theorem dX12_countOn_227 : decode cX12_countOn 227 = .ok (.iload_n 2, 1) := by decide +kernel
theorem dX12_countOn_228 : decode cX12_countOn 228 = .ok (.imul, 1) := by decide +kernel
theorem dX12_countOn_229 : decode cX12_countOn 229 = .ok (.iload_n 3, 1) := by decide +kernel
theorem dX12_countOn_230 : decode cX12_countOn 230 = .ok (.iadd, 1) := by decide +kernel
theorem dX12_countOn_231 : decode cX12_countOn 231 = .ok (.lload 4, 2) := by decide +kernel
theorem dX12_countOn_233 : decode cX12_countOn 233 = .ok (.lastore, 1) := by decide +kernel
theorem dX12_countOn_234 : decode cX12_countOn 234 = .ok (.iinc 3 1, 3) := by decide +kernel
theorem dX12_countOn_237 : decode cX12_countOn 237 = .ok (.goto (-178), 3) := by decide +kernel
theorem dX12_countOn_240 : decode cX12_countOn 240 = .ok (.iinc 2 (-1), 3) := by decide +kernel
theorem dX12_countOn_243 : decode cX12_countOn 243 = .ok (.goto (-190), 3) := by decide +kernel
theorem dX12_countOn_246 : decode cX12_countOn 246 = .ok (.return_, 1) := by decide +kernel
theorem dX12_countAll_0 : decode cX12_countAll 0 = .ok (.aload_n 0, 1) := by decide +kernel
theorem dX12_countAll_1 : decode cX12_countAll 1 = .ok (.invokevirtual 166, 3) := by decide +kernel
theorem dX12_countAll_4 : decode cX12_countAll 4 = .ok (.aload_n 0, 1) := by decide +kernel
theorem dX12_countAll_5 : decode cX12_countAll 5 = .ok (.getfield 35, 3) := by decide +kernel
theorem dX12_countAll_8 : decode cX12_countAll 8 = .ok (.iconst 0, 1) := by decide +kernel
theorem dX12_countAll_9 : decode cX12_countAll 9 = .ok (.laload, 1) := by decide +kernel
theorem dX12_countAll_10 : decode cX12_countAll 10 = .ok (.lreturn, 1) := by decide +kernel
theorem dX12_pavings_0 : decode cX12_pavings 0 = .ok (.aload_n 0, 1) := by decide +kernel
theorem dX12_pavings_1 : decode cX12_pavings 1 = .ok (.iconst 1, 1) := by decide +kernel
theorem dX12_pavings_2 : decode cX12_pavings 2 = .ok (.invokevirtual 169, 3) := by decide +kernel
theorem dX12_pavings_5 : decode cX12_pavings 5 = .ok (.aload_n 0, 1) := by decide +kernel
theorem dX12_pavings_6 : decode cX12_pavings 6 = .ok (.invokevirtual 173, 3) := by decide +kernel
theorem dX12_pavings_9 : decode cX12_pavings 9 = .ok (.lreturn, 1) := by decide +kernel
theorem dX12_shareOf_0 : decode cX12_shareOf 0 = .ok (.aload_n 0, 1) := by decide +kernel
theorem dX12_shareOf_1 : decode cX12_shareOf 1 = .ok (.iconst 1, 1) := by decide +kernel
theorem dX12_shareOf_2 : decode cX12_shareOf 2 = .ok (.invokevirtual 169, 3) := by decide +kernel
theorem dX12_shareOf_5 : decode cX12_shareOf 5 = .ok (.aload_n 0, 1) := by decide +kernel
theorem dX12_shareOf_6 : decode cX12_shareOf 6 = .ok (.getfield 32, 3) := by decide +kernel
theorem dX12_shareOf_9 : decode cX12_shareOf 9 = .ok (.iload_n 1, 1) := by decide +kernel
theorem dX12_shareOf_10 : decode cX12_shareOf 10 = .ok (.baload, 1) := by decide +kernel
theorem dX12_shareOf_11 : decode cX12_shareOf 11 = .ok (.ifCond .ne 5, 3) := by decide +kernel
theorem dX12_shareOf_14 : decode cX12_shareOf 14 = .ok (.lconst 0, 1) := by decide +kernel
theorem dX12_shareOf_15 : decode cX12_shareOf 15 = .ok (.lreturn, 1) := by decide +kernel
theorem dX12_shareOf_16 : decode cX12_shareOf 16 = .ok (.aload_n 0, 1) := by decide +kernel
theorem dX12_shareOf_17 : decode cX12_shareOf 17 = .ok (.iload_n 1, 1) := by decide +kernel
theorem dX12_shareOf_18 : decode cX12_shareOf 18 = .ok (.invokevirtual 160, 3) := by decide +kernel
theorem dX12_shareOf_21 : decode cX12_shareOf 21 = .ok (.aload_n 0, 1) := by decide +kernel
theorem dX12_shareOf_22 : decode cX12_shareOf 22 = .ok (.invokevirtual 173, 3) := by decide +kernel
theorem dX12_shareOf_25 : decode cX12_shareOf 25 = .ok (.lreturn, 1) := by decide +kernel
theorem dX12_share_0 : decode cX12_share 0 = .ok (.aload_n 0, 1) := by decide +kernel
