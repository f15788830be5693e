theorem dX5_left_12 : decode cX5_left 12 = .ok (.iload_n 1, 1) := by decide +kernel
theorem dX5_left_13 : decode cX5_left 13 = .ok (.ifCond .ne 13, 3) := by decide +kernel
theorem dX5_left_16 : decode cX5_left 16 = .ok (.aload_n 0, 1) := by decide +kernel
theorem dX5_left_17 : decode cX5_left 17 = .ok (.getfield 12, 3) := by decide +kernel
theorem dX5_left_20 : decode cX5_left 20 = .ok (.invokevirtual 207, 3) := by decide +kernel
theorem dX5_left_23 : decode cX5_left 23 = .ok (.goto 7, 3) := by decide +kernel
theorem dX5_left_26 : decode cX5_left 26 = .ok (.aload_n 0, 1) := by decide +kernel
theorem dX5_left_27 : decode cX5_left 27 = .ok (.invokevirtual 210, 3) := by decide +kernel
theorem dX5_left_30 : decode cX5_left 30 = .ok (.ireturn, 1) := by decide +kernel
theorem dX5_neverHeard_0 : decode cX5_neverHeard 0 = .ok (.aload_n 0, 1) := by decide +kernel
theorem dX5_neverHeard_1 : decode cX5_neverHeard 1 = .ok (.getfield 22, 3) := by decide +kernel
theorem dX5_neverHeard_4 : decode cX5_neverHeard 4 = .ok (.aload_n 0, 1) := by decide +kernel
theorem dX5_neverHeard_5 : decode cX5_neverHeard 5 = .ok (.getfield 12, 3) := by decide +kernel
theorem dX5_neverHeard_8 : decode cX5_neverHeard 8 = .ok (.invokevirtual 166, 3) := by decide +kernel
theorem dX5_neverHeard_11 : decode cX5_neverHeard 11 = .ok (.iconst 0, 1) := by decide +kernel
theorem dX5_neverHeard_12 : decode cX5_neverHeard 12 = .ok (.istore_n 1, 1) := by decide +kernel
theorem dX5_neverHeard_13 : decode cX5_neverHeard 13 = .ok (.iconst 1, 1) := by decide +kernel
theorem dX5_neverHeard_14 : decode cX5_neverHeard 14 = .ok (.istore_n 2, 1) := by decide +kernel
theorem dX5_neverHeard_15 : decode cX5_neverHeard 15 = .ok (.iload_n 2, 1) := by decide +kernel
theorem dX5_neverHeard_16 : decode cX5_neverHeard 16 = .ok (.bipush 9, 2) := by decide +kernel
theorem dX5_neverHeard_18 : decode cX5_neverHeard 18 = .ok (.if_icmp .gt 31, 3) := by decide +kernel
theorem dX5_neverHeard_21 : decode cX5_neverHeard 21 = .ok (.aload_n 0, 1) := by decide +kernel
theorem dX5_neverHeard_22 : decode cX5_neverHeard 22 = .ok (.getfield 22, 3) := by decide +kernel
theorem dX5_neverHeard_25 : decode cX5_neverHeard 25 = .ok (.iload_n 2, 1) := by decide +kernel
theorem dX5_neverHeard_26 : decode cX5_neverHeard 26 = .ok (.putfield 96, 3) := by decide +kernel
theorem dX5_neverHeard_29 : decode cX5_neverHeard 29 = .ok (.iload_n 1, 1) := by decide +kernel
theorem dX5_neverHeard_30 : decode cX5_neverHeard 30 = .ok (.aload_n 0, 1) := by decide +kernel
theorem dX5_neverHeard_31 : decode cX5_neverHeard 31 = .ok (.getfield 44, 3) := by decide +kernel
theorem dX5_neverHeard_34 : decode cX5_neverHeard 34 = .ok (.aload_n 0, 1) := by decide +kernel
theorem dX5_neverHeard_35 : decode cX5_neverHeard 35 = .ok (.getfield 22, 3) := by decide +kernel
theorem dX5_neverHeard_38 : decode cX5_neverHeard 38 = .ok (.invokevirtual 213, 3) := by decide +kernel
theorem dX5_neverHeard_41 : decode cX5_neverHeard 41 = .ok (.ior, 1) := by decide +kernel
theorem dX5_neverHeard_42 : decode cX5_neverHeard 42 = .ok (.istore_n 1, 1) := by decide +kernel
theorem dX5_neverHeard_43 : decode cX5_neverHeard 43 = .ok (.iinc 2 1, 3) := by decide +kernel
theorem dX5_neverHeard_46 : decode cX5_neverHeard 46 = .ok (.goto (-31), 3) := by decide +kernel
theorem dX5_neverHeard_49 : decode cX5_neverHeard 49 = .ok (.aload_n 0, 1) := by decide +kernel
theorem dX5_neverHeard_50 : decode cX5_neverHeard 50 = .ok (.getfield 12, 3) := by decide +kernel
theorem dX5_neverHeard_53 : decode cX5_neverHeard 53 = .ok (.invokevirtual 207, 3) := by decide +kernel
theorem dX5_neverHeard_56 : decode cX5_neverHeard 56 = .ok (.iload_n 1, 1) := by decide +kernel
theorem dX5_neverHeard_57 : decode cX5_neverHeard 57 = .ok (.invokestatic 170, 3) := by decide +kernel
theorem dX5_neverHeard_60 : decode cX5_neverHeard 60 = .ok (.isub, 1) := by decide +kernel
theorem dX5_neverHeard_61 : decode cX5_neverHeard 61 = .ok (.ireturn, 1) := by decide +kernel
theorem dX5_drawn_0 : decode cX5_drawn 0 = .ok (.aload_n 0, 1) := by decide +kernel
theorem dX5_drawn_1 : decode cX5_drawn 1 = .ok (.iload_n 1, 1) := by decide +kernel
theorem dX5_drawn_2 : decode cX5_drawn 2 = .ok (.invokevirtual 217, 3) := by decide +kernel
theorem dX5_drawn_5 : decode cX5_drawn 5 = .ok (.ireturn, 1) := by decide +kernel
theorem dX5_foundIfDrawn_0 : decode cX5_foundIfDrawn 0 = .ok (.aload_n 0, 1) := by decide +kernel
theorem dX5_foundIfDrawn_1 : decode cX5_foundIfDrawn 1 = .ok (.getfield 22, 3) := by decide +kernel
theorem dX5_foundIfDrawn_4 : decode cX5_foundIfDrawn 4 = .ok (.aload_n 0, 1) := by decide +kernel
theorem dX5_foundIfDrawn_5 : decode cX5_foundIfDrawn 5 = .ok (.getfield 12, 3) := by decide +kernel
theorem dX5_foundIfDrawn_8 : decode cX5_foundIfDrawn 8 = .ok (.invokevirtual 166, 3) := by decide +kernel
theorem dX5_foundIfDrawn_11 : decode cX5_foundIfDrawn 11 = .ok (.aload_n 0, 1) := by decide +kernel
theorem dX5_foundIfDrawn_12 : decode cX5_foundIfDrawn 12 = .ok (.getfield 22, 3) := by decide +kernel
theorem dX5_foundIfDrawn_15 : decode cX5_foundIfDrawn 15 = .ok (.iload_n 1, 1) := by decide +kernel
theorem dX5_foundIfDrawn_16 : decode cX5_foundIfDrawn 16 = .ok (.invokevirtual 220, 3) := by decide +kernel
theorem dX5_foundIfDrawn_19 : decode cX5_foundIfDrawn 19 = .ok (.aload_n 0, 1) := by decide +kernel
theorem dX5_foundIfDrawn_20 : decode cX5_foundIfDrawn 20 = .ok (.getfield 44, 3) := by decide +kernel
theorem dX5_foundIfDrawn_23 : decode cX5_foundIfDrawn 23 = .ok (.aload_n 0, 1) := by decide +kernel
theorem dX5_foundIfDrawn_24 : decode cX5_foundIfDrawn 24 = .ok (.getfield 22, 3) := by decide +kernel
theorem dX5_foundIfDrawn_27 : decode cX5_foundIfDrawn 27 = .ok (.bipush 63, 2) := by decide +kernel
theorem dX5_foundIfDrawn_29 : decode cX5_foundIfDrawn 29 = .ok (.invokevirtual 151, 3) := by decide +kernel
theorem dX5_foundIfDrawn_32 : decode cX5_foundIfDrawn 32 = .ok (.ireturn, 1) := by decide +kernel
theorem dX5_odds_0 : decode cX5_odds 0 = .ok (.iload_n 2, 1) := by decide +kernel
theorem dX5_odds_1 : decode cX5_odds 1 = .ok (.iconst 1, 1) := by decide +kernel
theorem dX5_odds_2 : decode cX5_odds 2 = .ok (.bipush 20, 2) := by decide +kernel
theorem dX5_odds_4 : decode cX5_odds 4 = .ok (.invokestatic 59, 3) := by decide +kernel
theorem dX5_odds_7 : decode cX5_odds 7 = .ok (.ifCond .eq 23, 3) := by decide +kernel
theorem dX5_odds_10 : decode cX5_odds 10 = .ok (.iload_n 3, 1) := by decide +kernel
theorem dX5_odds_11 : decode cX5_odds 11 = .ok (.iconst 0, 1) := by decide +kernel
theorem dX5_odds_12 : decode cX5_odds 12 = .ok (.bipush 12, 2) := by decide +kernel
theorem dX5_odds_14 : decode cX5_odds 14 = .ok (.invokestatic 59, 3) := by decide +kernel
theorem dX5_odds_17 : decode cX5_odds 17 = .ok (.ifCond .eq 13, 3) := by decide +kernel
theorem dX5_odds_20 : decode cX5_odds 20 = .ok (.iload 4, 2) := by decide +kernel
theorem dX5_odds_22 : decode cX5_odds 22 = .ok (.iconst 0, 1) := by decide +kernel
theorem dX5_odds_23 : decode cX5_odds 23 = .ok (.iconst 1, 1) := by decide +kernel
theorem dX5_odds_24 : decode cX5_odds 24 = .ok (.invokestatic 59, 3) := by decide +kernel
theorem dX5_odds_27 : decode cX5_odds 27 = .ok (.ifCond .ne 7, 3) := by decide +kernel
theorem dX5_odds_30 : decode cX5_odds 30 = .ok (.ldc2_w 224, 3) := by decide +kernel
theorem dX5_odds_33 : decode cX5_odds 33 = .ok (.lreturn, 1) := by decide +kernel
theorem dX5_odds_34 : decode cX5_odds 34 = .ok (.iconst 0, 1) := by decide +kernel
theorem dX5_odds_35 : decode cX5_odds 35 = .ok (.istore 5, 2) := by decide +kernel
theorem dX5_odds_37 : decode cX5_odds 37 = .ok (.iconst 0, 1) := by decide +kernel
theorem dX5_odds_38 : decode cX5_odds 38 = .ok (.istore 6, 2) := by decide +kernel
theorem dX5_odds_40 : decode cX5_odds 40 = .ok (.iload 6, 2) := by decide +kernel
theorem dX5_odds_42 : decode cX5_odds 42 = .ok (.iload_n 2, 1) := by decide +kernel
theorem dX5_odds_43 : decode cX5_odds 43 = .ok (.if_icmp .ge 24, 3) := by decide +kernel
theorem dX5_odds_46 : decode cX5_odds 46 = .ok (.aload_n 0, 1) := by decide +kernel
theorem dX5_odds_47 : decode cX5_odds 47 = .ok (.iload_n 1, 1) := by decide +kernel
theorem dX5_odds_48 : decode cX5_odds 48 = .ok (.iload 6, 2) := by decide +kernel
theorem dX5_odds_50 : decode cX5_odds 50 = .ok (.iadd, 1) := by decide +kernel
theorem dX5_odds_51 : decode cX5_odds 51 = .ok (.invokevirtual 217, 3) := by decide +kernel
theorem dX5_odds_54 : decode cX5_odds 54 = .ok (.iload_n 3, 1) := by decide +kernel
theorem dX5_odds_55 : decode cX5_odds 55 = .ok (.if_icmp .lt 6, 3) := by decide +kernel
theorem dX5_odds_58 : decode cX5_odds 58 = .ok (.iinc 5 1, 3) := by decide +kernel
theorem dX5_odds_61 : decode cX5_odds 61 = .ok (.iinc 6 1, 3) := by decide +kernel
theorem dX5_odds_64 : decode cX5_odds 64 = .ok (.goto (-24), 3) := by decide +kernel
theorem dX5_odds_67 : decode cX5_odds 67 = .ok (.iload 4, 2) := by decide +kernel
theorem dX5_odds_69 : decode cX5_odds 69 = .ok (.ifCond .ne 13, 3) := by decide +kernel
theorem dX5_odds_72 : decode cX5_odds 72 = .ok (.iload 5, 2) := by decide +kernel
theorem dX5_odds_74 : decode cX5_odds 74 = .ok (.iload_n 2, 1) := by decide +kernel
theorem dX5_odds_75 : decode cX5_odds 75 = .ok (.invokestatic 226, 3) := by decide +kernel
theorem dX5_odds_78 : decode cX5_odds 78 = .ok (.i2l, 1) := by decide +kernel
theorem dX5_odds_79 : decode cX5_odds 79 = .ok (.goto 10, 3) := by decide +kernel
theorem dX5_odds_82 : decode cX5_odds 82 = .ok (.iload_n 2, 1) := by decide +kernel
theorem dX5_odds_83 : decode cX5_odds 83 = .ok (.iload 5, 2) := by decide +kernel
theorem dX5_odds_85 : decode cX5_odds 85 = .ok (.invokestatic 226, 3) := by decide +kernel
theorem dX5_odds_88 : decode cX5_odds 88 = .ok (.i2l, 1) := by decide +kernel
theorem dX5_odds_89 : decode cX5_odds 89 = .ok (.lreturn, 1) := by decide +kernel
theorem dX5_lowered_0 : decode cX5_lowered 0 = .ok (.iload_n 0, 1) := by decide +kernel
theorem dX5_lowered_1 : decode cX5_lowered 1 = .ok (.iload_n 1, 1) := by decide +kernel
theorem dX5_lowered_2 : decode cX5_lowered 2 = .ok (.invokestatic 229, 3) := by decide +kernel
theorem dX5_lowered_5 : decode cX5_lowered 5 = .ok (.istore_n 2, 1) := by decide +kernel
theorem dX5_lowered_6 : decode cX5_lowered 6 = .ok (.iload_n 2, 1) := by decide +kernel
theorem dX5_lowered_7 : decode cX5_lowered 7 = .ok (.iconst 1, 1) := by decide +kernel
theorem dX5_lowered_8 : decode cX5_lowered 8 = .ok (.if_icmp .le 25, 3) := by decide +kernel
theorem dX5_lowered_11 : decode cX5_lowered 11 = .ok (.iload_n 0, 1) := by decide +kernel
theorem dX5_lowered_12 : decode cX5_lowered 12 = .ok (.iload_n 2, 1) := by decide +kernel
theorem dX5_lowered_13 : decode cX5_lowered 13 = .ok (.irem, 1) := by decide +kernel
theorem dX5_lowered_14 : decode cX5_lowered 14 = .ok (.ifCond .ne 13, 3) := by decide +kernel
theorem dX5_lowered_17 : decode cX5_lowered 17 = .ok (.iload_n 1, 1) := by decide +kernel
theorem dX5_lowered_18 : decode cX5_lowered 18 = .ok (.iload_n 2, 1) := by decide +kernel
theorem dX5_lowered_19 : decode cX5_lowered 19 = .ok (.irem, 1) := by decide +kernel
theorem dX5_lowered_20 : decode cX5_lowered 20 = .ok (.ifCond .ne 7, 3) := by decide +kernel
theorem dX5_lowered_23 : decode cX5_lowered 23 = .ok (.iload_n 0, 1) := by decide +kernel
theorem dX5_lowered_24 : decode cX5_lowered 24 = .ok (.iload_n 2, 1) := by decide +kernel
theorem dX5_lowered_25 : decode cX5_lowered 25 = .ok (.idiv, 1) := by decide +kernel
theorem dX5_lowered_26 : decode cX5_lowered 26 = .ok (.ireturn, 1) := by decide +kernel
theorem dX5_lowered_27 : decode cX5_lowered 27 = .ok (.iinc 2 (-1), 3) := by decide +kernel
theorem dX5_lowered_30 : decode cX5_lowered 30 = .ok (.goto (-24), 3) := by decide +kernel
theorem dX5_lowered_33 : decode cX5_lowered 33 = .ok (.iload_n 0, 1) := by decide +kernel
theorem dX5_lowered_34 : decode cX5_lowered 34 = .ok (.ireturn, 1) := by decide +kernel
theorem dX5_image_0 : decode cX5_image 0 = .ok (.aload_n 0, 1) := by decide +kernel
theorem dX5_image_1 : decode cX5_image 1 = .ok (.getfield 16, 3) := by decide +kernel
theorem dX5_image_4 : decode cX5_image 4 = .ok (.aload_n 0, 1) := by decide +kernel
theorem dX5_image_5 : decode cX5_image 5 = .ok (.getfield 12, 3) := by decide +kernel
theorem dX5_image_8 : decode cX5_image 8 = .ok (.invokevirtual 232, 3) := by decide +kernel
theorem dX5_image_11 : decode cX5_image 11 = .ok (.aload_n 0, 1) := by decide +kernel
theorem dX5_image_12 : decode cX5_image 12 = .ok (.iconst 1, 1) := by decide +kernel
theorem dX5_image_13 : decode cX5_image 13 = .ok (.putfield 55, 3) := by decide +kernel
theorem dX5_image_16 : decode cX5_image 16 = .ok (.aload_n 0, 1) := by decide +kernel
theorem dX5_image_17 : decode cX5_image 17 = .ok (.getfield 12, 3) := by decide +kernel
theorem dX5_image_20 : decode cX5_image 20 = .ok (.invokevirtual 207, 3) := by decide +kernel
theorem dX5_image_23 : decode cX5_image 23 = .ok (.ireturn, 1) := by decide +kernel
theorem dX5_back_0 : decode cX5_back 0 = .ok (.aload_n 0, 1) := by decide +kernel
theorem dX5_back_1 : decode cX5_back 1 = .ok (.getfield 55, 3) := by decide +kernel
theorem dX5_back_4 : decode cX5_back 4 = .ok (.ifCond .ne 6, 3) := by decide +kernel
theorem dX5_back_7 : decode cX5_back 7 = .ok (.bipush (-3), 2) := by decide +kernel
theorem dX5_back_9 : decode cX5_back 9 = .ok (.ireturn, 1) := by decide +kernel
theorem dX5_back_10 : decode cX5_back 10 = .ok (.aload_n 0, 1) := by decide +kernel
theorem dX5_back_11 : decode cX5_back 11 = .ok (.getfield 12, 3) := by decide +kernel
theorem dX5_back_14 : decode cX5_back 14 = .ok (.aload_n 0, 1) := by decide +kernel
theorem dX5_back_15 : decode cX5_back 15 = .ok (.getfield 16, 3) := by decide +kernel
theorem dX5_back_18 : decode cX5_back 18 = .ok (.invokevirtual 232, 3) := by decide +kernel
theorem dX5_back_21 : decode cX5_back 21 = .ok (.aload_n 0, 1) := by decide +kernel
theorem dX5_back_22 : decode cX5_back 22 = .ok (.getfield 12, 3) := by decide +kernel
theorem dX5_back_25 : decode cX5_back 25 = .ok (.invokevirtual 207, 3) := by decide +kernel
theorem dX5_back_28 : decode cX5_back 28 = .ok (.ireturn, 1) := by decide +kernel
theorem dX5_count_0 : decode cX5_count 0 = .ok (.iload_n 1, 1) := by decide +kernel
theorem dX5_count_1 : decode cX5_count 1 = .ok (.tableswitch 131 0 8 #[51, 59, 75, 83, 91, 99, 107, 115, 123], 51) := by decide +kernel
theorem dX5_count_52 : decode cX5_count 52 = .ok (.aload_n 0, 1) := by decide +kernel
theorem dX5_count_53 : decode cX5_count 53 = .ok (.getfield 12, 3) := by decide +kernel
theorem dX5_count_56 : decode cX5_count 56 = .ok (.getfield 235, 3) := by decide +kernel
theorem dX5_count_59 : decode cX5_count 59 = .ok (.ireturn, 1) := by decide +kernel
theorem dX5_count_60 : decode cX5_count 60 = .ok (.aload_n 0, 1) := by decide +kernel
theorem dX5_count_61 : decode cX5_count 61 = .ok (.getfield 12, 3) := by decide +kernel
theorem dX5_count_64 : decode cX5_count 64 = .ok (.getfield 235, 3) := by decide +kernel
theorem dX5_count_67 : decode cX5_count 67 = .ok (.aload_n 0, 1) := by decide +kernel
theorem dX5_count_68 : decode cX5_count 68 = .ok (.getfield 12, 3) := by decide +kernel
theorem dX5_count_71 : decode cX5_count 71 = .ok (.invokevirtual 207, 3) := by decide +kernel
theorem dX5_count_74 : decode cX5_count 74 = .ok (.isub, 1) := by decide +kernel
theorem dX5_count_75 : decode cX5_count 75 = .ok (.ireturn, 1) := by decide +kernel
theorem dX5_count_76 : decode cX5_count 76 = .ok (.aload_n 0, 1) := by decide +kernel
theorem dX5_count_77 : decode cX5_count 77 = .ok (.getfield 12, 3) := by decide +kernel
theorem dX5_count_80 : decode cX5_count 80 = .ok (.getfield 92, 3) := by decide +kernel
theorem dX5_count_83 : decode cX5_count 83 = .ok (.ireturn, 1) := by decide +kernel
theorem dX5_count_84 : decode cX5_count 84 = .ok (.aload_n 0, 1) := by decide +kernel
theorem dX5_count_85 : decode cX5_count 85 = .ok (.getfield 12, 3) := by decide +kernel
theorem dX5_count_88 : decode cX5_count 88 = .ok (.getfield 96, 3) := by decide +kernel
theorem dX5_count_91 : decode cX5_count 91 = .ok (.ireturn, 1) := by decide +kernel
theorem dX5_count_92 : decode cX5_count 92 = .ok (.aload_n 0, 1) := by decide +kernel
theorem dX5_count_93 : decode cX5_count 93 = .ok (.getfield 12, 3) := by decide +kernel
theorem dX5_count_96 : decode cX5_count 96 = .ok (.getfield 157, 3) := by decide +kernel
theorem dX5_count_99 : decode cX5_count 99 = .ok (.ireturn, 1) := by decide +kernel
theorem dX5_count_100 : decode cX5_count 100 = .ok (.aload_n 0, 1) := by decide +kernel
theorem dX5_count_101 : decode cX5_count 101 = .ok (.getfield 12, 3) := by decide +kernel
theorem dX5_count_104 : decode cX5_count 104 = .ok (.getfield 148, 3) := by decide +kernel
theorem dX5_count_107 : decode cX5_count 107 = .ok (.ireturn, 1) := by decide +kernel
theorem dX5_count_108 : decode cX5_count 108 = .ok (.aload_n 0, 1) := by decide +kernel
theorem dX5_count_109 : decode cX5_count 109 = .ok (.getfield 28, 3) := by decide +kernel
theorem dX5_count_112 : decode cX5_count 112 = .ok (.getfield 238, 3) := by decide +kernel
theorem dX5_count_115 : decode cX5_count 115 = .ok (.ireturn, 1) := by decide +kernel
theorem dX5_count_116 : decode cX5_count 116 = .ok (.aload_n 0, 1) := by decide +kernel
theorem dX5_count_117 : decode cX5_count 117 = .ok (.getfield 37, 3) := by decide +kernel
theorem dX5_count_120 : decode cX5_count 120 = .ok (.getfield 239, 3) := by decide +kernel
theorem dX5_count_123 : decode cX5_count 123 = .ok (.ireturn, 1) := by decide +kernel
theorem dX5_count_124 : decode cX5_count 124 = .ok (.aload_n 0, 1) := by decide +kernel
theorem dX5_count_125 : decode cX5_count 125 = .ok (.getfield 12, 3) := by decide +kernel
theorem dX5_count_128 : decode cX5_count 128 = .ok (.getfield 141, 3) := by decide +kernel
theorem dX5_count_131 : decode cX5_count 131 = .ok (.ireturn, 1) := by decide +kernel
theorem dX5_count_132 : decode cX5_count 132 = .ok (.bipush (-2), 2) := by decide +kernel
theorem dX5_count_134 : decode cX5_count 134 = .ok (.ireturn, 1) := by decide +kernel
theorem dX5_sheet_0 : decode cX5_sheet 0 = .ok (.iload_n 1, 1) := by decide +kernel
theorem dX5_sheet_1 : decode cX5_sheet 1 = .ok (.invokestatic 192, 3) := by decide +kernel
theorem dX5_sheet_4 : decode cX5_sheet 4 = .ok (.ifCond .eq 12, 3) := by decide +kernel
theorem dX5_sheet_7 : decode cX5_sheet 7 = .ok (.iload_n 2, 1) := by decide +kernel
theorem dX5_sheet_8 : decode cX5_sheet 8 = .ok (.iconst (-1), 1) := by decide +kernel
theorem dX5_sheet_9 : decode cX5_sheet 9 = .ok (.iconst 2, 1) := by decide +kernel
theorem dX5_sheet_10 : decode cX5_sheet 10 = .ok (.invokestatic 59, 3) := by decide +kernel
theorem dX5_sheet_13 : decode cX5_sheet 13 = .ok (.ifCond .ne 6, 3) := by decide +kernel
theorem dX5_sheet_16 : decode cX5_sheet 16 = .ok (.bipush (-2), 2) := by decide +kernel
theorem dX5_sheet_18 : decode cX5_sheet 18 = .ok (.ireturn, 1) := by decide +kernel
theorem dX5_sheet_19 : decode cX5_sheet 19 = .ok (.iload_n 2, 1) := by decide +kernel
theorem dX5_sheet_20 : decode cX5_sheet 20 = .ok (.iconst (-1), 1) := by decide +kernel
theorem dX5_sheet_21 : decode cX5_sheet 21 = .ok (.if_icmp .ne 13, 3) := by decide +kernel
theorem dX5_sheet_24 : decode cX5_sheet 24 = .ok (.aload_n 0, 1) := by decide +kernel
theorem dX5_sheet_25 : decode cX5_sheet 25 = .ok (.getfield 51, 3) := by decide +kernel
theorem dX5_sheet_28 : decode cX5_sheet 28 = .ok (.iload_n 1, 1) := by decide +kernel
theorem dX5_sheet_29 : decode cX5_sheet 29 = .ok (.invokevirtual 241, 3) := by decide +kernel
theorem dX5_sheet_32 : decode cX5_sheet 32 = .ok (.iconst 1, 1) := by decide +kernel
theorem dX5_sheet_33 : decode cX5_sheet 33 = .ok (.ireturn, 1) := by decide +kernel
theorem dX5_sheet_34 : decode cX5_sheet 34 = .ok (.iload_n 3, 1) := by decide +kernel
theorem dX5_sheet_35 : decode cX5_sheet 35 = .ok (.bipush 40, 2) := by decide +kernel
theorem dX5_sheet_37 : decode cX5_sheet 37 = .ok (.if_icmp .le 6, 3) := by decide +kernel
theorem dX5_sheet_40 : decode cX5_sheet 40 = .ok (.bipush (-2), 2) := by decide +kernel
theorem dX5_sheet_42 : decode cX5_sheet 42 = .ok (.ireturn, 1) := by decide +kernel
theorem dX5_sheet_43 : decode cX5_sheet 43 = .ok (.iload_n 3, 1) := by decide +kernel
theorem dX5_sheet_44 : decode cX5_sheet 44 = .ok (.ifCond .ge 6, 3) := by decide +kernel
theorem dX5_sheet_47 : decode cX5_sheet 47 = .ok (.bipush (-14), 2) := by decide +kernel
theorem dX5_sheet_49 : decode cX5_sheet 49 = .ok (.ireturn, 1) := by decide +kernel
theorem dX5_sheet_50 : decode cX5_sheet 50 = .ok (.aload_n 0, 1) := by decide +kernel
theorem dX5_sheet_51 : decode cX5_sheet 51 = .ok (.getfield 51, 3) := by decide +kernel
theorem dX5_sheet_54 : decode cX5_sheet 54 = .ok (.iload_n 1, 1) := by decide +kernel
theorem dX5_sheet_55 : decode cX5_sheet 55 = .ok (.iload_n 2, 1) := by decide +kernel
theorem dX5_sheet_56 : decode cX5_sheet 56 = .ok (.iload_n 3, 1) := by decide +kernel
theorem dX5_sheet_57 : decode cX5_sheet 57 = .ok (.invokevirtual 244, 3) := by decide +kernel
theorem dX5_sheet_60 : decode cX5_sheet 60 = .ok (.iconst 1, 1) := by decide +kernel
theorem dX5_sheet_61 : decode cX5_sheet 61 = .ok (.ireturn, 1) := by decide +kernel
theorem dX5_cell_0 : decode cX5_cell 0 = .ok (.iload_n 1, 1) := by decide +kernel
theorem dX5_cell_1 : decode cX5_cell 1 = .ok (.invokestatic 192, 3) := by decide +kernel
theorem dX5_cell_4 : decode cX5_cell 4 = .ok (.ifCond .ne 6, 3) := by decide +kernel
theorem dX5_cell_7 : decode cX5_cell 7 = .ok (.bipush (-2), 2) := by decide +kernel
theorem dX5_cell_9 : decode cX5_cell 9 = .ok (.ireturn, 1) := by decide +kernel
theorem dX5_cell_10 : decode cX5_cell 10 = .ok (.aload_n 0, 1) := by decide +kernel
theorem dX5_cell_11 : decode cX5_cell 11 = .ok (.getfield 51, 3) := by decide +kernel
theorem dX5_cell_14 : decode cX5_cell 14 = .ok (.iload_n 1, 1) := by decide +kernel
theorem dX5_cell_15 : decode cX5_cell 15 = .ok (.invokevirtual 195, 3) := by decide +kernel
theorem dX5_cell_18 : decode cX5_cell 18 = .ok (.iconst (-1), 1) := by decide +kernel
theorem dX5_cell_19 : decode cX5_cell 19 = .ok (.if_icmp .ne 6, 3) := by decide +kernel
theorem dX5_cell_22 : decode cX5_cell 22 = .ok (.bipush (-11), 2) := by decide +kernel
theorem dX5_cell_24 : decode cX5_cell 24 = .ok (.ireturn, 1) := by decide +kernel
theorem dX5_cell_25 : decode cX5_cell 25 = .ok (.iload_n 2, 1) := by decide +kernel
theorem dX5_cell_26 : decode cX5_cell 26 = .ok (.ifCond .lt 15, 3) := by decide +kernel
theorem dX5_cell_29 : decode cX5_cell 29 = .ok (.iload_n 2, 1) := by decide +kernel
theorem dX5_cell_30 : decode cX5_cell 30 = .ok (.aload_n 0, 1) := by decide +kernel
theorem dX5_cell_31 : decode cX5_cell 31 = .ok (.getfield 51, 3) := by decide +kernel
theorem dX5_cell_34 : decode cX5_cell 34 = .ok (.iload_n 1, 1) := by decide +kernel
theorem dX5_cell_35 : decode cX5_cell 35 = .ok (.invokevirtual 198, 3) := by decide +kernel
theorem dX5_cell_38 : decode cX5_cell 38 = .ok (.if_icmp .lt 6, 3) := by decide +kernel
theorem dX5_cell_41 : decode cX5_cell 41 = .ok (.bipush (-12), 2) := by decide +kernel
theorem dX5_cell_43 : decode cX5_cell 43 = .ok (.ireturn, 1) := by decide +kernel
theorem dX5_cell_44 : decode cX5_cell 44 = .ok (.aload_n 0, 1) := by decide +kernel
theorem dX5_cell_45 : decode cX5_cell 45 = .ok (.getfield 51, 3) := by decide +kernel
theorem dX5_cell_48 : decode cX5_cell 48 = .ok (.iload_n 1, 1) := by decide +kernel
theorem dX5_cell_49 : decode cX5_cell 49 = .ok (.iload_n 2, 1) := by decide +kernel
theorem dX5_cell_50 : decode cX5_cell 50 = .ok (.iload_n 3, 1) := by decide +kernel
theorem dX5_cell_51 : decode cX5_cell 51 = .ok (.invokevirtual 248, 3) := by decide +kernel
theorem dX5_cell_54 : decode cX5_cell 54 = .ok (.iconst 1, 1) := by decide +kernel
theorem dX5_cell_55 : decode cX5_cell 55 = .ok (.ireturn, 1) := by decide +kernel
theorem dX5_copy_0 : decode cX5_copy 0 = .ok (.iload_n 1, 1) := by decide +kernel
theorem dX5_copy_1 : decode cX5_copy 1 = .ok (.invokestatic 192, 3) := by decide +kernel
theorem dX5_copy_4 : decode cX5_copy 4 = .ok (.ifCond .eq 10, 3) := by decide +kernel
theorem dX5_copy_7 : decode cX5_copy 7 = .ok (.iload_n 3, 1) := by decide +kernel
theorem dX5_copy_8 : decode cX5_copy 8 = .ok (.invokestatic 192, 3) := by decide +kernel
theorem dX5_copy_11 : decode cX5_copy 11 = .ok (.ifCond .ne 6, 3) := by decide +kernel
theorem dX5_copy_14 : decode cX5_copy 14 = .ok (.bipush (-2), 2) := by decide +kernel
theorem dX5_copy_16 : decode cX5_copy 16 = .ok (.ireturn, 1) := by decide +kernel
theorem dX5_copy_17 : decode cX5_copy 17 = .ok (.aload_n 0, 1) := by decide +kernel
theorem dX5_copy_18 : decode cX5_copy 18 = .ok (.getfield 51, 3) := by decide +kernel
theorem dX5_copy_21 : decode cX5_copy 21 = .ok (.iload_n 1, 1) := by decide +kernel
theorem dX5_copy_22 : decode cX5_copy 22 = .ok (.invokevirtual 195, 3) := by decide +kernel
theorem dX5_copy_25 : decode cX5_copy 25 = .ok (.iconst (-1), 1) := by decide +kernel
theorem dX5_copy_26 : decode cX5_copy 26 = .ok (.if_icmp .eq 15, 3) := by decide +kernel
theorem dX5_copy_29 : decode cX5_copy 29 = .ok (.aload_n 0, 1) := by decide +kernel
theorem dX5_copy_30 : decode cX5_copy 30 = .ok (.getfield 51, 3) := by decide +kernel
theorem dX5_copy_33 : decode cX5_copy 33 = .ok (.iload_n 3, 1) := by decide +kernel
theorem dX5_copy_34 : decode cX5_copy 34 = .ok (.invokevirtual 195, 3) := by decide +kernel
theorem dX5_copy_37 : decode cX5_copy 37 = .ok (.iconst (-1), 1) := by decide +kernel
theorem dX5_copy_38 : decode cX5_copy 38 = .ok (.if_icmp .ne 6, 3) := by decide +kernel
theorem dX5_copy_41 : decode cX5_copy 41 = .ok (.bipush (-11), 2) := by decide +kernel
theorem dX5_copy_43 : decode cX5_copy 43 = .ok (.ireturn, 1) := by decide +kernel
theorem dX5_copy_44 : decode cX5_copy 44 = .ok (.aload_n 0, 1) := by decide +kernel
theorem dX5_copy_45 : decode cX5_copy 45 = .ok (.getfield 51, 3) := by decide +kernel
theorem dX5_copy_48 : decode cX5_copy 48 = .ok (.iload_n 1, 1) := by decide +kernel
theorem dX5_copy_49 : decode cX5_copy 49 = .ok (.invokevirtual 195, 3) := by decide +kernel
theorem dX5_copy_52 : decode cX5_copy 52 = .ok (.aload_n 0, 1) := by decide +kernel
theorem dX5_copy_53 : decode cX5_copy 53 = .ok (.getfield 51, 3) := by decide +kernel
theorem dX5_copy_56 : decode cX5_copy 56 = .ok (.iload_n 3, 1) := by decide +kernel
theorem dX5_copy_57 : decode cX5_copy 57 = .ok (.invokevirtual 195, 3) := by decide +kernel
theorem dX5_copy_60 : decode cX5_copy 60 = .ok (.if_icmp .eq 6, 3) := by decide +kernel
theorem dX5_copy_63 : decode cX5_copy 63 = .ok (.bipush (-13), 2) := by decide +kernel
theorem dX5_copy_65 : decode cX5_copy 65 = .ok (.ireturn, 1) := by decide +kernel
theorem dX5_copy_66 : decode cX5_copy 66 = .ok (.aload_n 0, 1) := by decide +kernel
theorem dX5_copy_67 : decode cX5_copy 67 = .ok (.getfield 51, 3) := by decide +kernel
theorem dX5_copy_70 : decode cX5_copy 70 = .ok (.iload_n 1, 1) := by decide +kernel
theorem dX5_copy_71 : decode cX5_copy 71 = .ok (.iload_n 2, 1) := by decide +kernel
theorem dX5_copy_72 : decode cX5_copy 72 = .ok (.iload 5, 2) := by decide +kernel
theorem dX5_copy_74 : decode cX5_copy 74 = .ok (.invokevirtual 251, 3) := by decide +kernel
theorem dX5_copy_77 : decode cX5_copy 77 = .ok (.ifCond .eq 18, 3) := by decide +kernel
theorem dX5_copy_80 : decode cX5_copy 80 = .ok (.aload_n 0, 1) := by decide +kernel
theorem dX5_copy_81 : decode cX5_copy 81 = .ok (.getfield 51, 3) := by decide +kernel
theorem dX5_copy_84 : decode cX5_copy 84 = .ok (.iload_n 3, 1) := by decide +kernel
theorem dX5_copy_85 : decode cX5_copy 85 = .ok (.iload 4, 2) := by decide +kernel
theorem dX5_copy_87 : decode cX5_copy 87 = .ok (.iload 5, 2) := by decide +kernel
theorem dX5_copy_89 : decode cX5_copy 89 = .ok (.invokevirtual 251, 3) := by decide +kernel
theorem dX5_copy_92 : decode cX5_copy 92 = .ok (.ifCond .ne 6, 3) := by decide +kernel
theorem dX5_copy_95 : decode cX5_copy 95 = .ok (.bipush (-12), 2) := by decide +kernel
theorem dX5_copy_97 : decode cX5_copy 97 = .ok (.ireturn, 1) := by decide +kernel
theorem dX5_copy_98 : decode cX5_copy 98 = .ok (.aload_n 0, 1) := by decide +kernel
theorem dX5_copy_99 : decode cX5_copy 99 = .ok (.getfield 51, 3) := by decide +kernel
theorem dX5_copy_102 : decode cX5_copy 102 = .ok (.iload_n 1, 1) := by decide +kernel
theorem dX5_copy_103 : decode cX5_copy 103 = .ok (.iload_n 2, 1) := by decide +kernel
theorem dX5_copy_104 : decode cX5_copy 104 = .ok (.iload_n 3, 1) := by decide +kernel
theorem dX5_copy_105 : decode cX5_copy 105 = .ok (.iload 4, 2) := by decide +kernel
theorem dX5_copy_107 : decode cX5_copy 107 = .ok (.iload 5, 2) := by decide +kernel
theorem dX5_copy_109 : decode cX5_copy 109 = .ok (.invokevirtual 254, 3) := by decide +kernel
theorem dX5_copy_112 : decode cX5_copy 112 = .ok (.iload 5, 2) := by decide +kernel
theorem dX5_copy_114 : decode cX5_copy 114 = .ok (.ireturn, 1) := by decide +kernel
theorem dX5_finds_0 : decode cX5_finds 0 = .ok (.iload_n 1, 1) := by decide +kernel
theorem dX5_finds_1 : decode cX5_finds 1 = .ok (.invokestatic 192, 3) := by decide +kernel
theorem dX5_finds_4 : decode cX5_finds 4 = .ok (.ifCond .eq 23, 3) := by decide +kernel
theorem dX5_finds_7 : decode cX5_finds 7 = .ok (.iload_n 2, 1) := by decide +kernel
theorem dX5_finds_8 : decode cX5_finds 8 = .ok (.iconst 0, 1) := by decide +kernel
theorem dX5_finds_9 : decode cX5_finds 9 = .ok (.iconst 2, 1) := by decide +kernel
theorem dX5_finds_10 : decode cX5_finds 10 = .ok (.invokestatic 59, 3) := by decide +kernel
theorem dX5_finds_13 : decode cX5_finds 13 = .ok (.ifCond .eq 14, 3) := by decide +kernel
theorem dX5_finds_16 : decode cX5_finds 16 = .ok (.iload 4, 2) := by decide +kernel
theorem dX5_finds_18 : decode cX5_finds 18 = .ok (.iconst 0, 1) := by decide +kernel
theorem dX5_finds_19 : decode cX5_finds 19 = .ok (.bipush 12, 2) := by decide +kernel
theorem dX5_finds_21 : decode cX5_finds 21 = .ok (.invokestatic 59, 3) := by decide +kernel
theorem dX5_finds_24 : decode cX5_finds 24 = .ok (.ifCond .ne 6, 3) := by decide +kernel
theorem dX5_finds_27 : decode cX5_finds 27 = .ok (.bipush (-2), 2) := by decide +kernel
theorem dX5_finds_29 : decode cX5_finds 29 = .ok (.ireturn, 1) := by decide +kernel
theorem dX5_finds_30 : decode cX5_finds 30 = .ok (.aload_n 0, 1) := by decide +kernel
theorem dX5_finds_31 : decode cX5_finds 31 = .ok (.getfield 51, 3) := by decide +kernel
theorem dX5_finds_34 : decode cX5_finds 34 = .ok (.iload_n 1, 1) := by decide +kernel
theorem dX5_finds_35 : decode cX5_finds 35 = .ok (.invokevirtual 195, 3) := by decide +kernel
theorem dX5_finds_38 : decode cX5_finds 38 = .ok (.istore 5, 2) := by decide +kernel
theorem dX5_finds_40 : decode cX5_finds 40 = .ok (.iload 5, 2) := by decide +kernel
theorem dX5_finds_42 : decode cX5_finds 42 = .ok (.iconst (-1), 1) := by decide +kernel
theorem dX5_finds_43 : decode cX5_finds 43 = .ok (.if_icmp .ne 6, 3) := by decide +kernel
theorem dX5_finds_46 : decode cX5_finds 46 = .ok (.bipush (-11), 2) := by decide +kernel
theorem dX5_finds_48 : decode cX5_finds 48 = .ok (.ireturn, 1) := by decide +kernel
theorem dX5_finds_49 : decode cX5_finds 49 = .ok (.iload 5, 2) := by decide +kernel
theorem dX5_finds_51 : decode cX5_finds 51 = .ok (.iload_n 2, 1) := by decide +kernel
theorem dX5_finds_52 : decode cX5_finds 52 = .ok (.if_icmp .eq 6, 3) := by decide +kernel
theorem dX5_finds_55 : decode cX5_finds 55 = .ok (.bipush (-13), 2) := by decide +kernel
theorem dX5_finds_57 : decode cX5_finds 57 = .ok (.ireturn, 1) := by decide +kernel
theorem dX5_finds_58 : decode cX5_finds 58 = .ok (.iconst 0, 1) := by decide +kernel
theorem dX5_finds_59 : decode cX5_finds 59 = .ok (.istore 6, 2) := by decide +kernel
theorem dX5_finds_61 : decode cX5_finds 61 = .ok (.iconst 0, 1) := by decide +kernel
theorem dX5_finds_62 : decode cX5_finds 62 = .ok (.istore 7, 2) := by decide +kernel
theorem dX5_finds_64 : decode cX5_finds 64 = .ok (.iload 7, 2) := by decide +kernel
theorem dX5_finds_66 : decode cX5_finds 66 = .ok (.iload 4, 2) := by decide +kernel
theorem dX5_finds_68 : decode cX5_finds 68 = .ok (.if_icmp .ge 82, 3) := by decide +kernel
theorem dX5_finds_71 : decode cX5_finds 71 = .ok (.iload_n 3, 1) := by decide +kernel
theorem dX5_finds_72 : decode cX5_finds 72 = .ok (.iconst 3, 1) := by decide +kernel
theorem dX5_finds_73 : decode cX5_finds 73 = .ok (.iload 7, 2) := by decide +kernel
theorem dX5_finds_75 : decode cX5_finds 75 = .ok (.imul, 1) := by decide +kernel
theorem dX5_finds_76 : decode cX5_finds 76 = .ok (.iadd, 1) := by decide +kernel
theorem dX5_finds_77 : decode cX5_finds 77 = .ok (.istore 8, 2) := by decide +kernel
theorem dX5_finds_79 : decode cX5_finds 79 = .ok (.aload_n 0, 1) := by decide +kernel
theorem dX5_finds_80 : decode cX5_finds 80 = .ok (.getfield 51, 3) := by decide +kernel
theorem dX5_finds_83 : decode cX5_finds 83 = .ok (.iload_n 1, 1) := by decide +kernel
theorem dX5_finds_84 : decode cX5_finds 84 = .ok (.iload 8, 2) := by decide +kernel
theorem dX5_finds_86 : decode cX5_finds 86 = .ok (.iconst 3, 1) := by decide +kernel
theorem dX5_finds_87 : decode cX5_finds 87 = .ok (.invokevirtual 251, 3) := by decide +kernel
theorem dX5_finds_90 : decode cX5_finds 90 = .ok (.ifCond .ne 6, 3) := by decide +kernel
theorem dX5_finds_93 : decode cX5_finds 93 = .ok (.bipush (-12), 2) := by decide +kernel
theorem dX5_finds_95 : decode cX5_finds 95 = .ok (.ireturn, 1) := by decide +kernel
theorem dX5_finds_96 : decode cX5_finds 96 = .ok (.aload_n 0, 1) := by decide +kernel
theorem dX5_finds_97 : decode cX5_finds 97 = .ok (.aload_n 0, 1) := by decide +kernel
theorem dX5_finds_98 : decode cX5_finds 98 = .ok (.getfield 51, 3) := by decide +kernel
theorem dX5_finds_101 : decode cX5_finds 101 = .ok (.iload_n 1, 1) := by decide +kernel
theorem dX5_finds_102 : decode cX5_finds 102 = .ok (.iload 8, 2) := by decide +kernel
theorem dX5_finds_104 : decode cX5_finds 104 = .ok (.invokevirtual 201, 3) := by decide +kernel
theorem dX5_finds_107 : decode cX5_finds 107 = .ok (.aload_n 0, 1) := by decide +kernel
theorem dX5_finds_108 : decode cX5_finds 108 = .ok (.getfield 51, 3) := by decide +kernel
theorem dX5_finds_111 : decode cX5_finds 111 = .ok (.iload_n 1, 1) := by decide +kernel
theorem dX5_finds_112 : decode cX5_finds 112 = .ok (.iload 8, 2) := by decide +kernel
theorem dX5_finds_114 : decode cX5_finds 114 = .ok (.iconst 1, 1) := by decide +kernel
theorem dX5_finds_115 : decode cX5_finds 115 = .ok (.iadd, 1) := by decide +kernel
theorem dX5_finds_116 : decode cX5_finds 116 = .ok (.invokevirtual 201, 3) := by decide +kernel
theorem dX5_finds_119 : decode cX5_finds 119 = .ok (.aload_n 0, 1) := by decide +kernel
theorem dX5_finds_120 : decode cX5_finds 120 = .ok (.getfield 51, 3) := by decide +kernel
theorem dX5_finds_123 : decode cX5_finds 123 = .ok (.iload_n 1, 1) := by decide +kernel
theorem dX5_finds_124 : decode cX5_finds 124 = .ok (.iload 8, 2) := by decide +kernel
theorem dX5_finds_126 : decode cX5_finds 126 = .ok (.iconst 2, 1) := by decide +kernel
theorem dX5_finds_127 : decode cX5_finds 127 = .ok (.iadd, 1) := by decide +kernel
theorem dX5_finds_128 : decode cX5_finds 128 = .ok (.invokevirtual 201, 3) := by decide +kernel
theorem dX5_finds_131 : decode cX5_finds 131 = .ok (.invokevirtual 258, 3) := by decide +kernel
theorem dX5_finds_134 : decode cX5_finds 134 = .ok (.istore 9, 2) := by decide +kernel
theorem dX5_finds_136 : decode cX5_finds 136 = .ok (.iload 9, 2) := by decide +kernel
theorem dX5_finds_138 : decode cX5_finds 138 = .ok (.ifCond .lt 6, 3) := by decide +kernel
theorem dX5_finds_141 : decode cX5_finds 141 = .ok (.iinc 6 1, 3) := by decide +kernel
theorem dX5_finds_144 : decode cX5_finds 144 = .ok (.iinc 7 1, 3) := by decide +kernel
theorem dX5_finds_147 : decode cX5_finds 147 = .ok (.goto (-83), 3) := by decide +kernel
theorem dX5_finds_150 : decode cX5_finds 150 = .ok (.iload 6, 2) := by decide +kernel
theorem dX5_finds_152 : decode cX5_finds 152 = .ok (.ireturn, 1) := by decide +kernel
theorem dX5_taken_0 : decode cX5_taken 0 = .ok (.iload_n 2, 1) := by decide +kernel
theorem dX5_taken_1 : decode cX5_taken 1 = .ok (.iconst 0, 1) := by decide +kernel
theorem dX5_taken_2 : decode cX5_taken 2 = .ok (.iconst 5, 1) := by decide +kernel
theorem dX5_taken_3 : decode cX5_taken 3 = .ok (.invokestatic 59, 3) := by decide +kernel
theorem dX5_taken_6 : decode cX5_taken 6 = .ok (.ifCond .ne 6, 3) := by decide +kernel
theorem dX5_taken_9 : decode cX5_taken 9 = .ok (.bipush (-2), 2) := by decide +kernel
theorem dX5_taken_11 : decode cX5_taken 11 = .ok (.ireturn, 1) := by decide +kernel
theorem dX5_taken_12 : decode cX5_taken 12 = .ok (.aload_n 0, 1) := by decide +kernel
theorem dX5_taken_13 : decode cX5_taken 13 = .ok (.getfield 12, 3) := by decide +kernel
theorem dX5_taken_16 : decode cX5_taken 16 = .ok (.iload_n 1, 1) := by decide +kernel
theorem dX5_taken_17 : decode cX5_taken 17 = .ok (.invokevirtual 99, 3) := by decide +kernel
theorem dX5_taken_20 : decode cX5_taken 20 = .ok (.ifCond .ne 6, 3) := by decide +kernel
theorem dX5_taken_23 : decode cX5_taken 23 = .ok (.bipush (-11), 2) := by decide +kernel
theorem dX5_taken_25 : decode cX5_taken 25 = .ok (.ireturn, 1) := by decide +kernel
theorem dX5_taken_26 : decode cX5_taken 26 = .ok (.aload_n 0, 1) := by decide +kernel
theorem dX5_taken_27 : decode cX5_taken 27 = .ok (.getfield 12, 3) := by decide +kernel
theorem dX5_taken_30 : decode cX5_taken 30 = .ok (.getfield 105, 3) := by decide +kernel
theorem dX5_taken_33 : decode cX5_taken 33 = .ok (.iload_n 1, 1) := by decide +kernel
theorem dX5_taken_34 : decode cX5_taken 34 = .ok (.iaload, 1) := by decide +kernel
theorem dX5_taken_35 : decode cX5_taken 35 = .ok (.iload_n 2, 1) := by decide +kernel
theorem dX5_taken_36 : decode cX5_taken 36 = .ok (.invokestatic 261, 3) := by decide +kernel
theorem dX5_taken_39 : decode cX5_taken 39 = .ok (.ifCond .eq 15, 3) := by decide +kernel
theorem dX5_taken_42 : decode cX5_taken 42 = .ok (.aload_n 0, 1) := by decide +kernel
theorem dX5_taken_43 : decode cX5_taken 43 = .ok (.getfield 12, 3) := by decide +kernel
theorem dX5_taken_46 : decode cX5_taken 46 = .ok (.getfield 89, 3) := by decide +kernel
theorem dX5_taken_49 : decode cX5_taken 49 = .ok (.iload_n 1, 1) := by decide +kernel
theorem dX5_taken_50 : decode cX5_taken 50 = .ok (.iaload, 1) := by decide +kernel
theorem dX5_taken_51 : decode cX5_taken 51 = .ok (.goto 5, 3) := by decide +kernel
theorem dX5_taken_54 : decode cX5_taken 54 = .ok (.bipush (-13), 2) := by decide +kernel
theorem dX5_taken_56 : decode cX5_taken 56 = .ok (.ireturn, 1) := by decide +kernel
theorem dX5_isWithin_0 : decode cX5_isWithin 0 = .ok (.iload_n 0, 1) := by decide +kernel
theorem dX5_isWithin_1 : decode cX5_isWithin 1 = .ok (.iload_n 1, 1) := by decide +kernel
theorem dX5_isWithin_2 : decode cX5_isWithin 2 = .ok (.if_icmp .lt 12, 3) := by decide +kernel
theorem dX5_isWithin_5 : decode cX5_isWithin 5 = .ok (.iload_n 0, 1) := by decide +kernel
theorem dX5_isWithin_6 : decode cX5_isWithin 6 = .ok (.iload_n 2, 1) := by decide +kernel
theorem dX5_isWithin_7 : decode cX5_isWithin 7 = .ok (.if_icmp .gt 7, 3) := by decide +kernel
theorem dX5_isWithin_10 : decode cX5_isWithin 10 = .ok (.iconst 1, 1) := by decide +kernel
theorem dX5_isWithin_11 : decode cX5_isWithin 11 = .ok (.goto 4, 3) := by decide +kernel
theorem dX5_isWithin_14 : decode cX5_isWithin 14 = .ok (.iconst 0, 1) := by decide +kernel
theorem dX5_isWithin_15 : decode cX5_isWithin 15 = .ok (.ireturn, 1) := by decide +kernel
theorem dX5_isCell_0 : decode cX5_isCell 0 = .ok (.iload_n 0, 1) := by decide +kernel
theorem dX5_isCell_1 : decode cX5_isCell 1 = .ok (.ifCond .lt 13, 3) := by decide +kernel
theorem dX5_isCell_4 : decode cX5_isCell 4 = .ok (.iload_n 0, 1) := by decide +kernel
theorem dX5_isCell_5 : decode cX5_isCell 5 = .ok (.bipush 48, 2) := by decide +kernel
theorem dX5_isCell_7 : decode cX5_isCell 7 = .ok (.if_icmp .ge 7, 3) := by decide +kernel
theorem dX5_isCell_10 : decode cX5_isCell 10 = .ok (.iconst 1, 1) := by decide +kernel
theorem dX5_isCell_11 : decode cX5_isCell 11 = .ok (.goto 4, 3) := by decide +kernel
theorem dX5_isCell_14 : decode cX5_isCell 14 = .ok (.iconst 0, 1) := by decide +kernel
theorem dX5_isCell_15 : decode cX5_isCell 15 = .ok (.ireturn, 1) := by decide +kernel
theorem dX5_isSheet_0 : decode cX5_isSheet 0 = .ok (.iload_n 0, 1) := by decide +kernel
theorem dX5_isSheet_1 : decode cX5_isSheet 1 = .ok (.ifCond .lt 12, 3) := by decide +kernel
theorem dX5_isSheet_4 : decode cX5_isSheet 4 = .ok (.iload_n 0, 1) := by decide +kernel
theorem dX5_isSheet_5 : decode cX5_isSheet 5 = .ok (.iconst 4, 1) := by decide +kernel
theorem dX5_isSheet_6 : decode cX5_isSheet 6 = .ok (.if_icmp .ge 7, 3) := by decide +kernel
theorem dX5_isSheet_9 : decode cX5_isSheet 9 = .ok (.iconst 1, 1) := by decide +kernel
theorem dX5_isSheet_10 : decode cX5_isSheet 10 = .ok (.goto 4, 3) := by decide +kernel
theorem dX5_isSheet_13 : decode cX5_isSheet 13 = .ok (.iconst 0, 1) := by decide +kernel
theorem dX5_isSheet_14 : decode cX5_isSheet 14 = .ok (.ireturn, 1) := by decide +kernel
theorem dX5_held_0 : decode cX5_held 0 = .ok (.iload_n 0, 1) := by decide +kernel
theorem dX5_held_1 : decode cX5_held 1 = .ok (.ifCond .ge 7, 3) := by decide +kernel
theorem dX5_held_4 : decode cX5_held 4 = .ok (.iconst 0, 1) := by decide +kernel
theorem dX5_held_5 : decode cX5_held 5 = .ok (.goto 13, 3) := by decide +kernel
theorem dX5_held_8 : decode cX5_held 8 = .ok (.iload_n 0, 1) := by decide +kernel
theorem dX5_held_9 : decode cX5_held 9 = .ok (.iload_n 1, 1) := by decide +kernel
theorem dX5_held_10 : decode cX5_held 10 = .ok (.if_icmp .le 7, 3) := by decide +kernel
theorem dX5_held_13 : decode cX5_held 13 = .ok (.iload_n 1, 1) := by decide +kernel
theorem dX5_held_14 : decode cX5_held 14 = .ok (.goto 4, 3) := by decide +kernel
theorem dX5_held_17 : decode cX5_held 17 = .ok (.iload_n 0, 1) := by decide +kernel
theorem dX5_held_18 : decode cX5_held 18 = .ok (.ireturn, 1) := by decide +kernel
theorem dX5_toneOf_0 : decode cX5_toneOf 0 = .ok (.bipush 10, 2) := by decide +kernel
theorem dX5_toneOf_2 : decode cX5_toneOf 2 = .ok (.iload_n 1, 1) := by decide +kernel
theorem dX5_toneOf_3 : decode cX5_toneOf 3 = .ok (.iadd, 1) := by decide +kernel
theorem dX5_toneOf_4 : decode cX5_toneOf 4 = .ok (.istore_n 2, 1) := by decide +kernel
theorem dX5_toneOf_5 : decode cX5_toneOf 5 = .ok (.iload_n 2, 1) := by decide +kernel
theorem dX5_toneOf_6 : decode cX5_toneOf 6 = .ok (.bipush 50, 2) := by decide +kernel
theorem dX5_toneOf_8 : decode cX5_toneOf 8 = .ok (.iadd, 1) := by decide +kernel
theorem dX5_toneOf_9 : decode cX5_toneOf 9 = .ok (.istore_n 3, 1) := by decide +kernel
theorem dX5_toneOf_10 : decode cX5_toneOf 10 = .ok (.iload_n 0, 1) := by decide +kernel
theorem dX5_toneOf_11 : decode cX5_toneOf 11 = .ok (.tableswitch 62 1 5 #[33, 35, 39, 43, 48], 33) := by decide +kernel
theorem dX5_toneOf_44 : decode cX5_toneOf 44 = .ok (.iload_n 3, 1) := by decide +kernel
theorem dX5_toneOf_45 : decode cX5_toneOf 45 = .ok (.ireturn, 1) := by decide +kernel
theorem dX5_toneOf_46 : decode cX5_toneOf 46 = .ok (.iload_n 2, 1) := by decide +kernel
theorem dX5_toneOf_47 : decode cX5_toneOf 47 = .ok (.iconst 2, 1) := by decide +kernel
theorem dX5_toneOf_48 : decode cX5_toneOf 48 = .ok (.idiv, 1) := by decide +kernel
theorem dX5_toneOf_49 : decode cX5_toneOf 49 = .ok (.ireturn, 1) := by decide +kernel
theorem dX5_toneOf_50 : decode cX5_toneOf 50 = .ok (.iload_n 3, 1) := by decide +kernel
theorem dX5_toneOf_51 : decode cX5_toneOf 51 = .ok (.iload_n 1, 1) := by decide +kernel
theorem dX5_toneOf_52 : decode cX5_toneOf 52 = .ok (.isub, 1) := by decide +kernel
theorem dX5_toneOf_53 : decode cX5_toneOf 53 = .ok (.ireturn, 1) := by decide +kernel
theorem dX5_toneOf_54 : decode cX5_toneOf 54 = .ok (.iload_n 2, 1) := by decide +kernel
theorem dX5_toneOf_55 : decode cX5_toneOf 55 = .ok (.bipush 30, 2) := by decide +kernel
theorem dX5_toneOf_57 : decode cX5_toneOf 57 = .ok (.iadd, 1) := by decide +kernel
theorem dX5_toneOf_58 : decode cX5_toneOf 58 = .ok (.ireturn, 1) := by decide +kernel
theorem dX5_toneOf_59 : decode cX5_toneOf 59 = .ok (.iload_n 1, 1) := by decide +kernel
theorem dX5_toneOf_60 : decode cX5_toneOf 60 = .ok (.iconst 4, 1) := by decide +kernel
theorem dX5_toneOf_61 : decode cX5_toneOf 61 = .ok (.if_icmp .le 10, 3) := by decide +kernel
theorem dX5_toneOf_64 : decode cX5_toneOf 64 = .ok (.iload_n 3, 1) := by decide +kernel
theorem dX5_toneOf_65 : decode cX5_toneOf 65 = .ok (.bipush 9, 2) := by decide +kernel
theorem dX5_toneOf_67 : decode cX5_toneOf 67 = .ok (.iadd, 1) := by decide +kernel
theorem dX5_toneOf_68 : decode cX5_toneOf 68 = .ok (.goto 4, 3) := by decide +kernel
theorem dX5_toneOf_71 : decode cX5_toneOf 71 = .ok (.iload_n 3, 1) := by decide +kernel
theorem dX5_toneOf_72 : decode cX5_toneOf 72 = .ok (.ireturn, 1) := by decide +kernel
theorem dX5_toneOf_73 : decode cX5_toneOf 73 = .ok (.iload_n 2, 1) := by decide +kernel
theorem dX5_toneOf_74 : decode cX5_toneOf 74 = .ok (.ireturn, 1) := by decide +kernel
theorem dX5_loudOf_0 : decode cX5_loudOf 0 = .ok (.bipush 10, 2) := by decide +kernel
theorem dX5_loudOf_2 : decode cX5_loudOf 2 = .ok (.iload_n 1, 1) := by decide +kernel
theorem dX5_loudOf_3 : decode cX5_loudOf 3 = .ok (.imul, 1) := by decide +kernel
theorem dX5_loudOf_4 : decode cX5_loudOf 4 = .ok (.iconst 5, 1) := by decide +kernel
theorem dX5_loudOf_5 : decode cX5_loudOf 5 = .ok (.iload_n 3, 1) := by decide +kernel
theorem dX5_loudOf_6 : decode cX5_loudOf 6 = .ok (.imul, 1) := by decide +kernel
theorem dX5_loudOf_7 : decode cX5_loudOf 7 = .ok (.iadd, 1) := by decide +kernel
theorem dX5_loudOf_8 : decode cX5_loudOf 8 = .ok (.iconst 2, 1) := by decide +kernel
theorem dX5_loudOf_9 : decode cX5_loudOf 9 = .ok (.iload 4, 2) := by decide +kernel
theorem dX5_loudOf_11 : decode cX5_loudOf 11 = .ok (.imul, 1) := by decide +kernel
theorem dX5_loudOf_12 : decode cX5_loudOf 12 = .ok (.iadd, 1) := by decide +kernel
theorem dX5_loudOf_13 : decode cX5_loudOf 13 = .ok (.bipush 6, 2) := by decide +kernel
theorem dX5_loudOf_15 : decode cX5_loudOf 15 = .ok (.iload_n 2, 1) := by decide +kernel
theorem dX5_loudOf_16 : decode cX5_loudOf 16 = .ok (.imul, 1) := by decide +kernel
theorem dX5_loudOf_17 : decode cX5_loudOf 17 = .ok (.isub, 1) := by decide +kernel
theorem dX5_loudOf_18 : decode cX5_loudOf 18 = .ok (.istore 5, 2) := by decide +kernel
theorem dX5_loudOf_20 : decode cX5_loudOf 20 = .ok (.iload 5, 2) := by decide +kernel
theorem dX5_loudOf_22 : decode cX5_loudOf 22 = .ok (.bipush 8, 2) := by decide +kernel
theorem dX5_loudOf_24 : decode cX5_loudOf 24 = .ok (.iadd, 1) := by decide +kernel
theorem dX5_loudOf_25 : decode cX5_loudOf 25 = .ok (.istore 6, 2) := by decide +kernel
theorem dX5_loudOf_27 : decode cX5_loudOf 27 = .ok (.iload_n 0, 1) := by decide +kernel
theorem dX5_loudOf_28 : decode cX5_loudOf 28 = .ok (.tableswitch 57 1 5 #[36, 39, 47, 57, 52], 36) := by decide +kernel
theorem dX5_loudOf_64 : decode cX5_loudOf 64 = .ok (.iload 6, 2) := by decide +kernel
theorem dX5_loudOf_66 : decode cX5_loudOf 66 = .ok (.ireturn, 1) := by decide +kernel
theorem dX5_loudOf_67 : decode cX5_loudOf 67 = .ok (.iload 5, 2) := by decide +kernel
theorem dX5_loudOf_69 : decode cX5_loudOf 69 = .ok (.iconst 5, 1) := by decide +kernel
theorem dX5_loudOf_70 : decode cX5_loudOf 70 = .ok (.iload 4, 2) := by decide +kernel
theorem dX5_loudOf_72 : decode cX5_loudOf 72 = .ok (.imul, 1) := by decide +kernel
theorem dX5_loudOf_73 : decode cX5_loudOf 73 = .ok (.isub, 1) := by decide +kernel
theorem dX5_loudOf_74 : decode cX5_loudOf 74 = .ok (.ireturn, 1) := by decide +kernel
theorem dX5_loudOf_75 : decode cX5_loudOf 75 = .ok (.iload 6, 2) := by decide +kernel
theorem dX5_loudOf_77 : decode cX5_loudOf 77 = .ok (.iconst 2, 1) := by decide +kernel
theorem dX5_loudOf_78 : decode cX5_loudOf 78 = .ok (.idiv, 1) := by decide +kernel
theorem dX5_loudOf_79 : decode cX5_loudOf 79 = .ok (.ireturn, 1) := by decide +kernel
theorem dX5_loudOf_80 : decode cX5_loudOf 80 = .ok (.iconst 2, 1) := by decide +kernel
theorem dX5_loudOf_81 : decode cX5_loudOf 81 = .ok (.iload 6, 2) := by decide +kernel
theorem dX5_loudOf_83 : decode cX5_loudOf 83 = .ok (.imul, 1) := by decide +kernel
theorem dX5_loudOf_84 : decode cX5_loudOf 84 = .ok (.ireturn, 1) := by decide +kernel
theorem dX5_loudOf_85 : decode cX5_loudOf 85 = .ok (.iload 5, 2) := by decide +kernel
theorem dX5_loudOf_87 : decode cX5_loudOf 87 = .ok (.ireturn, 1) := by decide +kernel
theorem dX5_dragsOf_0 : decode cX5_dragsOf 0 = .ok (.iload_n 0, 1) := by decide +kernel
theorem dX5_dragsOf_1 : decode cX5_dragsOf 1 = .ok (.tableswitch 58 2 5 #[31, 33, 35, 46], 31) := by decide +kernel
theorem dX5_dragsOf_32 : decode cX5_dragsOf 32 = .ok (.iconst 0, 1) := by decide +kernel
theorem dX5_dragsOf_33 : decode cX5_dragsOf 33 = .ok (.ireturn, 1) := by decide +kernel
theorem dX5_dragsOf_34 : decode cX5_dragsOf 34 = .ok (.iconst 2, 1) := by decide +kernel
theorem dX5_dragsOf_35 : decode cX5_dragsOf 35 = .ok (.ireturn, 1) := by decide +kernel
theorem dX5_dragsOf_36 : decode cX5_dragsOf 36 = .ok (.iload_n 1, 1) := by decide +kernel
theorem dX5_dragsOf_37 : decode cX5_dragsOf 37 = .ok (.iconst 5, 1) := by decide +kernel
theorem dX5_dragsOf_38 : decode cX5_dragsOf 38 = .ok (.if_icmp .ge 7, 3) := by decide +kernel
theorem dX5_dragsOf_41 : decode cX5_dragsOf 41 = .ok (.iconst 1, 1) := by decide +kernel
theorem dX5_dragsOf_42 : decode cX5_dragsOf 42 = .ok (.goto 4, 3) := by decide +kernel
theorem dX5_dragsOf_45 : decode cX5_dragsOf 45 = .ok (.iconst 0, 1) := by decide +kernel
theorem dX5_dragsOf_46 : decode cX5_dragsOf 46 = .ok (.ireturn, 1) := by decide +kernel
theorem dX5_dragsOf_47 : decode cX5_dragsOf 47 = .ok (.iload_n 2, 1) := by decide +kernel
theorem dX5_dragsOf_48 : decode cX5_dragsOf 48 = .ok (.bipush 10, 2) := by decide +kernel
theorem dX5_dragsOf_50 : decode cX5_dragsOf 50 = .ok (.if_icmp .ge 7, 3) := by decide +kernel
theorem dX5_dragsOf_53 : decode cX5_dragsOf 53 = .ok (.iconst 1, 1) := by decide +kernel
theorem dX5_dragsOf_54 : decode cX5_dragsOf 54 = .ok (.goto 4, 3) := by decide +kernel
theorem dX5_dragsOf_57 : decode cX5_dragsOf 57 = .ok (.iconst 0, 1) := by decide +kernel
theorem dX5_dragsOf_58 : decode cX5_dragsOf 58 = .ok (.ireturn, 1) := by decide +kernel
theorem dX5_dragsOf_59 : decode cX5_dragsOf 59 = .ok (.iconst 1, 1) := by decide +kernel
theorem dX5_dragsOf_60 : decode cX5_dragsOf 60 = .ok (.ireturn, 1) := by decide +kernel
theorem dX5_isUnder_0 : decode cX5_isUnder 0 = .ok (.iload_n 0, 1) := by decide +kernel
theorem dX5_isUnder_1 : decode cX5_isUnder 1 = .ok (.istore_n 2, 1) := by decide +kernel
theorem dX5_isUnder_2 : decode cX5_isUnder 2 = .ok (.iconst 0, 1) := by decide +kernel
theorem dX5_isUnder_3 : decode cX5_isUnder 3 = .ok (.istore_n 3, 1) := by decide +kernel
theorem dX5_isUnder_4 : decode cX5_isUnder 4 = .ok (.iload_n 3, 1) := by decide +kernel
theorem dX5_isUnder_5 : decode cX5_isUnder 5 = .ok (.getstatic 265, 3) := by decide +kernel
theorem dX5_isUnder_8 : decode cX5_isUnder 8 = .ok (.arraylength, 1) := by decide +kernel
theorem dX5_isUnder_9 : decode cX5_isUnder 9 = .ok (.if_icmp .ge 36, 3) := by decide +kernel
theorem dX5_isUnder_12 : decode cX5_isUnder 12 = .ok (.iload_n 2, 1) := by decide +kernel
theorem dX5_isUnder_13 : decode cX5_isUnder 13 = .ok (.iload_n 1, 1) := by decide +kernel
theorem dX5_isUnder_14 : decode cX5_isUnder 14 = .ok (.if_icmp .ne 5, 3) := by decide +kernel
theorem dX5_isUnder_17 : decode cX5_isUnder 17 = .ok (.iconst 1, 1) := by decide +kernel
theorem dX5_isUnder_18 : decode cX5_isUnder 18 = .ok (.ireturn, 1) := by decide +kernel
theorem dX5_isUnder_19 : decode cX5_isUnder 19 = .ok (.iload_n 2, 1) := by decide +kernel
theorem dX5_isUnder_20 : decode cX5_isUnder 20 = .ok (.ifCond .lt 11, 3) := by decide +kernel
theorem dX5_isUnder_23 : decode cX5_isUnder 23 = .ok (.iload_n 2, 1) := by decide +kernel
theorem dX5_isUnder_24 : decode cX5_isUnder 24 = .ok (.getstatic 265, 3) := by decide +kernel
theorem dX5_isUnder_27 : decode cX5_isUnder 27 = .ok (.arraylength, 1) := by decide +kernel
theorem dX5_isUnder_28 : decode cX5_isUnder 28 = .ok (.if_icmp .lt 5, 3) := by decide +kernel
theorem dX5_isUnder_31 : decode cX5_isUnder 31 = .ok (.iconst 0, 1) := by decide +kernel
theorem dX5_isUnder_32 : decode cX5_isUnder 32 = .ok (.ireturn, 1) := by decide +kernel
theorem dX5_isUnder_33 : decode cX5_isUnder 33 = .ok (.getstatic 265, 3) := by decide +kernel
theorem dX5_isUnder_36 : decode cX5_isUnder 36 = .ok (.iload_n 2, 1) := by decide +kernel
theorem dX5_isUnder_37 : decode cX5_isUnder 37 = .ok (.iaload, 1) := by decide +kernel
theorem dX5_isUnder_38 : decode cX5_isUnder 38 = .ok (.istore_n 2, 1) := by decide +kernel
theorem dX5_isUnder_39 : decode cX5_isUnder 39 = .ok (.iinc 3 1, 3) := by decide +kernel
theorem dX5_isUnder_42 : decode cX5_isUnder 42 = .ok (.goto (-38), 3) := by decide +kernel
theorem dX5_isUnder_45 : decode cX5_isUnder 45 = .ok (.iconst 0, 1) := by decide +kernel
theorem dX5_isUnder_46 : decode cX5_isUnder 46 = .ok (.ireturn, 1) := by decide +kernel
theorem dX6_in_0 : decode cX6_in 0 = .ok (.lload_n 0, 1) := by decide +kernel
theorem dX6_in_1 : decode cX6_in 1 = .ok (.lload_n 2, 1) := by decide +kernel
theorem dX6_in_2 : decode cX6_in 2 = .ok (.lcmp, 1) := by decide +kernel
theorem dX6_in_3 : decode cX6_in 3 = .ok (.ifCond .lt 14, 3) := by decide +kernel
theorem dX6_in_6 : decode cX6_in 6 = .ok (.lload_n 0, 1) := by decide +kernel
theorem dX6_in_7 : decode cX6_in 7 = .ok (.lload 4, 2) := by decide +kernel
theorem dX6_in_9 : decode cX6_in 9 = .ok (.lcmp, 1) := by decide +kernel
theorem dX6_in_10 : decode cX6_in 10 = .ok (.ifCond .gt 7, 3) := by decide +kernel
theorem dX6_in_13 : decode cX6_in 13 = .ok (.iconst 1, 1) := by decide +kernel
theorem dX6_in_14 : decode cX6_in 14 = .ok (.goto 4, 3) := by decide +kernel
theorem dX6_in_17 : decode cX6_in 17 = .ok (.iconst 0, 1) := by decide +kernel
theorem dX6_in_18 : decode cX6_in 18 = .ok (.ireturn, 1) := by decide +kernel
theorem dX6_within_0 : decode cX6_within 0 = .ok (.iload_n 0, 1) := by decide +kernel
theorem dX6_within_1 : decode cX6_within 1 = .ok (.iload_n 1, 1) := by decide +kernel
theorem dX6_within_2 : decode cX6_within 2 = .ok (.if_icmp .ge 7, 3) := by decide +kernel
theorem dX6_within_5 : decode cX6_within 5 = .ok (.iload_n 1, 1) := by decide +kernel
theorem dX6_within_6 : decode cX6_within 6 = .ok (.goto 13, 3) := by decide +kernel
theorem dX6_within_9 : decode cX6_within 9 = .ok (.iload_n 0, 1) := by decide +kernel
theorem dX6_within_10 : decode cX6_within 10 = .ok (.iload_n 2, 1) := by decide +kernel
theorem dX6_within_11 : decode cX6_within 11 = .ok (.if_icmp .le 7, 3) := by decide +kernel
theorem dX6_within_14 : decode cX6_within 14 = .ok (.iload_n 2, 1) := by decide +kernel
theorem dX6_within_15 : decode cX6_within 15 = .ok (.goto 4, 3) := by decide +kernel
theorem dX6_within_18 : decode cX6_within 18 = .ok (.iload_n 0, 1) := by decide +kernel
theorem dX6_within_19 : decode cX6_within 19 = .ok (.ireturn, 1) := by decide +kernel
theorem dX6_bitsOf_0 : decode cX6_bitsOf 0 = .ok (.iconst 0, 1) := by decide +kernel
theorem dX6_bitsOf_1 : decode cX6_bitsOf 1 = .ok (.istore_n 1, 1) := by decide +kernel
theorem dX6_bitsOf_2 : decode cX6_bitsOf 2 = .ok (.iload_n 0, 1) := by decide +kernel
theorem dX6_bitsOf_3 : decode cX6_bitsOf 3 = .ok (.istore_n 2, 1) := by decide +kernel
theorem dX6_bitsOf_4 : decode cX6_bitsOf 4 = .ok (.iload_n 2, 1) := by decide +kernel
theorem dX6_bitsOf_5 : decode cX6_bitsOf 5 = .ok (.ifCond .eq 15, 3) := by decide +kernel
theorem dX6_bitsOf_8 : decode cX6_bitsOf 8 = .ok (.iinc 1 1, 3) := by decide +kernel
theorem dX6_bitsOf_11 : decode cX6_bitsOf 11 = .ok (.iload_n 2, 1) := by decide +kernel
theorem dX6_bitsOf_12 : decode cX6_bitsOf 12 = .ok (.iload_n 2, 1) := by decide +kernel
theorem dX6_bitsOf_13 : decode cX6_bitsOf 13 = .ok (.iconst 1, 1) := by decide +kernel
theorem dX6_bitsOf_14 : decode cX6_bitsOf 14 = .ok (.isub, 1) := by decide +kernel
theorem dX6_bitsOf_15 : decode cX6_bitsOf 15 = .ok (.iand, 1) := by decide +kernel
theorem dX6_bitsOf_16 : decode cX6_bitsOf 16 = .ok (.istore_n 2, 1) := by decide +kernel
theorem dX6_bitsOf_17 : decode cX6_bitsOf 17 = .ok (.goto (-13), 3) := by decide +kernel
theorem dX6_bitsOf_20 : decode cX6_bitsOf 20 = .ok (.iload_n 1, 1) := by decide +kernel
theorem dX6_bitsOf_21 : decode cX6_bitsOf 21 = .ok (.ireturn, 1) := by decide +kernel
theorem dX6_init_0 : decode cX6_init 0 = .ok (.aload_n 0, 1) := by decide +kernel
theorem dX6_init_1 : decode cX6_init 1 = .ok (.invokespecial 7, 3) := by decide +kernel
theorem dX6_init_4 : decode cX6_init 4 = .ok (.aload_n 0, 1) := by decide +kernel
theorem dX6_init_5 : decode cX6_init 5 = .ok (.sipush 960, 3) := by decide +kernel
theorem dX6_init_8 : decode cX6_init 8 = .ok (.newarray .int, 2) := by decide +kernel
theorem dX6_init_10 : decode cX6_init 10 = .ok (.putfield 13, 3) := by decide +kernel
theorem dX6_init_13 : decode cX6_init 13 = .ok (.aload_n 0, 1) := by decide +kernel
theorem dX6_init_14 : decode cX6_init 14 = .ok (.bipush 6, 2) := by decide +kernel
theorem dX6_init_16 : decode cX6_init 16 = .ok (.newarray .int, 2) := by decide +kernel
theorem dX6_init_18 : decode cX6_init 18 = .ok (.putfield 17, 3) := by decide +kernel
theorem dX6_init_21 : decode cX6_init 21 = .ok (.aload_n 0, 1) := by decide +kernel
theorem dX6_init_22 : decode cX6_init 22 = .ok (.sipush 160, 3) := by decide +kernel
theorem dX6_init_25 : decode cX6_init 25 = .ok (.newarray .int, 2) := by decide +kernel
theorem dX6_init_27 : decode cX6_init 27 = .ok (.putfield 20, 3) := by decide +kernel
theorem dX6_init_30 : decode cX6_init 30 = .ok (.aload_n 0, 1) := by decide +kernel
theorem dX6_init_31 : decode cX6_init 31 = .ok (.bipush 12, 2) := by decide +kernel
theorem dX6_init_33 : decode cX6_init 33 = .ok (.newarray .int, 2) := by decide +kernel
theorem dX6_init_35 : decode cX6_init 35 = .ok (.putfield 23, 3) := by decide +kernel
theorem dX6_init_38 : decode cX6_init 38 = .ok (.aload_n 0, 1) := by decide +kernel
theorem dX6_init_39 : decode cX6_init 39 = .ok (.bipush 12, 2) := by decide +kernel
theorem dX6_init_41 : decode cX6_init 41 = .ok (.newarray .int, 2) := by decide +kernel
theorem dX6_init_43 : decode cX6_init 43 = .ok (.putfield 26, 3) := by decide +kernel
theorem dX6_init_46 : decode cX6_init 46 = .ok (.aload_n 0, 1) := by decide +kernel
theorem dX6_init_47 : decode cX6_init 47 = .ok (.bipush 12, 2) := by decide +kernel
theorem dX6_init_49 : decode cX6_init 49 = .ok (.newarray .int, 2) := by decide +kernel
theorem dX6_init_51 : decode cX6_init 51 = .ok (.putfield 29, 3) := by decide +kernel
theorem dX6_init_54 : decode cX6_init 54 = .ok (.aload_n 0, 1) := by decide +kernel
theorem dX6_init_55 : decode cX6_init 55 = .ok (.bipush 12, 2) := by decide +kernel
theorem dX6_init_57 : decode cX6_init 57 = .ok (.newarray .int, 2) := by decide +kernel
theorem dX6_init_59 : decode cX6_init 59 = .ok (.putfield 32, 3) := by decide +kernel
theorem dX6_init_62 : decode cX6_init 62 = .ok (.aload_n 0, 1) := by decide +kernel
theorem dX6_init_63 : decode cX6_init 63 = .ok (.iconst 3, 1) := by decide +kernel
theorem dX6_init_64 : decode cX6_init 64 = .ok (.putfield 35, 3) := by decide +kernel
theorem dX6_init_67 : decode cX6_init 67 = .ok (.aload_n 0, 1) := by decide +kernel
theorem dX6_init_68 : decode cX6_init 68 = .ok (.bipush 12, 2) := by decide +kernel
theorem dX6_init_70 : decode cX6_init 70 = .ok (.newarray .int, 2) := by decide +kernel
theorem dX6_init_72 : decode cX6_init 72 = .ok (.putfield 38, 3) := by decide +kernel
theorem dX6_init_75 : decode cX6_init 75 = .ok (.aload_n 0, 1) := by decide +kernel
theorem dX6_init_76 : decode cX6_init 76 = .ok (.bipush 12, 2) := by decide +kernel
theorem dX6_init_78 : decode cX6_init 78 = .ok (.newarray .int, 2) := by decide +kernel
theorem dX6_init_80 : decode cX6_init 80 = .ok (.putfield 41, 3) := by decide +kernel
theorem dX6_init_83 : decode cX6_init 83 = .ok (.aload_n 0, 1) := by decide +kernel
theorem dX6_init_84 : decode cX6_init 84 = .ok (.bipush 12, 2) := by decide +kernel
theorem dX6_init_86 : decode cX6_init 86 = .ok (.newarray .int, 2) := by decide +kernel
theorem dX6_init_88 : decode cX6_init 88 = .ok (.putfield 44, 3) := by decide +kernel
theorem dX6_init_91 : decode cX6_init 91 = .ok (.aload_n 0, 1) := by decide +kernel
theorem dX6_init_92 : decode cX6_init 92 = .ok (.bipush 12, 2) := by decide +kernel
theorem dX6_init_94 : decode cX6_init 94 = .ok (.newarray .int, 2) := by decide +kernel
theorem dX6_init_96 : decode cX6_init 96 = .ok (.putfield 47, 3) := by decide +kernel
theorem dX6_init_99 : decode cX6_init 99 = .ok (.aload_n 0, 1) := by decide +kernel
theorem dX6_init_100 : decode cX6_init 100 = .ok (.iconst (-1), 1) := by decide +kernel
theorem dX6_init_101 : decode cX6_init 101 = .ok (.putfield 50, 3) := by decide +kernel
theorem dX6_init_104 : decode cX6_init 104 = .ok (.aload_n 0, 1) := by decide +kernel
theorem dX6_init_105 : decode cX6_init 105 = .ok (.iconst 4, 1) := by decide +kernel
theorem dX6_init_106 : decode cX6_init 106 = .ok (.newarray .boolean, 2) := by decide +kernel
theorem dX6_init_108 : decode cX6_init 108 = .ok (.putfield 53, 3) := by decide +kernel
theorem dX6_init_111 : decode cX6_init 111 = .ok (.aload_n 0, 1) := by decide +kernel
theorem dX6_init_112 : decode cX6_init 112 = .ok (.iconst 4, 1) := by decide +kernel
theorem dX6_init_113 : decode cX6_init 113 = .ok (.newarray .int, 2) := by decide +kernel
theorem dX6_init_115 : decode cX6_init 115 = .ok (.putfield 57, 3) := by decide +kernel
theorem dX6_init_118 : decode cX6_init 118 = .ok (.aload_n 0, 1) := by decide +kernel
theorem dX6_init_119 : decode cX6_init 119 = .ok (.iconst 4, 1) := by decide +kernel
theorem dX6_init_120 : decode cX6_init 120 = .ok (.newarray .int, 2) := by decide +kernel
theorem dX6_init_122 : decode cX6_init 122 = .ok (.putfield 60, 3) := by decide +kernel
theorem dX6_init_125 : decode cX6_init 125 = .ok (.aload_n 0, 1) := by decide +kernel
theorem dX6_init_126 : decode cX6_init 126 = .ok (.sipush 160, 3) := by decide +kernel
theorem dX6_init_129 : decode cX6_init 129 = .ok (.newarray .int, 2) := by decide +kernel
theorem dX6_init_131 : decode cX6_init 131 = .ok (.putfield 63, 3) := by decide +kernel
theorem dX6_init_134 : decode cX6_init 134 = .ok (.aload_n 0, 1) := by decide +kernel
theorem dX6_init_135 : decode cX6_init 135 = .ok (.iconst 0, 1) := by decide +kernel
theorem dX6_init_136 : decode cX6_init 136 = .ok (.bipush 100, 2) := by decide +kernel
theorem dX6_init_138 : decode cX6_init 138 = .ok (.bipush 105, 2) := by decide +kernel
theorem dX6_init_140 : decode cX6_init 140 = .ok (.bipush 103, 2) := by decide +kernel
theorem dX6_init_142 : decode cX6_init 142 = .ok (.bipush 115, 2) := by decide +kernel
theorem dX6_init_144 : decode cX6_init 144 = .ok (.bipush 32, 2) := by decide +kernel
theorem dX6_init_146 : decode cX6_init 146 = .ok (.bipush 51, 2) := by decide +kernel
theorem dX6_init_148 : decode cX6_init 148 = .ok (.bipush 48, 2) := by decide +kernel
theorem dX6_init_150 : decode cX6_init 150 = .ok (.bipush 32, 2) := by decide +kernel
theorem dX6_init_152 : decode cX6_init 152 = .ok (.invokevirtual 66, 3) := by decide +kernel
theorem dX6_init_155 : decode cX6_init 155 = .ok (.aload_n 0, 1) := by decide +kernel
theorem dX6_init_156 : decode cX6_init 156 = .ok (.bipush 8, 2) := by decide +kernel
theorem dX6_init_158 : decode cX6_init 158 = .ok (.bipush 60, 2) := by decide +kernel
theorem dX6_init_160 : decode cX6_init 160 = .ok (.bipush 32, 2) := by decide +kernel
theorem dX6_init_162 : decode cX6_init 162 = .ok (.bipush 116, 2) := by decide +kernel
theorem dX6_init_164 : decode cX6_init 164 = .ok (.bipush 111, 2) := by decide +kernel
theorem dX6_init_166 : decode cX6_init 166 = .ok (.bipush 110, 2) := by decide +kernel
theorem dX6_init_168 : decode cX6_init 168 = .ok (.bipush 101, 2) := by decide +kernel
theorem dX6_init_170 : decode cX6_init 170 = .ok (.bipush 32, 2) := by decide +kernel
theorem dX6_init_172 : decode cX6_init 172 = .ok (.bipush 59, 2) := by decide +kernel
theorem dX6_init_174 : decode cX6_init 174 = .ok (.invokevirtual 66, 3) := by decide +kernel
theorem dX6_init_177 : decode cX6_init 177 = .ok (.aload_n 0, 1) := by decide +kernel
theorem dX6_init_178 : decode cX6_init 178 = .ok (.bipush 16, 2) := by decide +kernel
theorem dX6_init_180 : decode cX6_init 180 = .ok (.bipush 32, 2) := by decide +kernel
theorem dX6_init_182 : decode cX6_init 182 = .ok (.bipush 104, 2) := by decide +kernel
theorem dX6_init_184 : decode cX6_init 184 = .ok (.bipush 101, 2) := by decide +kernel
theorem dX6_init_186 : decode cX6_init 186 = .ok (.bipush 97, 2) := by decide +kernel
theorem dX6_init_188 : decode cX6_init 188 = .ok (.bipush 114, 2) := by decide +kernel
theorem dX6_init_190 : decode cX6_init 190 = .ok (.bipush 115, 2) := by decide +kernel
theorem dX6_init_192 : decode cX6_init 192 = .ok (.bipush 32, 2) := by decide +kernel
theorem dX6_init_194 : decode cX6_init 194 = .ok (.bipush 49, 2) := by decide +kernel
theorem dX6_init_196 : decode cX6_init 196 = .ok (.invokevirtual 66, 3) := by decide +kernel
theorem dX6_init_199 : decode cX6_init 199 = .ok (.aload_n 0, 1) := by decide +kernel
theorem dX6_init_200 : decode cX6_init 200 = .ok (.bipush 24, 2) := by decide +kernel
theorem dX6_init_202 : decode cX6_init 202 = .ok (.bipush 48, 2) := by decide +kernel
theorem dX6_init_204 : decode cX6_init 204 = .ok (.bipush 32, 2) := by decide +kernel
theorem dX6_init_206 : decode cX6_init 206 = .ok (.bipush 59, 2) := by decide +kernel
theorem dX6_init_208 : decode cX6_init 208 = .ok (.bipush 32, 2) := by decide +kernel
theorem dX6_init_210 : decode cX6_init 210 = .ok (.bipush 119, 2) := by decide +kernel
theorem dX6_init_212 : decode cX6_init 212 = .ok (.bipush 111, 2) := by decide +kernel
theorem dX6_init_214 : decode cX6_init 214 = .ok (.bipush 114, 2) := by decide +kernel
theorem dX6_init_216 : decode cX6_init 216 = .ok (.bipush 116, 2) := by decide +kernel
theorem dX6_init_218 : decode cX6_init 218 = .ok (.invokevirtual 66, 3) := by decide +kernel
theorem dX6_init_221 : decode cX6_init 221 = .ok (.aload_n 0, 1) := by decide +kernel
theorem dX6_init_222 : decode cX6_init 222 = .ok (.bipush 32, 2) := by decide +kernel
theorem dX6_init_224 : decode cX6_init 224 = .ok (.bipush 104, 2) := by decide +kernel
theorem dX6_init_226 : decode cX6_init 226 = .ok (.bipush 32, 2) := by decide +kernel
theorem dX6_init_228 : decode cX6_init 228 = .ok (.bipush 116, 2) := by decide +kernel
theorem dX6_init_230 : decode cX6_init 230 = .ok (.bipush 111, 2) := by decide +kernel
theorem dX6_init_232 : decode cX6_init 232 = .ok (.bipush 110, 2) := by decide +kernel
theorem dX6_init_234 : decode cX6_init 234 = .ok (.bipush 101, 2) := by decide +kernel
theorem dX6_init_236 : decode cX6_init 236 = .ok (.bipush 32, 2) := by decide +kernel
theorem dX6_init_238 : decode cX6_init 238 = .ok (.bipush 45, 2) := by decide +kernel
theorem dX6_init_240 : decode cX6_init 240 = .ok (.invokevirtual 66, 3) := by decide +kernel
theorem dX6_init_243 : decode cX6_init 243 = .ok (.aload_n 0, 1) := by decide +kernel
theorem dX6_init_244 : decode cX6_init 244 = .ok (.bipush 40, 2) := by decide +kernel
theorem dX6_init_246 : decode cX6_init 246 = .ok (.bipush 32, 2) := by decide +kernel
theorem dX6_init_248 : decode cX6_init 248 = .ok (.bipush 49, 2) := by decide +kernel
theorem dX6_init_250 : decode cX6_init 250 = .ok (.bipush 48, 2) := by decide +kernel
theorem dX6_init_252 : decode cX6_init 252 = .ok (.bipush 32, 2) := by decide +kernel
theorem dX6_init_254 : decode cX6_init 254 = .ok (.bipush 59, 2) := by decide +kernel
theorem dX6_init_256 : decode cX6_init 256 = .ok (.bipush 32, 2) := by decide +kernel
theorem dX6_init_258 : decode cX6_init 258 = .ok (.bipush 32, 2) := by decide +kernel
theorem dX6_init_260 : decode cX6_init 260 = .ok (.bipush 32, 2) := by decide +kernel
theorem dX6_init_262 : decode cX6_init 262 = .ok (.invokevirtual 66, 3) := by decide +kernel
theorem dX6_init_265 : decode cX6_init 265 = .ok (.aload_n 0, 1) := by decide +kernel
theorem dX6_init_266 : decode cX6_init 266 = .ok (.getfield 17, 3) := by decide +kernel
theorem dX6_init_269 : decode cX6_init 269 = .ok (.iconst 0, 1) := by decide +kernel
theorem dX6_init_270 : decode cX6_init 270 = .ok (.bipush 48, 2) := by decide +kernel
theorem dX6_init_272 : decode cX6_init 272 = .ok (.iastore, 1) := by decide +kernel
theorem dX6_init_273 : decode cX6_init 273 = .ok (.aload_n 0, 1) := by decide +kernel
theorem dX6_init_274 : decode cX6_init 274 = .ok (.iconst 1, 1) := by decide +kernel
theorem dX6_init_275 : decode cX6_init 275 = .ok (.putfield 70, 3) := by decide +kernel
theorem dX6_init_278 : decode cX6_init 278 = .ok (.return_, 1) := by decide +kernel
theorem dX6_spell_0 : decode cX6_spell 0 = .ok (.aload_n 0, 1) := by decide +kernel
theorem dX6_spell_1 : decode cX6_spell 1 = .ok (.getfield 13, 3) := by decide +kernel
theorem dX6_spell_4 : decode cX6_spell 4 = .ok (.iload_n 1, 1) := by decide +kernel
theorem dX6_spell_5 : decode cX6_spell 5 = .ok (.iload_n 2, 1) := by decide +kernel
theorem dX6_spell_6 : decode cX6_spell 6 = .ok (.iastore, 1) := by decide +kernel
theorem dX6_spell_7 : decode cX6_spell 7 = .ok (.aload_n 0, 1) := by decide +kernel
theorem dX6_spell_8 : decode cX6_spell 8 = .ok (.getfield 13, 3) := by decide +kernel
theorem dX6_spell_11 : decode cX6_spell 11 = .ok (.iload_n 1, 1) := by decide +kernel
theorem dX6_spell_12 : decode cX6_spell 12 = .ok (.iconst 1, 1) := by decide +kernel
theorem dX6_spell_13 : decode cX6_spell 13 = .ok (.iadd, 1) := by decide +kernel
theorem dX6_spell_14 : decode cX6_spell 14 = .ok (.iload_n 3, 1) := by decide +kernel
theorem dX6_spell_15 : decode cX6_spell 15 = .ok (.iastore, 1) := by decide +kernel
theorem dX6_spell_16 : decode cX6_spell 16 = .ok (.aload_n 0, 1) := by decide +kernel
theorem dX6_spell_17 : decode cX6_spell 17 = .ok (.getfield 13, 3) := by decide +kernel
theorem dX6_spell_20 : decode cX6_spell 20 = .ok (.iload_n 1, 1) := by decide +kernel
theorem dX6_spell_21 : decode cX6_spell 21 = .ok (.iconst 2, 1) := by decide +kernel
theorem dX6_spell_22 : decode cX6_spell 22 = .ok (.iadd, 1) := by decide +kernel
theorem dX6_spell_23 : decode cX6_spell 23 = .ok (.iload 4, 2) := by decide +kernel
theorem dX6_spell_25 : decode cX6_spell 25 = .ok (.iastore, 1) := by decide +kernel
theorem dX6_spell_26 : decode cX6_spell 26 = .ok (.aload_n 0, 1) := by decide +kernel
theorem dX6_spell_27 : decode cX6_spell 27 = .ok (.getfield 13, 3) := by decide +kernel
theorem dX6_spell_30 : decode cX6_spell 30 = .ok (.iload_n 1, 1) := by decide +kernel
theorem dX6_spell_31 : decode cX6_spell 31 = .ok (.iconst 3, 1) := by decide +kernel
theorem dX6_spell_32 : decode cX6_spell 32 = .ok (.iadd, 1) := by decide +kernel
theorem dX6_spell_33 : decode cX6_spell 33 = .ok (.iload 5, 2) := by decide +kernel
theorem dX6_spell_35 : decode cX6_spell 35 = .ok (.iastore, 1) := by decide +kernel
theorem dX6_spell_36 : decode cX6_spell 36 = .ok (.aload_n 0, 1) := by decide +kernel
theorem dX6_spell_37 : decode cX6_spell 37 = .ok (.getfield 13, 3) := by decide +kernel
theorem dX6_spell_40 : decode cX6_spell 40 = .ok (.iload_n 1, 1) := by decide +kernel
theorem dX6_spell_41 : decode cX6_spell 41 = .ok (.iconst 4, 1) := by decide +kernel
theorem dX6_spell_42 : decode cX6_spell 42 = .ok (.iadd, 1) := by decide +kernel
theorem dX6_spell_43 : decode cX6_spell 43 = .ok (.iload 6, 2) := by decide +kernel
theorem dX6_spell_45 : decode cX6_spell 45 = .ok (.iastore, 1) := by decide +kernel
theorem dX6_spell_46 : decode cX6_spell 46 = .ok (.aload_n 0, 1) := by decide +kernel
theorem dX6_spell_47 : decode cX6_spell 47 = .ok (.getfield 13, 3) := by decide +kernel
theorem dX6_spell_50 : decode cX6_spell 50 = .ok (.iload_n 1, 1) := by decide +kernel
theorem dX6_spell_51 : decode cX6_spell 51 = .ok (.iconst 5, 1) := by decide +kernel
theorem dX6_spell_52 : decode cX6_spell 52 = .ok (.iadd, 1) := by decide +kernel
theorem dX6_spell_53 : decode cX6_spell 53 = .ok (.iload 7, 2) := by decide +kernel
theorem dX6_spell_55 : decode cX6_spell 55 = .ok (.iastore, 1) := by decide +kernel
theorem dX6_spell_56 : decode cX6_spell 56 = .ok (.aload_n 0, 1) := by decide +kernel
theorem dX6_spell_57 : decode cX6_spell 57 = .ok (.getfield 13, 3) := by decide +kernel
theorem dX6_spell_60 : decode cX6_spell 60 = .ok (.iload_n 1, 1) := by decide +kernel
theorem dX6_spell_61 : decode cX6_spell 61 = .ok (.bipush 6, 2) := by decide +kernel
theorem dX6_spell_63 : decode cX6_spell 63 = .ok (.iadd, 1) := by decide +kernel
theorem dX6_spell_64 : decode cX6_spell 64 = .ok (.iload 8, 2) := by decide +kernel
theorem dX6_spell_66 : decode cX6_spell 66 = .ok (.iastore, 1) := by decide +kernel
theorem dX6_spell_67 : decode cX6_spell 67 = .ok (.aload_n 0, 1) := by decide +kernel
theorem dX6_spell_68 : decode cX6_spell 68 = .ok (.getfield 13, 3) := by decide +kernel
theorem dX6_spell_71 : decode cX6_spell 71 = .ok (.iload_n 1, 1) := by decide +kernel
theorem dX6_spell_72 : decode cX6_spell 72 = .ok (.bipush 7, 2) := by decide +kernel
theorem dX6_spell_74 : decode cX6_spell 74 = .ok (.iadd, 1) := by decide +kernel
theorem dX6_spell_75 : decode cX6_spell 75 = .ok (.iload 9, 2) := by decide +kernel
theorem dX6_spell_77 : decode cX6_spell 77 = .ok (.iastore, 1) := by decide +kernel
theorem dX6_spell_78 : decode cX6_spell 78 = .ok (.return_, 1) := by decide +kernel
theorem dX6_isFind_0 : decode cX6_isFind 0 = .ok (.iload_n 1, 1) := by decide +kernel
theorem dX6_isFind_1 : decode cX6_isFind 1 = .ok (.i2l, 1) := by decide +kernel
theorem dX6_isFind_2 : decode cX6_isFind 2 = .ok (.lconst 0, 1) := by decide +kernel
theorem dX6_isFind_3 : decode cX6_isFind 3 = .ok (.aload_n 0, 1) := by decide +kernel
theorem dX6_isFind_4 : decode cX6_isFind 4 = .ok (.getfield 73, 3) := by decide +kernel
theorem dX6_isFind_7 : decode cX6_isFind 7 = .ok (.iconst 1, 1) := by decide +kernel
theorem dX6_isFind_8 : decode cX6_isFind 8 = .ok (.isub, 1) := by decide +kernel
theorem dX6_isFind_9 : decode cX6_isFind 9 = .ok (.i2l, 1) := by decide +kernel
theorem dX6_isFind_10 : decode cX6_isFind 10 = .ok (.invokestatic 76, 3) := by decide +kernel
theorem dX6_isFind_13 : decode cX6_isFind 13 = .ok (.ireturn, 1) := by decide +kernel
theorem dX6_lies_0 : decode cX6_lies 0 = .ok (.aload_n 0, 1) := by decide +kernel
theorem dX6_lies_1 : decode cX6_lies 1 = .ok (.getfield 80, 3) := by decide +kernel
theorem dX6_lies_4 : decode cX6_lies 4 = .ok (.iload_n 1, 1) := by decide +kernel
theorem dX6_lies_5 : decode cX6_lies 5 = .ok (.ishr, 1) := by decide +kernel
theorem dX6_lies_6 : decode cX6_lies 6 = .ok (.iconst 1, 1) := by decide +kernel
theorem dX6_lies_7 : decode cX6_lies 7 = .ok (.iand, 1) := by decide +kernel
theorem dX6_lies_8 : decode cX6_lies 8 = .ok (.ifCond .ne 7, 3) := by decide +kernel
theorem dX6_lies_11 : decode cX6_lies 11 = .ok (.iconst 1, 1) := by decide +kernel
theorem dX6_lies_12 : decode cX6_lies 12 = .ok (.goto 4, 3) := by decide +kernel
theorem dX6_lies_15 : decode cX6_lies 15 = .ok (.iconst 0, 1) := by decide +kernel
theorem dX6_lies_16 : decode cX6_lies 16 = .ok (.ireturn, 1) := by decide +kernel
theorem dX6_isCell_0 : decode cX6_isCell 0 = .ok (.iload_n 0, 1) := by decide +kernel
theorem dX6_isCell_1 : decode cX6_isCell 1 = .ok (.i2l, 1) := by decide +kernel
theorem dX6_isCell_2 : decode cX6_isCell 2 = .ok (.lconst 0, 1) := by decide +kernel
theorem dX6_isCell_3 : decode cX6_isCell 3 = .ok (.ldc2_w 83, 3) := by decide +kernel
theorem dX6_isCell_6 : decode cX6_isCell 6 = .ok (.invokestatic 76, 3) := by decide +kernel
theorem dX6_isCell_9 : decode cX6_isCell 9 = .ok (.ireturn, 1) := by decide +kernel
theorem dX6_find_0 : decode cX6_find 0 = .ok (.iload_n 1, 1) := by decide +kernel
theorem dX6_find_1 : decode cX6_find 1 = .ok (.i2l, 1) := by decide +kernel
theorem dX6_find_2 : decode cX6_find 2 = .ok (.lconst 0, 1) := by decide +kernel
theorem dX6_find_3 : decode cX6_find 3 = .ok (.ldc2_w 85, 3) := by decide +kernel
theorem dX6_find_6 : decode cX6_find 6 = .ok (.invokestatic 76, 3) := by decide +kernel
theorem dX6_find_9 : decode cX6_find 9 = .ok (.ifCond .eq 29, 3) := by decide +kernel
theorem dX6_find_12 : decode cX6_find 12 = .ok (.iload_n 2, 1) := by decide +kernel
theorem dX6_find_13 : decode cX6_find 13 = .ok (.invokestatic 87, 3) := by decide +kernel
theorem dX6_find_16 : decode cX6_find 16 = .ok (.ifCond .eq 22, 3) := by decide +kernel
theorem dX6_find_19 : decode cX6_find 19 = .ok (.iload_n 3, 1) := by decide +kernel
theorem dX6_find_20 : decode cX6_find 20 = .ok (.i2l, 1) := by decide +kernel
theorem dX6_find_21 : decode cX6_find 21 = .ok (.lconst 1, 1) := by decide +kernel
theorem dX6_find_22 : decode cX6_find 22 = .ok (.ldc2_w 91, 3) := by decide +kernel
theorem dX6_find_25 : decode cX6_find 25 = .ok (.invokestatic 76, 3) := by decide +kernel
theorem dX6_find_28 : decode cX6_find 28 = .ok (.ifCond .eq 10, 3) := by decide +kernel
theorem dX6_find_31 : decode cX6_find 31 = .ok (.iload_n 3, 1) := by decide +kernel
theorem dX6_find_32 : decode cX6_find 32 = .ok (.bipush 10, 2) := by decide +kernel
theorem dX6_find_34 : decode cX6_find 34 = .ok (.irem, 1) := by decide +kernel
theorem dX6_find_35 : decode cX6_find 35 = .ok (.ifCond .ne 6, 3) := by decide +kernel
theorem dX6_find_38 : decode cX6_find 38 = .ok (.bipush (-2), 2) := by decide +kernel
theorem dX6_find_40 : decode cX6_find 40 = .ok (.ireturn, 1) := by decide +kernel
theorem dX6_find_41 : decode cX6_find 41 = .ok (.aload_n 0, 1) := by decide +kernel
theorem dX6_find_42 : decode cX6_find 42 = .ok (.getfield 73, 3) := by decide +kernel
theorem dX6_find_45 : decode cX6_find 45 = .ok (.bipush 12, 2) := by decide +kernel
theorem dX6_find_47 : decode cX6_find 47 = .ok (.if_icmp .ne 6, 3) := by decide +kernel
theorem dX6_find_50 : decode cX6_find 50 = .ok (.bipush (-4), 2) := by decide +kernel
theorem dX6_find_52 : decode cX6_find 52 = .ok (.ireturn, 1) := by decide +kernel
theorem dX6_find_53 : decode cX6_find 53 = .ok (.aload_n 0, 1) := by decide +kernel
theorem dX6_find_54 : decode cX6_find 54 = .ok (.getfield 23, 3) := by decide +kernel
theorem dX6_find_57 : decode cX6_find 57 = .ok (.aload_n 0, 1) := by decide +kernel
theorem dX6_find_58 : decode cX6_find 58 = .ok (.getfield 73, 3) := by decide +kernel
theorem dX6_find_61 : decode cX6_find 61 = .ok (.iload_n 1, 1) := by decide +kernel
