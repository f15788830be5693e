theorem dX6_found_34 : decode cX6_found 34 = .ok (.iload_n 2, 1) := by decide +kernel
theorem dX6_found_35 : decode cX6_found 35 = .ok (.ifCond .ne 10, 3) := by decide +kernel
theorem dX6_found_38 : decode cX6_found 38 = .ok (.aload_n 0, 1) := by decide +kernel
theorem dX6_found_39 : decode cX6_found 39 = .ok (.getfield 260, 3) := by decide +kernel
theorem dX6_found_42 : decode cX6_found 42 = .ok (.goto 7, 3) := by decide +kernel
theorem dX6_found_45 : decode cX6_found 45 = .ok (.aload_n 0, 1) := by decide +kernel
theorem dX6_found_46 : decode cX6_found 46 = .ok (.getfield 263, 3) := by decide +kernel
theorem dX6_found_49 : decode cX6_found 49 = .ok (.istore_n 3, 1) := by decide +kernel
theorem dX6_found_50 : decode cX6_found 50 = .ok (.aload_n 0, 1) := by decide +kernel
theorem dX6_found_51 : decode cX6_found 51 = .ok (.invokevirtual 299, 3) := by decide +kernel
theorem dX6_found_54 : decode cX6_found 54 = .ok (.iload_n 3, 1) := by decide +kernel
theorem dX6_found_55 : decode cX6_found 55 = .ok (.ireturn, 1) := by decide +kernel
theorem dX6_years_0 : decode cX6_years 0 = .ok (.iload_n 1, 1) := by decide +kernel
theorem dX6_years_1 : decode cX6_years 1 = .ok (.i2l, 1) := by decide +kernel
theorem dX6_years_2 : decode cX6_years 2 = .ok (.lconst 0, 1) := by decide +kernel
theorem dX6_years_3 : decode cX6_years 3 = .ok (.ldc2_w 98, 3) := by decide +kernel
theorem dX6_years_6 : decode cX6_years 6 = .ok (.invokestatic 76, 3) := by decide +kernel
theorem dX6_years_9 : decode cX6_years 9 = .ok (.ifCond .ne 6, 3) := by decide +kernel
theorem dX6_years_12 : decode cX6_years 12 = .ok (.bipush (-2), 2) := by decide +kernel
theorem dX6_years_14 : decode cX6_years 14 = .ok (.ireturn, 1) := by decide +kernel
theorem dX6_years_15 : decode cX6_years 15 = .ok (.aload_n 0, 1) := by decide +kernel
theorem dX6_years_16 : decode cX6_years 16 = .ok (.invokevirtual 293, 3) := by decide +kernel
theorem dX6_years_19 : decode cX6_years 19 = .ok (.iconst 0, 1) := by decide +kernel
theorem dX6_years_20 : decode cX6_years 20 = .ok (.istore_n 2, 1) := by decide +kernel
theorem dX6_years_21 : decode cX6_years 21 = .ok (.iload_n 2, 1) := by decide +kernel
theorem dX6_years_22 : decode cX6_years 22 = .ok (.iload_n 1, 1) := by decide +kernel
theorem dX6_years_23 : decode cX6_years 23 = .ok (.if_icmp .ge 19, 3) := by decide +kernel
theorem dX6_years_26 : decode cX6_years 26 = .ok (.aload_n 0, 1) := by decide +kernel
theorem dX6_years_27 : decode cX6_years 27 = .ok (.bipush 63, 2) := by decide +kernel
theorem dX6_years_29 : decode cX6_years 29 = .ok (.invokevirtual 296, 3) := by decide +kernel
theorem dX6_years_32 : decode cX6_years 32 = .ok (.aload_n 0, 1) := by decide +kernel
theorem dX6_years_33 : decode cX6_years 33 = .ok (.invokevirtual 279, 3) := by decide +kernel
theorem dX6_years_36 : decode cX6_years 36 = .ok (.iinc 2 1, 3) := by decide +kernel
theorem dX6_years_39 : decode cX6_years 39 = .ok (.goto (-18), 3) := by decide +kernel
theorem dX6_years_42 : decode cX6_years 42 = .ok (.aload_n 0, 1) := by decide +kernel
theorem dX6_years_43 : decode cX6_years 43 = .ok (.getfield 260, 3) := by decide +kernel
theorem dX6_years_46 : decode cX6_years 46 = .ok (.istore_n 2, 1) := by decide +kernel
theorem dX6_years_47 : decode cX6_years 47 = .ok (.aload_n 0, 1) := by decide +kernel
theorem dX6_years_48 : decode cX6_years 48 = .ok (.invokevirtual 299, 3) := by decide +kernel
theorem dX6_years_51 : decode cX6_years 51 = .ok (.iload_n 2, 1) := by decide +kernel
theorem dX6_years_52 : decode cX6_years 52 = .ok (.ireturn, 1) := by decide +kernel
theorem dX6_soonest_0 : decode cX6_soonest 0 = .ok (.iload_n 1, 1) := by decide +kernel
theorem dX6_soonest_1 : decode cX6_soonest 1 = .ok (.i2l, 1) := by decide +kernel
theorem dX6_soonest_2 : decode cX6_soonest 2 = .ok (.lconst 0, 1) := by decide +kernel
theorem dX6_soonest_3 : decode cX6_soonest 3 = .ok (.lconst 1, 1) := by decide +kernel
theorem dX6_soonest_4 : decode cX6_soonest 4 = .ok (.invokestatic 76, 3) := by decide +kernel
theorem dX6_soonest_7 : decode cX6_soonest 7 = .ok (.ifCond .ne 6, 3) := by decide +kernel
theorem dX6_soonest_10 : decode cX6_soonest 10 = .ok (.bipush (-2), 2) := by decide +kernel
theorem dX6_soonest_12 : decode cX6_soonest 12 = .ok (.ireturn, 1) := by decide +kernel
theorem dX6_soonest_13 : decode cX6_soonest 13 = .ok (.aload_n 0, 1) := by decide +kernel
theorem dX6_soonest_14 : decode cX6_soonest 14 = .ok (.invokevirtual 293, 3) := by decide +kernel
theorem dX6_soonest_17 : decode cX6_soonest 17 = .ok (.iconst 0, 1) := by decide +kernel
theorem dX6_soonest_18 : decode cX6_soonest 18 = .ok (.istore_n 2, 1) := by decide +kernel
theorem dX6_soonest_19 : decode cX6_soonest 19 = .ok (.iconst (-1), 1) := by decide +kernel
theorem dX6_soonest_20 : decode cX6_soonest 20 = .ok (.istore_n 3, 1) := by decide +kernel
theorem dX6_soonest_21 : decode cX6_soonest 21 = .ok (.iconst 0, 1) := by decide +kernel
theorem dX6_soonest_22 : decode cX6_soonest 22 = .ok (.istore 4, 2) := by decide +kernel
theorem dX6_soonest_24 : decode cX6_soonest 24 = .ok (.iload 4, 2) := by decide +kernel
theorem dX6_soonest_26 : decode cX6_soonest 26 = .ok (.bipush 20, 2) := by decide +kernel
theorem dX6_soonest_28 : decode cX6_soonest 28 = .ok (.if_icmp .gt 57, 3) := by decide +kernel
theorem dX6_soonest_31 : decode cX6_soonest 31 = .ok (.iconst 0, 1) := by decide +kernel
theorem dX6_soonest_32 : decode cX6_soonest 32 = .ok (.istore 5, 2) := by decide +kernel
theorem dX6_soonest_34 : decode cX6_soonest 34 = .ok (.iload 5, 2) := by decide +kernel
theorem dX6_soonest_36 : decode cX6_soonest 36 = .ok (.iload 4, 2) := by decide +kernel
theorem dX6_soonest_38 : decode cX6_soonest 38 = .ok (.if_icmp .ge 13, 3) := by decide +kernel
theorem dX6_soonest_41 : decode cX6_soonest 41 = .ok (.aload_n 0, 1) := by decide +kernel
theorem dX6_soonest_42 : decode cX6_soonest 42 = .ok (.invokevirtual 279, 3) := by decide +kernel
theorem dX6_soonest_45 : decode cX6_soonest 45 = .ok (.iinc 5 1, 3) := by decide +kernel
theorem dX6_soonest_48 : decode cX6_soonest 48 = .ok (.goto (-14), 3) := by decide +kernel
theorem dX6_soonest_51 : decode cX6_soonest 51 = .ok (.aload_n 0, 1) := by decide +kernel
theorem dX6_soonest_52 : decode cX6_soonest 52 = .ok (.bipush 63, 2) := by decide +kernel
theorem dX6_soonest_54 : decode cX6_soonest 54 = .ok (.invokevirtual 296, 3) := by decide +kernel
theorem dX6_soonest_57 : decode cX6_soonest 57 = .ok (.aload_n 0, 1) := by decide +kernel
theorem dX6_soonest_58 : decode cX6_soonest 58 = .ok (.getfield 260, 3) := by decide +kernel
theorem dX6_soonest_61 : decode cX6_soonest 61 = .ok (.istore 5, 2) := by decide +kernel
theorem dX6_soonest_63 : decode cX6_soonest 63 = .ok (.aload_n 0, 1) := by decide +kernel
theorem dX6_soonest_64 : decode cX6_soonest 64 = .ok (.invokevirtual 299, 3) := by decide +kernel
theorem dX6_soonest_67 : decode cX6_soonest 67 = .ok (.iload 5, 2) := by decide +kernel
theorem dX6_soonest_69 : decode cX6_soonest 69 = .ok (.iload_n 3, 1) := by decide +kernel
theorem dX6_soonest_70 : decode cX6_soonest 70 = .ok (.if_icmp .le 9, 3) := by decide +kernel
theorem dX6_soonest_73 : decode cX6_soonest 73 = .ok (.iload 4, 2) := by decide +kernel
theorem dX6_soonest_75 : decode cX6_soonest 75 = .ok (.istore_n 2, 1) := by decide +kernel
theorem dX6_soonest_76 : decode cX6_soonest 76 = .ok (.iload 5, 2) := by decide +kernel
theorem dX6_soonest_78 : decode cX6_soonest 78 = .ok (.istore_n 3, 1) := by decide +kernel
theorem dX6_soonest_79 : decode cX6_soonest 79 = .ok (.iinc 4 1, 3) := by decide +kernel
theorem dX6_soonest_82 : decode cX6_soonest 82 = .ok (.goto (-58), 3) := by decide +kernel
theorem dX6_soonest_85 : decode cX6_soonest 85 = .ok (.iload_n 1, 1) := by decide +kernel
theorem dX6_soonest_86 : decode cX6_soonest 86 = .ok (.ifCond .ne 7, 3) := by decide +kernel
theorem dX6_soonest_89 : decode cX6_soonest 89 = .ok (.iload_n 2, 1) := by decide +kernel
theorem dX6_soonest_90 : decode cX6_soonest 90 = .ok (.goto 4, 3) := by decide +kernel
theorem dX6_soonest_93 : decode cX6_soonest 93 = .ok (.iload_n 3, 1) := by decide +kernel
theorem dX6_soonest_94 : decode cX6_soonest 94 = .ok (.ireturn, 1) := by decide +kernel
theorem dX6_strips_0 : decode cX6_strips 0 = .ok (.iload_n 1, 1) := by decide +kernel
theorem dX6_strips_1 : decode cX6_strips 1 = .ok (.i2l, 1) := by decide +kernel
theorem dX6_strips_2 : decode cX6_strips 2 = .ok (.lconst 0, 1) := by decide +kernel
theorem dX6_strips_3 : decode cX6_strips 3 = .ok (.ldc2_w 302, 3) := by decide +kernel
theorem dX6_strips_6 : decode cX6_strips 6 = .ok (.invokestatic 76, 3) := by decide +kernel
theorem dX6_strips_9 : decode cX6_strips 9 = .ok (.ifCond .eq 13, 3) := by decide +kernel
theorem dX6_strips_12 : decode cX6_strips 12 = .ok (.iload_n 2, 1) := by decide +kernel
theorem dX6_strips_13 : decode cX6_strips 13 = .ok (.i2l, 1) := by decide +kernel
theorem dX6_strips_14 : decode cX6_strips 14 = .ok (.lconst 0, 1) := by decide +kernel
theorem dX6_strips_15 : decode cX6_strips 15 = .ok (.lconst 1, 1) := by decide +kernel
theorem dX6_strips_16 : decode cX6_strips 16 = .ok (.invokestatic 76, 3) := by decide +kernel
theorem dX6_strips_19 : decode cX6_strips 19 = .ok (.ifCond .ne 6, 3) := by decide +kernel
theorem dX6_strips_22 : decode cX6_strips 22 = .ok (.bipush (-2), 2) := by decide +kernel
theorem dX6_strips_24 : decode cX6_strips 24 = .ok (.ireturn, 1) := by decide +kernel
theorem dX6_strips_25 : decode cX6_strips 25 = .ok (.aload_n 0, 1) := by decide +kernel
theorem dX6_strips_26 : decode cX6_strips 26 = .ok (.invokevirtual 293, 3) := by decide +kernel
theorem dX6_strips_29 : decode cX6_strips 29 = .ok (.iconst 0, 1) := by decide +kernel
theorem dX6_strips_30 : decode cX6_strips 30 = .ok (.istore_n 3, 1) := by decide +kernel
theorem dX6_strips_31 : decode cX6_strips 31 = .ok (.iconst (-1), 1) := by decide +kernel
theorem dX6_strips_32 : decode cX6_strips 32 = .ok (.istore 4, 2) := by decide +kernel
theorem dX6_strips_34 : decode cX6_strips 34 = .ok (.iconst 0, 1) := by decide +kernel
theorem dX6_strips_35 : decode cX6_strips 35 = .ok (.istore 5, 2) := by decide +kernel
theorem dX6_strips_37 : decode cX6_strips 37 = .ok (.iload 5, 2) := by decide +kernel
theorem dX6_strips_39 : decode cX6_strips 39 = .ok (.bipush 63, 2) := by decide +kernel
theorem dX6_strips_41 : decode cX6_strips 41 = .ok (.if_icmp .gt 48, 3) := by decide +kernel
theorem dX6_strips_44 : decode cX6_strips 44 = .ok (.iload 5, 2) := by decide +kernel
theorem dX6_strips_46 : decode cX6_strips 46 = .ok (.invokestatic 304, 3) := by decide +kernel
theorem dX6_strips_49 : decode cX6_strips 49 = .ok (.iload_n 1, 1) := by decide +kernel
theorem dX6_strips_50 : decode cX6_strips 50 = .ok (.if_icmp .ne 33, 3) := by decide +kernel
theorem dX6_strips_53 : decode cX6_strips 53 = .ok (.aload_n 0, 1) := by decide +kernel
theorem dX6_strips_54 : decode cX6_strips 54 = .ok (.iload 5, 2) := by decide +kernel
theorem dX6_strips_56 : decode cX6_strips 56 = .ok (.invokevirtual 296, 3) := by decide +kernel
theorem dX6_strips_59 : decode cX6_strips 59 = .ok (.aload_n 0, 1) := by decide +kernel
theorem dX6_strips_60 : decode cX6_strips 60 = .ok (.getfield 263, 3) := by decide +kernel
theorem dX6_strips_63 : decode cX6_strips 63 = .ok (.istore 6, 2) := by decide +kernel
theorem dX6_strips_65 : decode cX6_strips 65 = .ok (.aload_n 0, 1) := by decide +kernel
theorem dX6_strips_66 : decode cX6_strips 66 = .ok (.invokevirtual 299, 3) := by decide +kernel
theorem dX6_strips_69 : decode cX6_strips 69 = .ok (.iload 6, 2) := by decide +kernel
theorem dX6_strips_71 : decode cX6_strips 71 = .ok (.iload 4, 2) := by decide +kernel
theorem dX6_strips_73 : decode cX6_strips 73 = .ok (.if_icmp .le 10, 3) := by decide +kernel
theorem dX6_strips_76 : decode cX6_strips 76 = .ok (.iload 5, 2) := by decide +kernel
theorem dX6_strips_78 : decode cX6_strips 78 = .ok (.istore_n 3, 1) := by decide +kernel
theorem dX6_strips_79 : decode cX6_strips 79 = .ok (.iload 6, 2) := by decide +kernel
theorem dX6_strips_81 : decode cX6_strips 81 = .ok (.istore 4, 2) := by decide +kernel
theorem dX6_strips_83 : decode cX6_strips 83 = .ok (.iinc 5 1, 3) := by decide +kernel
theorem dX6_strips_86 : decode cX6_strips 86 = .ok (.goto (-49), 3) := by decide +kernel
theorem dX6_strips_89 : decode cX6_strips 89 = .ok (.iload_n 2, 1) := by decide +kernel
theorem dX6_strips_90 : decode cX6_strips 90 = .ok (.ifCond .ne 7, 3) := by decide +kernel
theorem dX6_strips_93 : decode cX6_strips 93 = .ok (.iload_n 3, 1) := by decide +kernel
theorem dX6_strips_94 : decode cX6_strips 94 = .ok (.goto 5, 3) := by decide +kernel
theorem dX6_strips_97 : decode cX6_strips 97 = .ok (.iload 4, 2) := by decide +kernel
theorem dX6_strips_99 : decode cX6_strips 99 = .ok (.ireturn, 1) := by decide +kernel
theorem dX6_better_0 : decode cX6_better 0 = .ok (.aload_n 0, 1) := by decide +kernel
theorem dX6_better_1 : decode cX6_better 1 = .ok (.invokevirtual 293, 3) := by decide +kernel
theorem dX6_better_4 : decode cX6_better 4 = .ok (.aload_n 0, 1) := by decide +kernel
theorem dX6_better_5 : decode cX6_better 5 = .ok (.bipush 63, 2) := by decide +kernel
theorem dX6_better_7 : decode cX6_better 7 = .ok (.invokevirtual 296, 3) := by decide +kernel
theorem dX6_better_10 : decode cX6_better 10 = .ok (.aload_n 0, 1) := by decide +kernel
theorem dX6_better_11 : decode cX6_better 11 = .ok (.getfield 260, 3) := by decide +kernel
theorem dX6_better_14 : decode cX6_better 14 = .ok (.istore_n 1, 1) := by decide +kernel
theorem dX6_better_15 : decode cX6_better 15 = .ok (.aload_n 0, 1) := by decide +kernel
theorem dX6_better_16 : decode cX6_better 16 = .ok (.invokevirtual 299, 3) := by decide +kernel
theorem dX6_better_19 : decode cX6_better 19 = .ok (.aload_n 0, 1) := by decide +kernel
theorem dX6_better_20 : decode cX6_better 20 = .ok (.aload_n 0, 1) := by decide +kernel
theorem dX6_better_21 : decode cX6_better 21 = .ok (.getfield 35, 3) := by decide +kernel
theorem dX6_better_24 : decode cX6_better 24 = .ok (.bipush 9, 2) := by decide +kernel
theorem dX6_better_26 : decode cX6_better 26 = .ok (.if_icmp .ge 12, 3) := by decide +kernel
theorem dX6_better_29 : decode cX6_better 29 = .ok (.aload_n 0, 1) := by decide +kernel
theorem dX6_better_30 : decode cX6_better 30 = .ok (.getfield 35, 3) := by decide +kernel
theorem dX6_better_33 : decode cX6_better 33 = .ok (.iconst 1, 1) := by decide +kernel
theorem dX6_better_34 : decode cX6_better 34 = .ok (.iadd, 1) := by decide +kernel
theorem dX6_better_35 : decode cX6_better 35 = .ok (.goto 5, 3) := by decide +kernel
theorem dX6_better_38 : decode cX6_better 38 = .ok (.bipush 9, 2) := by decide +kernel
theorem dX6_better_40 : decode cX6_better 40 = .ok (.putfield 35, 3) := by decide +kernel
theorem dX6_better_43 : decode cX6_better 43 = .ok (.aload_n 0, 1) := by decide +kernel
theorem dX6_better_44 : decode cX6_better 44 = .ok (.bipush 63, 2) := by decide +kernel
theorem dX6_better_46 : decode cX6_better 46 = .ok (.invokevirtual 296, 3) := by decide +kernel
theorem dX6_better_49 : decode cX6_better 49 = .ok (.aload_n 0, 1) := by decide +kernel
theorem dX6_better_50 : decode cX6_better 50 = .ok (.getfield 260, 3) := by decide +kernel
theorem dX6_better_53 : decode cX6_better 53 = .ok (.istore_n 2, 1) := by decide +kernel
theorem dX6_better_54 : decode cX6_better 54 = .ok (.aload_n 0, 1) := by decide +kernel
theorem dX6_better_55 : decode cX6_better 55 = .ok (.invokevirtual 299, 3) := by decide +kernel
theorem dX6_better_58 : decode cX6_better 58 = .ok (.iload_n 2, 1) := by decide +kernel
theorem dX6_better_59 : decode cX6_better 59 = .ok (.iload_n 1, 1) := by decide +kernel
theorem dX6_better_60 : decode cX6_better 60 = .ok (.isub, 1) := by decide +kernel
theorem dX6_better_61 : decode cX6_better 61 = .ok (.ireturn, 1) := by decide +kernel
theorem dX6_order_0 : decode cX6_order 0 = .ok (.iload_n 1, 1) := by decide +kernel
theorem dX6_order_1 : decode cX6_order 1 = .ok (.i2l, 1) := by decide +kernel
theorem dX6_order_2 : decode cX6_order 2 = .ok (.lconst 1, 1) := by decide +kernel
theorem dX6_order_3 : decode cX6_order 3 = .ok (.ldc2_w 100, 3) := by decide +kernel
theorem dX6_order_6 : decode cX6_order 6 = .ok (.invokestatic 76, 3) := by decide +kernel
theorem dX6_order_9 : decode cX6_order 9 = .ok (.ifCond .eq 15, 3) := by decide +kernel
theorem dX6_order_12 : decode cX6_order 12 = .ok (.iload_n 2, 1) := by decide +kernel
theorem dX6_order_13 : decode cX6_order 13 = .ok (.i2l, 1) := by decide +kernel
theorem dX6_order_14 : decode cX6_order 14 = .ok (.lconst 1, 1) := by decide +kernel
theorem dX6_order_15 : decode cX6_order 15 = .ok (.ldc2_w 100, 3) := by decide +kernel
theorem dX6_order_18 : decode cX6_order 18 = .ok (.invokestatic 76, 3) := by decide +kernel
theorem dX6_order_21 : decode cX6_order 21 = .ok (.ifCond .ne 6, 3) := by decide +kernel
theorem dX6_order_24 : decode cX6_order 24 = .ok (.bipush (-2), 2) := by decide +kernel
theorem dX6_order_26 : decode cX6_order 26 = .ok (.ireturn, 1) := by decide +kernel
theorem dX6_order_27 : decode cX6_order 27 = .ok (.aload_n 0, 1) := by decide +kernel
theorem dX6_order_28 : decode cX6_order 28 = .ok (.invokevirtual 293, 3) := by decide +kernel
theorem dX6_order_31 : decode cX6_order 31 = .ok (.aload_n 0, 1) := by decide +kernel
theorem dX6_order_32 : decode cX6_order 32 = .ok (.iload_n 1, 1) := by decide +kernel
theorem dX6_order_33 : decode cX6_order 33 = .ok (.putfield 35, 3) := by decide +kernel
theorem dX6_order_36 : decode cX6_order 36 = .ok (.aload_n 0, 1) := by decide +kernel
theorem dX6_order_37 : decode cX6_order 37 = .ok (.bipush 63, 2) := by decide +kernel
theorem dX6_order_39 : decode cX6_order 39 = .ok (.invokevirtual 296, 3) := by decide +kernel
theorem dX6_order_42 : decode cX6_order 42 = .ok (.aload_n 0, 1) := by decide +kernel
theorem dX6_order_43 : decode cX6_order 43 = .ok (.getfield 260, 3) := by decide +kernel
theorem dX6_order_46 : decode cX6_order 46 = .ok (.istore_n 3, 1) := by decide +kernel
theorem dX6_order_47 : decode cX6_order 47 = .ok (.aload_n 0, 1) := by decide +kernel
theorem dX6_order_48 : decode cX6_order 48 = .ok (.iload_n 2, 1) := by decide +kernel
theorem dX6_order_49 : decode cX6_order 49 = .ok (.putfield 35, 3) := by decide +kernel
theorem dX6_order_52 : decode cX6_order 52 = .ok (.aload_n 0, 1) := by decide +kernel
theorem dX6_order_53 : decode cX6_order 53 = .ok (.bipush 63, 2) := by decide +kernel
theorem dX6_order_55 : decode cX6_order 55 = .ok (.invokevirtual 296, 3) := by decide +kernel
theorem dX6_order_58 : decode cX6_order 58 = .ok (.aload_n 0, 1) := by decide +kernel
theorem dX6_order_59 : decode cX6_order 59 = .ok (.getfield 260, 3) := by decide +kernel
theorem dX6_order_62 : decode cX6_order 62 = .ok (.iload_n 3, 1) := by decide +kernel
theorem dX6_order_63 : decode cX6_order 63 = .ok (.isub, 1) := by decide +kernel
theorem dX6_order_64 : decode cX6_order 64 = .ok (.istore 4, 2) := by decide +kernel
theorem dX6_order_66 : decode cX6_order 66 = .ok (.aload_n 0, 1) := by decide +kernel
theorem dX6_order_67 : decode cX6_order 67 = .ok (.invokevirtual 299, 3) := by decide +kernel
theorem dX6_order_70 : decode cX6_order 70 = .ok (.iload 4, 2) := by decide +kernel
theorem dX6_order_72 : decode cX6_order 72 = .ok (.ireturn, 1) := by decide +kernel
theorem dX6_off_0 : decode cX6_off 0 = .ok (.iload_n 0, 1) := by decide +kernel
theorem dX6_off_1 : decode cX6_off 1 = .ok (.iload_n 1, 1) := by decide +kernel
theorem dX6_off_2 : decode cX6_off 2 = .ok (.if_icmp .ge 9, 3) := by decide +kernel
theorem dX6_off_5 : decode cX6_off 5 = .ok (.iload_n 1, 1) := by decide +kernel
theorem dX6_off_6 : decode cX6_off 6 = .ok (.iload_n 0, 1) := by decide +kernel
theorem dX6_off_7 : decode cX6_off 7 = .ok (.isub, 1) := by decide +kernel
theorem dX6_off_8 : decode cX6_off 8 = .ok (.goto 6, 3) := by decide +kernel
theorem dX6_off_11 : decode cX6_off 11 = .ok (.iload_n 0, 1) := by decide +kernel
theorem dX6_off_12 : decode cX6_off 12 = .ok (.iload_n 1, 1) := by decide +kernel
theorem dX6_off_13 : decode cX6_off 13 = .ok (.isub, 1) := by decide +kernel
theorem dX6_off_14 : decode cX6_off 14 = .ok (.ireturn, 1) := by decide +kernel
theorem dX6_pot_0 : decode cX6_pot 0 = .ok (.aload_n 0, 1) := by decide +kernel
theorem dX6_pot_1 : decode cX6_pot 1 = .ok (.getfield 80, 3) := by decide +kernel
theorem dX6_pot_4 : decode cX6_pot 4 = .ok (.invokestatic 304, 3) := by decide +kernel
theorem dX6_pot_7 : decode cX6_pot 7 = .ok (.ifCond .ne 5, 3) := by decide +kernel
theorem dX6_pot_10 : decode cX6_pot 10 = .ok (.iconst (-1), 1) := by decide +kernel
theorem dX6_pot_11 : decode cX6_pot 11 = .ok (.ireturn, 1) := by decide +kernel
theorem dX6_pot_12 : decode cX6_pot 12 = .ok (.iconst 0, 1) := by decide +kernel
theorem dX6_pot_13 : decode cX6_pot 13 = .ok (.istore_n 1, 1) := by decide +kernel
theorem dX6_pot_14 : decode cX6_pot 14 = .ok (.iconst (-1), 1) := by decide +kernel
theorem dX6_pot_15 : decode cX6_pot 15 = .ok (.istore_n 2, 1) := by decide +kernel
theorem dX6_pot_16 : decode cX6_pot 16 = .ok (.iconst 0, 1) := by decide +kernel
theorem dX6_pot_17 : decode cX6_pot 17 = .ok (.istore_n 3, 1) := by decide +kernel
theorem dX6_pot_18 : decode cX6_pot 18 = .ok (.iload_n 3, 1) := by decide +kernel
theorem dX6_pot_19 : decode cX6_pot 19 = .ok (.bipush 48, 2) := by decide +kernel
theorem dX6_pot_21 : decode cX6_pot 21 = .ok (.if_icmp .ge 97, 3) := by decide +kernel
theorem dX6_pot_24 : decode cX6_pot 24 = .ok (.iconst 0, 1) := by decide +kernel
theorem dX6_pot_25 : decode cX6_pot 25 = .ok (.istore 4, 2) := by decide +kernel
theorem dX6_pot_27 : decode cX6_pot 27 = .ok (.iconst 0, 1) := by decide +kernel
theorem dX6_pot_28 : decode cX6_pot 28 = .ok (.istore 5, 2) := by decide +kernel
theorem dX6_pot_30 : decode cX6_pot 30 = .ok (.iload 5, 2) := by decide +kernel
theorem dX6_pot_32 : decode cX6_pot 32 = .ok (.aload_n 0, 1) := by decide +kernel
theorem dX6_pot_33 : decode cX6_pot 33 = .ok (.getfield 73, 3) := by decide +kernel
theorem dX6_pot_36 : decode cX6_pot 36 = .ok (.if_icmp .ge 60, 3) := by decide +kernel
theorem dX6_pot_39 : decode cX6_pot 39 = .ok (.aload_n 0, 1) := by decide +kernel
theorem dX6_pot_40 : decode cX6_pot 40 = .ok (.iload 5, 2) := by decide +kernel
theorem dX6_pot_42 : decode cX6_pot 42 = .ok (.invokevirtual 102, 3) := by decide +kernel
theorem dX6_pot_45 : decode cX6_pot 45 = .ok (.ifCond .ne 45, 3) := by decide +kernel
theorem dX6_pot_48 : decode cX6_pot 48 = .ok (.iload 4, 2) := by decide +kernel
theorem dX6_pot_50 : decode cX6_pot 50 = .ok (.iconst 3, 1) := by decide +kernel
theorem dX6_pot_51 : decode cX6_pot 51 = .ok (.aload_n 0, 1) := by decide +kernel
theorem dX6_pot_52 : decode cX6_pot 52 = .ok (.getfield 26, 3) := by decide +kernel
theorem dX6_pot_55 : decode cX6_pot 55 = .ok (.iload 5, 2) := by decide +kernel
theorem dX6_pot_57 : decode cX6_pot 57 = .ok (.iaload, 1) := by decide +kernel
theorem dX6_pot_58 : decode cX6_pot 58 = .ok (.bipush 8, 2) := by decide +kernel
theorem dX6_pot_60 : decode cX6_pot 60 = .ok (.idiv, 1) := by decide +kernel
theorem dX6_pot_61 : decode cX6_pot 61 = .ok (.iload_n 3, 1) := by decide +kernel
theorem dX6_pot_62 : decode cX6_pot 62 = .ok (.bipush 8, 2) := by decide +kernel
theorem dX6_pot_64 : decode cX6_pot 64 = .ok (.idiv, 1) := by decide +kernel
theorem dX6_pot_65 : decode cX6_pot 65 = .ok (.invokestatic 307, 3) := by decide +kernel
theorem dX6_pot_68 : decode cX6_pot 68 = .ok (.imul, 1) := by decide +kernel
theorem dX6_pot_69 : decode cX6_pot 69 = .ok (.aload_n 0, 1) := by decide +kernel
theorem dX6_pot_70 : decode cX6_pot 70 = .ok (.getfield 26, 3) := by decide +kernel
theorem dX6_pot_73 : decode cX6_pot 73 = .ok (.iload 5, 2) := by decide +kernel
theorem dX6_pot_75 : decode cX6_pot 75 = .ok (.iaload, 1) := by decide +kernel
theorem dX6_pot_76 : decode cX6_pot 76 = .ok (.bipush 8, 2) := by decide +kernel
theorem dX6_pot_78 : decode cX6_pot 78 = .ok (.irem, 1) := by decide +kernel
theorem dX6_pot_79 : decode cX6_pot 79 = .ok (.iload_n 3, 1) := by decide +kernel
theorem dX6_pot_80 : decode cX6_pot 80 = .ok (.bipush 8, 2) := by decide +kernel
theorem dX6_pot_82 : decode cX6_pot 82 = .ok (.irem, 1) := by decide +kernel
theorem dX6_pot_83 : decode cX6_pot 83 = .ok (.invokestatic 307, 3) := by decide +kernel
theorem dX6_pot_86 : decode cX6_pot 86 = .ok (.iadd, 1) := by decide +kernel
theorem dX6_pot_87 : decode cX6_pot 87 = .ok (.iadd, 1) := by decide +kernel
theorem dX6_pot_88 : decode cX6_pot 88 = .ok (.istore 4, 2) := by decide +kernel
theorem dX6_pot_90 : decode cX6_pot 90 = .ok (.iinc 5 1, 3) := by decide +kernel
theorem dX6_pot_93 : decode cX6_pot 93 = .ok (.goto (-63), 3) := by decide +kernel
theorem dX6_pot_96 : decode cX6_pot 96 = .ok (.iload_n 2, 1) := by decide +kernel
theorem dX6_pot_97 : decode cX6_pot 97 = .ok (.iconst (-1), 1) := by decide +kernel
theorem dX6_pot_98 : decode cX6_pot 98 = .ok (.if_icmp .eq 9, 3) := by decide +kernel
theorem dX6_pot_101 : decode cX6_pot 101 = .ok (.iload 4, 2) := by decide +kernel
theorem dX6_pot_103 : decode cX6_pot 103 = .ok (.iload_n 2, 1) := by decide +kernel
theorem dX6_pot_104 : decode cX6_pot 104 = .ok (.if_icmp .ge 8, 3) := by decide +kernel
theorem dX6_pot_107 : decode cX6_pot 107 = .ok (.iload_n 3, 1) := by decide +kernel
theorem dX6_pot_108 : decode cX6_pot 108 = .ok (.istore_n 1, 1) := by decide +kernel
theorem dX6_pot_109 : decode cX6_pot 109 = .ok (.iload 4, 2) := by decide +kernel
theorem dX6_pot_111 : decode cX6_pot 111 = .ok (.istore_n 2, 1) := by decide +kernel
theorem dX6_pot_112 : decode cX6_pot 112 = .ok (.iinc 3 1, 3) := by decide +kernel
theorem dX6_pot_115 : decode cX6_pot 115 = .ok (.goto (-97), 3) := by decide +kernel
theorem dX6_pot_118 : decode cX6_pot 118 = .ok (.iload_n 1, 1) := by decide +kernel
theorem dX6_pot_119 : decode cX6_pot 119 = .ok (.ireturn, 1) := by decide +kernel
theorem dX6_came_0 : decode cX6_came 0 = .ok (.aload_n 0, 1) := by decide +kernel
theorem dX6_came_1 : decode cX6_came 1 = .ok (.iload_n 1, 1) := by decide +kernel
theorem dX6_came_2 : decode cX6_came 2 = .ok (.invokevirtual 95, 3) := by decide +kernel
theorem dX6_came_5 : decode cX6_came 5 = .ok (.ifCond .eq 15, 3) := by decide +kernel
theorem dX6_came_8 : decode cX6_came 8 = .ok (.iload_n 2, 1) := by decide +kernel
theorem dX6_came_9 : decode cX6_came 9 = .ok (.i2l, 1) := by decide +kernel
theorem dX6_came_10 : decode cX6_came 10 = .ok (.lconst 0, 1) := by decide +kernel
theorem dX6_came_11 : decode cX6_came 11 = .ok (.ldc2_w 98, 3) := by decide +kernel
theorem dX6_came_14 : decode cX6_came 14 = .ok (.invokestatic 76, 3) := by decide +kernel
theorem dX6_came_17 : decode cX6_came 17 = .ok (.ifCond .ne 6, 3) := by decide +kernel
theorem dX6_came_20 : decode cX6_came 20 = .ok (.bipush (-2), 2) := by decide +kernel
theorem dX6_came_22 : decode cX6_came 22 = .ok (.ireturn, 1) := by decide +kernel
theorem dX6_came_23 : decode cX6_came 23 = .ok (.aload_n 0, 1) := by decide +kernel
theorem dX6_came_24 : decode cX6_came 24 = .ok (.getfield 29, 3) := by decide +kernel
theorem dX6_came_27 : decode cX6_came 27 = .ok (.iload_n 1, 1) := by decide +kernel
theorem dX6_came_28 : decode cX6_came 28 = .ok (.iaload, 1) := by decide +kernel
theorem dX6_came_29 : decode cX6_came 29 = .ok (.istore_n 3, 1) := by decide +kernel
theorem dX6_came_30 : decode cX6_came 30 = .ok (.aload_n 0, 1) := by decide +kernel
theorem dX6_came_31 : decode cX6_came 31 = .ok (.getfield 26, 3) := by decide +kernel
theorem dX6_came_34 : decode cX6_came 34 = .ok (.iload_n 1, 1) := by decide +kernel
theorem dX6_came_35 : decode cX6_came 35 = .ok (.iaload, 1) := by decide +kernel
theorem dX6_came_36 : decode cX6_came 36 = .ok (.bipush 8, 2) := by decide +kernel
theorem dX6_came_38 : decode cX6_came 38 = .ok (.irem, 1) := by decide +kernel
theorem dX6_came_39 : decode cX6_came 39 = .ok (.istore 4, 2) := by decide +kernel
theorem dX6_came_41 : decode cX6_came 41 = .ok (.iconst 1, 1) := by decide +kernel
theorem dX6_came_42 : decode cX6_came 42 = .ok (.istore 5, 2) := by decide +kernel
theorem dX6_came_44 : decode cX6_came 44 = .ok (.iload 5, 2) := by decide +kernel
theorem dX6_came_46 : decode cX6_came 46 = .ok (.iload_n 2, 1) := by decide +kernel
theorem dX6_came_47 : decode cX6_came 47 = .ok (.if_icmp .gt 80, 3) := by decide +kernel
theorem dX6_came_50 : decode cX6_came 50 = .ok (.iload_n 3, 1) := by decide +kernel
theorem dX6_came_51 : decode cX6_came 51 = .ok (.bipush 12, 2) := by decide +kernel
theorem dX6_came_53 : decode cX6_came 53 = .ok (.if_icmp .gt 10, 3) := by decide +kernel
theorem dX6_came_56 : decode cX6_came 56 = .ok (.bipush 12, 2) := by decide +kernel
theorem dX6_came_58 : decode cX6_came 58 = .ok (.iload_n 3, 1) := by decide +kernel
theorem dX6_came_59 : decode cX6_came 59 = .ok (.isub, 1) := by decide +kernel
theorem dX6_came_60 : decode cX6_came 60 = .ok (.goto 17, 3) := by decide +kernel
theorem dX6_came_63 : decode cX6_came 63 = .ok (.iload_n 3, 1) := by decide +kernel
theorem dX6_came_64 : decode cX6_came 64 = .ok (.bipush 20, 2) := by decide +kernel
theorem dX6_came_66 : decode cX6_came 66 = .ok (.if_icmp .ge 9, 3) := by decide +kernel
theorem dX6_came_69 : decode cX6_came 69 = .ok (.iload_n 3, 1) := by decide +kernel
theorem dX6_came_70 : decode cX6_came 70 = .ok (.iconst 1, 1) := by decide +kernel
theorem dX6_came_71 : decode cX6_came 71 = .ok (.iadd, 1) := by decide +kernel
theorem dX6_came_72 : decode cX6_came 72 = .ok (.goto 5, 3) := by decide +kernel
theorem dX6_came_75 : decode cX6_came 75 = .ok (.bipush 20, 2) := by decide +kernel
theorem dX6_came_77 : decode cX6_came 77 = .ok (.istore_n 3, 1) := by decide +kernel
theorem dX6_came_78 : decode cX6_came 78 = .ok (.aload_n 0, 1) := by decide +kernel
theorem dX6_came_79 : decode cX6_came 79 = .ok (.getfield 23, 3) := by decide +kernel
theorem dX6_came_82 : decode cX6_came 82 = .ok (.iload_n 1, 1) := by decide +kernel
theorem dX6_came_83 : decode cX6_came 83 = .ok (.iaload, 1) := by decide +kernel
theorem dX6_came_84 : decode cX6_came 84 = .ok (.aload_n 0, 1) := by decide +kernel
theorem dX6_came_85 : decode cX6_came 85 = .ok (.getfield 32, 3) := by decide +kernel
theorem dX6_came_88 : decode cX6_came 88 = .ok (.iload_n 1, 1) := by decide +kernel
theorem dX6_came_89 : decode cX6_came 89 = .ok (.iaload, 1) := by decide +kernel
theorem dX6_came_90 : decode cX6_came 90 = .ok (.iload_n 3, 1) := by decide +kernel
theorem dX6_came_91 : decode cX6_came 91 = .ok (.invokestatic 118, 3) := by decide +kernel
theorem dX6_came_94 : decode cX6_came 94 = .ok (.istore 6, 2) := by decide +kernel
theorem dX6_came_96 : decode cX6_came 96 = .ok (.iload 4, 2) := by decide +kernel
theorem dX6_came_98 : decode cX6_came 98 = .ok (.aload_n 0, 1) := by decide +kernel
theorem dX6_came_99 : decode cX6_came 99 = .ok (.getfield 276, 3) := by decide +kernel
theorem dX6_came_102 : decode cX6_came 102 = .ok (.iload 5, 2) := by decide +kernel
theorem dX6_came_104 : decode cX6_came 104 = .ok (.isub, 1) := by decide +kernel
theorem dX6_came_105 : decode cX6_came 105 = .ok (.iconst 2, 1) := by decide +kernel
theorem dX6_came_106 : decode cX6_came 106 = .ok (.irem, 1) := by decide +kernel
theorem dX6_came_107 : decode cX6_came 107 = .ok (.ifCond .ne 9, 3) := by decide +kernel
theorem dX6_came_110 : decode cX6_came 110 = .ok (.iload 6, 2) := by decide +kernel
theorem dX6_came_112 : decode cX6_came 112 = .ok (.ineg, 1) := by decide +kernel
theorem dX6_came_113 : decode cX6_came 113 = .ok (.goto 5, 3) := by decide +kernel
theorem dX6_came_116 : decode cX6_came 116 = .ok (.iload 6, 2) := by decide +kernel
theorem dX6_came_118 : decode cX6_came 118 = .ok (.iadd, 1) := by decide +kernel
theorem dX6_came_119 : decode cX6_came 119 = .ok (.istore 4, 2) := by decide +kernel
theorem dX6_came_121 : decode cX6_came 121 = .ok (.iinc 5 1, 3) := by decide +kernel
theorem dX6_came_124 : decode cX6_came 124 = .ok (.goto (-80), 3) := by decide +kernel
theorem dX6_came_127 : decode cX6_came 127 = .ok (.aload_n 0, 1) := by decide +kernel
theorem dX6_came_128 : decode cX6_came 128 = .ok (.getfield 26, 3) := by decide +kernel
theorem dX6_came_131 : decode cX6_came 131 = .ok (.iload_n 1, 1) := by decide +kernel
theorem dX6_came_132 : decode cX6_came 132 = .ok (.iaload, 1) := by decide +kernel
theorem dX6_came_133 : decode cX6_came 133 = .ok (.bipush 8, 2) := by decide +kernel
theorem dX6_came_135 : decode cX6_came 135 = .ok (.idiv, 1) := by decide +kernel
theorem dX6_came_136 : decode cX6_came 136 = .ok (.bipush 8, 2) := by decide +kernel
theorem dX6_came_138 : decode cX6_came 138 = .ok (.imul, 1) := by decide +kernel
theorem dX6_came_139 : decode cX6_came 139 = .ok (.iload 4, 2) := by decide +kernel
theorem dX6_came_141 : decode cX6_came 141 = .ok (.iconst 0, 1) := by decide +kernel
theorem dX6_came_142 : decode cX6_came 142 = .ok (.bipush 7, 2) := by decide +kernel
theorem dX6_came_144 : decode cX6_came 144 = .ok (.invokestatic 251, 3) := by decide +kernel
theorem dX6_came_147 : decode cX6_came 147 = .ok (.iadd, 1) := by decide +kernel
theorem dX6_came_148 : decode cX6_came 148 = .ok (.ireturn, 1) := by decide +kernel
theorem dX6_dotsOf_0 : decode cX6_dotsOf 0 = .ok (.iconst 0, 1) := by decide +kernel
theorem dX6_dotsOf_1 : decode cX6_dotsOf 1 = .ok (.istore_n 2, 1) := by decide +kernel
theorem dX6_dotsOf_2 : decode cX6_dotsOf 2 = .ok (.iconst 0, 1) := by decide +kernel
theorem dX6_dotsOf_3 : decode cX6_dotsOf 3 = .ok (.istore_n 3, 1) := by decide +kernel
theorem dX6_dotsOf_4 : decode cX6_dotsOf 4 = .ok (.iload_n 3, 1) := by decide +kernel
theorem dX6_dotsOf_5 : decode cX6_dotsOf 5 = .ok (.aload_n 0, 1) := by decide +kernel
theorem dX6_dotsOf_6 : decode cX6_dotsOf 6 = .ok (.getfield 73, 3) := by decide +kernel
theorem dX6_dotsOf_9 : decode cX6_dotsOf 9 = .ok (.if_icmp .ge 35, 3) := by decide +kernel
theorem dX6_dotsOf_12 : decode cX6_dotsOf 12 = .ok (.iload_n 2, 1) := by decide +kernel
theorem dX6_dotsOf_13 : decode cX6_dotsOf 13 = .ok (.aload_n 0, 1) := by decide +kernel
theorem dX6_dotsOf_14 : decode cX6_dotsOf 14 = .ok (.iload_n 3, 1) := by decide +kernel
theorem dX6_dotsOf_15 : decode cX6_dotsOf 15 = .ok (.invokevirtual 102, 3) := by decide +kernel
theorem dX6_dotsOf_18 : decode cX6_dotsOf 18 = .ok (.ifCond .ne 17, 3) := by decide +kernel
theorem dX6_dotsOf_21 : decode cX6_dotsOf 21 = .ok (.aload_n 0, 1) := by decide +kernel
theorem dX6_dotsOf_22 : decode cX6_dotsOf 22 = .ok (.getfield 26, 3) := by decide +kernel
theorem dX6_dotsOf_25 : decode cX6_dotsOf 25 = .ok (.iload_n 3, 1) := by decide +kernel
theorem dX6_dotsOf_26 : decode cX6_dotsOf 26 = .ok (.iaload, 1) := by decide +kernel
theorem dX6_dotsOf_27 : decode cX6_dotsOf 27 = .ok (.iload_n 1, 1) := by decide +kernel
theorem dX6_dotsOf_28 : decode cX6_dotsOf 28 = .ok (.if_icmp .ne 7, 3) := by decide +kernel
theorem dX6_dotsOf_31 : decode cX6_dotsOf 31 = .ok (.iconst 1, 1) := by decide +kernel
theorem dX6_dotsOf_32 : decode cX6_dotsOf 32 = .ok (.goto 4, 3) := by decide +kernel
theorem dX6_dotsOf_35 : decode cX6_dotsOf 35 = .ok (.iconst 0, 1) := by decide +kernel
theorem dX6_dotsOf_36 : decode cX6_dotsOf 36 = .ok (.iadd, 1) := by decide +kernel
theorem dX6_dotsOf_37 : decode cX6_dotsOf 37 = .ok (.istore_n 2, 1) := by decide +kernel
theorem dX6_dotsOf_38 : decode cX6_dotsOf 38 = .ok (.iinc 3 1, 3) := by decide +kernel
theorem dX6_dotsOf_41 : decode cX6_dotsOf 41 = .ok (.goto (-37), 3) := by decide +kernel
theorem dX6_dotsOf_44 : decode cX6_dotsOf 44 = .ok (.iload_n 2, 1) := by decide +kernel
theorem dX6_dotsOf_45 : decode cX6_dotsOf 45 = .ok (.ireturn, 1) := by decide +kernel
theorem dX6_dots_0 : decode cX6_dots 0 = .ok (.iload_n 1, 1) := by decide +kernel
theorem dX6_dots_1 : decode cX6_dots 1 = .ok (.invokestatic 87, 3) := by decide +kernel
theorem dX6_dots_4 : decode cX6_dots 4 = .ok (.ifCond .eq 11, 3) := by decide +kernel
theorem dX6_dots_7 : decode cX6_dots 7 = .ok (.aload_n 0, 1) := by decide +kernel
theorem dX6_dots_8 : decode cX6_dots 8 = .ok (.iload_n 1, 1) := by decide +kernel
theorem dX6_dots_9 : decode cX6_dots 9 = .ok (.invokevirtual 310, 3) := by decide +kernel
theorem dX6_dots_12 : decode cX6_dots 12 = .ok (.goto 5, 3) := by decide +kernel
theorem dX6_dots_15 : decode cX6_dots 15 = .ok (.bipush (-2), 2) := by decide +kernel
theorem dX6_dots_17 : decode cX6_dots 17 = .ok (.ireturn, 1) := by decide +kernel
theorem dX6_thick_0 : decode cX6_thick 0 = .ok (.iconst (-1), 1) := by decide +kernel
theorem dX6_thick_1 : decode cX6_thick 1 = .ok (.istore_n 1, 1) := by decide +kernel
theorem dX6_thick_2 : decode cX6_thick 2 = .ok (.iconst 0, 1) := by decide +kernel
theorem dX6_thick_3 : decode cX6_thick 3 = .ok (.istore_n 2, 1) := by decide +kernel
theorem dX6_thick_4 : decode cX6_thick 4 = .ok (.iconst 0, 1) := by decide +kernel
theorem dX6_thick_5 : decode cX6_thick 5 = .ok (.istore_n 3, 1) := by decide +kernel
theorem dX6_thick_6 : decode cX6_thick 6 = .ok (.iload_n 3, 1) := by decide +kernel
theorem dX6_thick_7 : decode cX6_thick 7 = .ok (.bipush 48, 2) := by decide +kernel
theorem dX6_thick_9 : decode cX6_thick 9 = .ok (.if_icmp .ge 26, 3) := by decide +kernel
theorem dX6_thick_12 : decode cX6_thick 12 = .ok (.aload_n 0, 1) := by decide +kernel
theorem dX6_thick_13 : decode cX6_thick 13 = .ok (.iload_n 3, 1) := by decide +kernel
theorem dX6_thick_14 : decode cX6_thick 14 = .ok (.invokevirtual 310, 3) := by decide +kernel
theorem dX6_thick_17 : decode cX6_thick 17 = .ok (.iload_n 2, 1) := by decide +kernel
theorem dX6_thick_18 : decode cX6_thick 18 = .ok (.if_icmp .le 11, 3) := by decide +kernel
theorem dX6_thick_21 : decode cX6_thick 21 = .ok (.iload_n 3, 1) := by decide +kernel
theorem dX6_thick_22 : decode cX6_thick 22 = .ok (.istore_n 1, 1) := by decide +kernel
theorem dX6_thick_23 : decode cX6_thick 23 = .ok (.aload_n 0, 1) := by decide +kernel
theorem dX6_thick_24 : decode cX6_thick 24 = .ok (.iload_n 3, 1) := by decide +kernel
theorem dX6_thick_25 : decode cX6_thick 25 = .ok (.invokevirtual 310, 3) := by decide +kernel
theorem dX6_thick_28 : decode cX6_thick 28 = .ok (.istore_n 2, 1) := by decide +kernel
theorem dX6_thick_29 : decode cX6_thick 29 = .ok (.iinc 3 1, 3) := by decide +kernel
theorem dX6_thick_32 : decode cX6_thick 32 = .ok (.goto (-26), 3) := by decide +kernel
theorem dX6_thick_35 : decode cX6_thick 35 = .ok (.iload_n 1, 1) := by decide +kernel
theorem dX6_thick_36 : decode cX6_thick 36 = .ok (.ireturn, 1) := by decide +kernel
theorem dX6_judge_0 : decode cX6_judge 0 = .ok (.iload_n 1, 1) := by decide +kernel
theorem dX6_judge_1 : decode cX6_judge 1 = .ok (.invokestatic 313, 3) := by decide +kernel
theorem dX6_judge_4 : decode cX6_judge 4 = .ok (.ifCond .eq 13, 3) := by decide +kernel
theorem dX6_judge_7 : decode cX6_judge 7 = .ok (.iload_n 2, 1) := by decide +kernel
theorem dX6_judge_8 : decode cX6_judge 8 = .ok (.i2l, 1) := by decide +kernel
theorem dX6_judge_9 : decode cX6_judge 9 = .ok (.lconst 0, 1) := by decide +kernel
theorem dX6_judge_10 : decode cX6_judge 10 = .ok (.lconst 1, 1) := by decide +kernel
theorem dX6_judge_11 : decode cX6_judge 11 = .ok (.invokestatic 76, 3) := by decide +kernel
theorem dX6_judge_14 : decode cX6_judge 14 = .ok (.ifCond .ne 6, 3) := by decide +kernel
theorem dX6_judge_17 : decode cX6_judge 17 = .ok (.bipush (-2), 2) := by decide +kernel
theorem dX6_judge_19 : decode cX6_judge 19 = .ok (.ireturn, 1) := by decide +kernel
theorem dX6_judge_20 : decode cX6_judge 20 = .ok (.aload_n 0, 1) := by decide +kernel
theorem dX6_judge_21 : decode cX6_judge 21 = .ok (.getfield 53, 3) := by decide +kernel
theorem dX6_judge_24 : decode cX6_judge 24 = .ok (.iload_n 1, 1) := by decide +kernel
theorem dX6_judge_25 : decode cX6_judge 25 = .ok (.baload, 1) := by decide +kernel
theorem dX6_judge_26 : decode cX6_judge 26 = .ok (.ifCond .ne 6, 3) := by decide +kernel
theorem dX6_judge_29 : decode cX6_judge 29 = .ok (.bipush (-11), 2) := by decide +kernel
theorem dX6_judge_31 : decode cX6_judge 31 = .ok (.ireturn, 1) := by decide +kernel
theorem dX6_judge_32 : decode cX6_judge 32 = .ok (.iconst (-1), 1) := by decide +kernel
theorem dX6_judge_33 : decode cX6_judge 33 = .ok (.istore_n 3, 1) := by decide +kernel
theorem dX6_judge_34 : decode cX6_judge 34 = .ok (.iconst 0, 1) := by decide +kernel
theorem dX6_judge_35 : decode cX6_judge 35 = .ok (.istore 4, 2) := by decide +kernel
theorem dX6_judge_37 : decode cX6_judge 37 = .ok (.iconst 0, 1) := by decide +kernel
theorem dX6_judge_38 : decode cX6_judge 38 = .ok (.istore 5, 2) := by decide +kernel
theorem dX6_judge_40 : decode cX6_judge 40 = .ok (.iload 5, 2) := by decide +kernel
theorem dX6_judge_42 : decode cX6_judge 42 = .ok (.aload_n 0, 1) := by decide +kernel
theorem dX6_judge_43 : decode cX6_judge 43 = .ok (.getfield 60, 3) := by decide +kernel
theorem dX6_judge_46 : decode cX6_judge 46 = .ok (.iload_n 1, 1) := by decide +kernel
theorem dX6_judge_47 : decode cX6_judge 47 = .ok (.iaload, 1) := by decide +kernel
theorem dX6_judge_48 : decode cX6_judge 48 = .ok (.if_icmp .ge 45, 3) := by decide +kernel
theorem dX6_judge_51 : decode cX6_judge 51 = .ok (.aload_n 0, 1) := by decide +kernel
theorem dX6_judge_52 : decode cX6_judge 52 = .ok (.getfield 63, 3) := by decide +kernel
theorem dX6_judge_55 : decode cX6_judge 55 = .ok (.bipush 40, 2) := by decide +kernel
theorem dX6_judge_57 : decode cX6_judge 57 = .ok (.iload_n 1, 1) := by decide +kernel
theorem dX6_judge_58 : decode cX6_judge 58 = .ok (.imul, 1) := by decide +kernel
theorem dX6_judge_59 : decode cX6_judge 59 = .ok (.iload 5, 2) := by decide +kernel
theorem dX6_judge_61 : decode cX6_judge 61 = .ok (.iadd, 1) := by decide +kernel
theorem dX6_judge_62 : decode cX6_judge 62 = .ok (.iaload, 1) := by decide +kernel
theorem dX6_judge_63 : decode cX6_judge 63 = .ok (.aload_n 0, 1) := by decide +kernel
theorem dX6_judge_64 : decode cX6_judge 64 = .ok (.iload 5, 2) := by decide +kernel
theorem dX6_judge_66 : decode cX6_judge 66 = .ok (.invokevirtual 310, 3) := by decide +kernel
theorem dX6_judge_69 : decode cX6_judge 69 = .ok (.if_icmp .eq 18, 3) := by decide +kernel
theorem dX6_judge_72 : decode cX6_judge 72 = .ok (.iinc 4 1, 3) := by decide +kernel
theorem dX6_judge_75 : decode cX6_judge 75 = .ok (.iload_n 3, 1) := by decide +kernel
theorem dX6_judge_76 : decode cX6_judge 76 = .ok (.iconst (-1), 1) := by decide +kernel
theorem dX6_judge_77 : decode cX6_judge 77 = .ok (.if_icmp .ne 8, 3) := by decide +kernel
theorem dX6_judge_80 : decode cX6_judge 80 = .ok (.iload 5, 2) := by decide +kernel
theorem dX6_judge_82 : decode cX6_judge 82 = .ok (.goto 4, 3) := by decide +kernel
theorem dX6_judge_85 : decode cX6_judge 85 = .ok (.iload_n 3, 1) := by decide +kernel
theorem dX6_judge_86 : decode cX6_judge 86 = .ok (.istore_n 3, 1) := by decide +kernel
theorem dX6_judge_87 : decode cX6_judge 87 = .ok (.iinc 5 1, 3) := by decide +kernel
theorem dX6_judge_90 : decode cX6_judge 90 = .ok (.goto (-50), 3) := by decide +kernel
theorem dX6_judge_93 : decode cX6_judge 93 = .ok (.iload_n 2, 1) := by decide +kernel
theorem dX6_judge_94 : decode cX6_judge 94 = .ok (.ifCond .ne 7, 3) := by decide +kernel
theorem dX6_judge_97 : decode cX6_judge 97 = .ok (.iload_n 3, 1) := by decide +kernel
theorem dX6_judge_98 : decode cX6_judge 98 = .ok (.goto 5, 3) := by decide +kernel
theorem dX6_judge_101 : decode cX6_judge 101 = .ok (.iload 4, 2) := by decide +kernel
theorem dX6_judge_103 : decode cX6_judge 103 = .ok (.ireturn, 1) := by decide +kernel
theorem dX6_unseen_0 : decode cX6_unseen 0 = .ok (.iconst 0, 1) := by decide +kernel
theorem dX6_unseen_1 : decode cX6_unseen 1 = .ok (.istore_n 1, 1) := by decide +kernel
theorem dX6_unseen_2 : decode cX6_unseen 2 = .ok (.iconst 0, 1) := by decide +kernel
theorem dX6_unseen_3 : decode cX6_unseen 3 = .ok (.istore_n 2, 1) := by decide +kernel
theorem dX6_unseen_4 : decode cX6_unseen 4 = .ok (.iload_n 2, 1) := by decide +kernel
theorem dX6_unseen_5 : decode cX6_unseen 5 = .ok (.aload_n 0, 1) := by decide +kernel
theorem dX6_unseen_6 : decode cX6_unseen 6 = .ok (.getfield 73, 3) := by decide +kernel
theorem dX6_unseen_9 : decode cX6_unseen 9 = .ok (.if_icmp .ge 31, 3) := by decide +kernel
theorem dX6_unseen_12 : decode cX6_unseen 12 = .ok (.aload_n 0, 1) := by decide +kernel
theorem dX6_unseen_13 : decode cX6_unseen 13 = .ok (.iload_n 2, 1) := by decide +kernel
theorem dX6_unseen_14 : decode cX6_unseen 14 = .ok (.invokevirtual 102, 3) := by decide +kernel
theorem dX6_unseen_17 : decode cX6_unseen 17 = .ok (.ifCond .eq 17, 3) := by decide +kernel
theorem dX6_unseen_20 : decode cX6_unseen 20 = .ok (.iload_n 1, 1) := by decide +kernel
theorem dX6_unseen_21 : decode cX6_unseen 21 = .ok (.iconst 1, 1) := by decide +kernel
theorem dX6_unseen_22 : decode cX6_unseen 22 = .ok (.aload_n 0, 1) := by decide +kernel
theorem dX6_unseen_23 : decode cX6_unseen 23 = .ok (.getfield 26, 3) := by decide +kernel
theorem dX6_unseen_26 : decode cX6_unseen 26 = .ok (.iload_n 2, 1) := by decide +kernel
theorem dX6_unseen_27 : decode cX6_unseen 27 = .ok (.iaload, 1) := by decide +kernel
theorem dX6_unseen_28 : decode cX6_unseen 28 = .ok (.bipush 8, 2) := by decide +kernel
theorem dX6_unseen_30 : decode cX6_unseen 30 = .ok (.idiv, 1) := by decide +kernel
theorem dX6_unseen_31 : decode cX6_unseen 31 = .ok (.ishl, 1) := by decide +kernel
theorem dX6_unseen_32 : decode cX6_unseen 32 = .ok (.ior, 1) := by decide +kernel
theorem dX6_unseen_33 : decode cX6_unseen 33 = .ok (.istore_n 1, 1) := by decide +kernel
theorem dX6_unseen_34 : decode cX6_unseen 34 = .ok (.iinc 2 1, 3) := by decide +kernel
theorem dX6_unseen_37 : decode cX6_unseen 37 = .ok (.goto (-33), 3) := by decide +kernel
theorem dX6_unseen_40 : decode cX6_unseen 40 = .ok (.iload_n 1, 1) := by decide +kernel
theorem dX6_unseen_41 : decode cX6_unseen 41 = .ok (.aload_n 0, 1) := by decide +kernel
theorem dX6_unseen_42 : decode cX6_unseen 42 = .ok (.getfield 273, 3) := by decide +kernel
theorem dX6_unseen_45 : decode cX6_unseen 45 = .ok (.iconst (-1), 1) := by decide +kernel
theorem dX6_unseen_46 : decode cX6_unseen 46 = .ok (.ixor, 1) := by decide +kernel
theorem dX6_unseen_47 : decode cX6_unseen 47 = .ok (.iand, 1) := by decide +kernel
theorem dX6_unseen_48 : decode cX6_unseen 48 = .ok (.ireturn, 1) := by decide +kernel
theorem dX6_left_0 : decode cX6_left 0 = .ok (.iload_n 1, 1) := by decide +kernel
theorem dX6_left_1 : decode cX6_left 1 = .ok (.i2l, 1) := by decide +kernel
theorem dX6_left_2 : decode cX6_left 2 = .ok (.lconst 0, 1) := by decide +kernel
theorem dX6_left_3 : decode cX6_left 3 = .ok (.lconst 1, 1) := by decide +kernel
theorem dX6_left_4 : decode cX6_left 4 = .ok (.invokestatic 76, 3) := by decide +kernel
theorem dX6_left_7 : decode cX6_left 7 = .ok (.ifCond .ne 6, 3) := by decide +kernel
theorem dX6_left_10 : decode cX6_left 10 = .ok (.bipush (-2), 2) := by decide +kernel
theorem dX6_left_12 : decode cX6_left 12 = .ok (.ireturn, 1) := by decide +kernel
theorem dX6_left_13 : decode cX6_left 13 = .ok (.iload_n 1, 1) := by decide +kernel
theorem dX6_left_14 : decode cX6_left 14 = .ok (.ifCond .ne 16, 3) := by decide +kernel
theorem dX6_left_17 : decode cX6_left 17 = .ok (.aload_n 0, 1) := by decide +kernel
theorem dX6_left_18 : decode cX6_left 18 = .ok (.getfield 73, 3) := by decide +kernel
theorem dX6_left_21 : decode cX6_left 21 = .ok (.aload_n 0, 1) := by decide +kernel
theorem dX6_left_22 : decode cX6_left 22 = .ok (.getfield 80, 3) := by decide +kernel
theorem dX6_left_25 : decode cX6_left 25 = .ok (.invokestatic 304, 3) := by decide +kernel
theorem dX6_left_28 : decode cX6_left 28 = .ok (.isub, 1) := by decide +kernel
theorem dX6_left_29 : decode cX6_left 29 = .ok (.ireturn, 1) := by decide +kernel
theorem dX6_left_30 : decode cX6_left 30 = .ok (.iconst 0, 1) := by decide +kernel
theorem dX6_left_31 : decode cX6_left 31 = .ok (.istore_n 2, 1) := by decide +kernel
theorem dX6_left_32 : decode cX6_left 32 = .ok (.aload_n 0, 1) := by decide +kernel
theorem dX6_left_33 : decode cX6_left 33 = .ok (.getfield 35, 3) := by decide +kernel
theorem dX6_left_36 : decode cX6_left 36 = .ok (.istore_n 3, 1) := by decide +kernel
theorem dX6_left_37 : decode cX6_left 37 = .ok (.iconst 0, 1) := by decide +kernel
theorem dX6_left_38 : decode cX6_left 38 = .ok (.istore 4, 2) := by decide +kernel
theorem dX6_left_40 : decode cX6_left 40 = .ok (.iload 4, 2) := by decide +kernel
theorem dX6_left_42 : decode cX6_left 42 = .ok (.aload_n 0, 1) := by decide +kernel
theorem dX6_left_43 : decode cX6_left 43 = .ok (.getfield 73, 3) := by decide +kernel
theorem dX6_left_46 : decode cX6_left 46 = .ok (.if_icmp .ge 98, 3) := by decide +kernel
theorem dX6_left_49 : decode cX6_left 49 = .ok (.aload_n 0, 1) := by decide +kernel
theorem dX6_left_50 : decode cX6_left 50 = .ok (.iload 4, 2) := by decide +kernel
theorem dX6_left_52 : decode cX6_left 52 = .ok (.invokevirtual 102, 3) := by decide +kernel
theorem dX6_left_55 : decode cX6_left 55 = .ok (.ifCond .eq 83, 3) := by decide +kernel
theorem dX6_left_58 : decode cX6_left 58 = .ok (.iconst 0, 1) := by decide +kernel
theorem dX6_left_59 : decode cX6_left 59 = .ok (.istore 5, 2) := by decide +kernel
theorem dX6_left_61 : decode cX6_left 61 = .ok (.aload_n 0, 1) := by decide +kernel
theorem dX6_left_62 : decode cX6_left 62 = .ok (.iconst 1, 1) := by decide +kernel
theorem dX6_left_63 : decode cX6_left 63 = .ok (.putfield 35, 3) := by decide +kernel
theorem dX6_left_66 : decode cX6_left 66 = .ok (.aload_n 0, 1) := by decide +kernel
theorem dX6_left_67 : decode cX6_left 67 = .ok (.getfield 35, 3) := by decide +kernel
theorem dX6_left_70 : decode cX6_left 70 = .ok (.bipush 9, 2) := by decide +kernel
theorem dX6_left_72 : decode cX6_left 72 = .ok (.if_icmp .gt 53, 3) := by decide +kernel
theorem dX6_left_75 : decode cX6_left 75 = .ok (.iload 5, 2) := by decide +kernel
theorem dX6_left_77 : decode cX6_left 77 = .ok (.ifCond .ne 28, 3) := by decide +kernel
theorem dX6_left_80 : decode cX6_left 80 = .ok (.aload_n 0, 1) := by decide +kernel
theorem dX6_left_81 : decode cX6_left 81 = .ok (.iload 4, 2) := by decide +kernel
theorem dX6_left_83 : decode cX6_left 83 = .ok (.invokevirtual 254, 3) := by decide +kernel
theorem dX6_left_86 : decode cX6_left 86 = .ok (.ifCond .eq 23, 3) := by decide +kernel
theorem dX6_left_89 : decode cX6_left 89 = .ok (.aload_n 0, 1) := by decide +kernel
theorem dX6_left_90 : decode cX6_left 90 = .ok (.iconst 0, 1) := by decide +kernel
theorem dX6_left_91 : decode cX6_left 91 = .ok (.iload 4, 2) := by decide +kernel
theorem dX6_left_93 : decode cX6_left 93 = .ok (.aload_n 0, 1) := by decide +kernel
theorem dX6_left_94 : decode cX6_left 94 = .ok (.iload 4, 2) := by decide +kernel
theorem dX6_left_96 : decode cX6_left 96 = .ok (.invokevirtual 115, 3) := by decide +kernel
theorem dX6_left_99 : decode cX6_left 99 = .ok (.invokevirtual 248, 3) := by decide +kernel
theorem dX6_left_102 : decode cX6_left 102 = .ok (.ifCond .eq 7, 3) := by decide +kernel
theorem dX6_left_105 : decode cX6_left 105 = .ok (.iconst 1, 1) := by decide +kernel
theorem dX6_left_106 : decode cX6_left 106 = .ok (.goto 4, 3) := by decide +kernel
theorem dX6_left_109 : decode cX6_left 109 = .ok (.iconst 0, 1) := by decide +kernel
theorem dX6_left_110 : decode cX6_left 110 = .ok (.istore 5, 2) := by decide +kernel
theorem dX6_left_112 : decode cX6_left 112 = .ok (.aload_n 0, 1) := by decide +kernel
theorem dX6_left_113 : decode cX6_left 113 = .ok (.dup, 1) := by decide +kernel
theorem dX6_left_114 : decode cX6_left 114 = .ok (.getfield 35, 3) := by decide +kernel
theorem dX6_left_117 : decode cX6_left 117 = .ok (.iconst 1, 1) := by decide +kernel
theorem dX6_left_118 : decode cX6_left 118 = .ok (.iadd, 1) := by decide +kernel
theorem dX6_left_119 : decode cX6_left 119 = .ok (.putfield 35, 3) := by decide +kernel
theorem dX6_left_122 : decode cX6_left 122 = .ok (.goto (-56), 3) := by decide +kernel
theorem dX6_left_125 : decode cX6_left 125 = .ok (.iload_n 2, 1) := by decide +kernel
theorem dX6_left_126 : decode cX6_left 126 = .ok (.iload 5, 2) := by decide +kernel
theorem dX6_left_128 : decode cX6_left 128 = .ok (.ifCond .eq 7, 3) := by decide +kernel
theorem dX6_left_131 : decode cX6_left 131 = .ok (.iconst 0, 1) := by decide +kernel
theorem dX6_left_132 : decode cX6_left 132 = .ok (.goto 4, 3) := by decide +kernel
theorem dX6_left_135 : decode cX6_left 135 = .ok (.iconst 1, 1) := by decide +kernel
theorem dX6_left_136 : decode cX6_left 136 = .ok (.iadd, 1) := by decide +kernel
theorem dX6_left_137 : decode cX6_left 137 = .ok (.istore_n 2, 1) := by decide +kernel
theorem dX6_left_138 : decode cX6_left 138 = .ok (.iinc 4 1, 3) := by decide +kernel
theorem dX6_left_141 : decode cX6_left 141 = .ok (.goto (-101), 3) := by decide +kernel
theorem dX6_left_144 : decode cX6_left 144 = .ok (.aload_n 0, 1) := by decide +kernel
theorem dX6_left_145 : decode cX6_left 145 = .ok (.iload_n 3, 1) := by decide +kernel
theorem dX6_left_146 : decode cX6_left 146 = .ok (.putfield 35, 3) := by decide +kernel
theorem dX6_left_149 : decode cX6_left 149 = .ok (.iload_n 2, 1) := by decide +kernel
theorem dX6_left_150 : decode cX6_left 150 = .ok (.ireturn, 1) := by decide +kernel
theorem dX6_drawn_0 : decode cX6_drawn 0 = .ok (.aload_n 0, 1) := by decide +kernel
theorem dX6_drawn_1 : decode cX6_drawn 1 = .ok (.invokevirtual 293, 3) := by decide +kernel
theorem dX6_drawn_4 : decode cX6_drawn 4 = .ok (.iload_n 1, 1) := by decide +kernel
theorem dX6_drawn_5 : decode cX6_drawn 5 = .ok (.istore_n 2, 1) := by decide +kernel
theorem dX6_drawn_6 : decode cX6_drawn 6 = .ok (.iconst 0, 1) := by decide +kernel
theorem dX6_drawn_7 : decode cX6_drawn 7 = .ok (.istore_n 3, 1) := by decide +kernel
theorem dX6_drawn_8 : decode cX6_drawn 8 = .ok (.iload_n 3, 1) := by decide +kernel
theorem dX6_drawn_9 : decode cX6_drawn 9 = .ok (.aload_n 0, 1) := by decide +kernel
theorem dX6_drawn_10 : decode cX6_drawn 10 = .ok (.getfield 73, 3) := by decide +kernel
theorem dX6_drawn_13 : decode cX6_drawn 13 = .ok (.if_icmp .ge 53, 3) := by decide +kernel
theorem dX6_drawn_16 : decode cX6_drawn 16 = .ok (.aload_n 0, 1) := by decide +kernel
theorem dX6_drawn_17 : decode cX6_drawn 17 = .ok (.iload_n 3, 1) := by decide +kernel
theorem dX6_drawn_18 : decode cX6_drawn 18 = .ok (.invokevirtual 102, 3) := by decide +kernel
theorem dX6_drawn_21 : decode cX6_drawn 21 = .ok (.ifCond .eq 39, 3) := by decide +kernel
theorem dX6_drawn_24 : decode cX6_drawn 24 = .ok (.iload_n 2, 1) := by decide +kernel
theorem dX6_drawn_25 : decode cX6_drawn 25 = .ok (.ldc_w 316, 3) := by decide +kernel
theorem dX6_drawn_28 : decode cX6_drawn 28 = .ok (.imul, 1) := by decide +kernel
theorem dX6_drawn_29 : decode cX6_drawn 29 = .ok (.sipush 12345, 3) := by decide +kernel
theorem dX6_drawn_32 : decode cX6_drawn 32 = .ok (.iadd, 1) := by decide +kernel
theorem dX6_drawn_33 : decode cX6_drawn 33 = .ok (.istore_n 2, 1) := by decide +kernel
theorem dX6_drawn_34 : decode cX6_drawn 34 = .ok (.aload_n 0, 1) := by decide +kernel
theorem dX6_drawn_35 : decode cX6_drawn 35 = .ok (.getfield 26, 3) := by decide +kernel
theorem dX6_drawn_38 : decode cX6_drawn 38 = .ok (.iload_n 3, 1) := by decide +kernel
theorem dX6_drawn_39 : decode cX6_drawn 39 = .ok (.iload_n 2, 1) := by decide +kernel
theorem dX6_drawn_40 : decode cX6_drawn 40 = .ok (.bipush 9, 2) := by decide +kernel
theorem dX6_drawn_42 : decode cX6_drawn 42 = .ok (.iushr, 1) := by decide +kernel
theorem dX6_drawn_43 : decode cX6_drawn 43 = .ok (.bipush 48, 2) := by decide +kernel
theorem dX6_drawn_45 : decode cX6_drawn 45 = .ok (.irem, 1) := by decide +kernel
theorem dX6_drawn_46 : decode cX6_drawn 46 = .ok (.iastore, 1) := by decide +kernel
theorem dX6_drawn_47 : decode cX6_drawn 47 = .ok (.aload_n 0, 1) := by decide +kernel
theorem dX6_drawn_48 : decode cX6_drawn 48 = .ok (.getfield 29, 3) := by decide +kernel
theorem dX6_drawn_51 : decode cX6_drawn 51 = .ok (.iload_n 3, 1) := by decide +kernel
theorem dX6_drawn_52 : decode cX6_drawn 52 = .ok (.iload_n 2, 1) := by decide +kernel
theorem dX6_drawn_53 : decode cX6_drawn 53 = .ok (.bipush 16, 2) := by decide +kernel
theorem dX6_drawn_55 : decode cX6_drawn 55 = .ok (.iushr, 1) := by decide +kernel
theorem dX6_drawn_56 : decode cX6_drawn 56 = .ok (.bipush 21, 2) := by decide +kernel
theorem dX6_drawn_58 : decode cX6_drawn 58 = .ok (.irem, 1) := by decide +kernel
theorem dX6_drawn_59 : decode cX6_drawn 59 = .ok (.iastore, 1) := by decide +kernel
theorem dX6_drawn_60 : decode cX6_drawn 60 = .ok (.iinc 3 1, 3) := by decide +kernel
theorem dX6_drawn_63 : decode cX6_drawn 63 = .ok (.goto (-55), 3) := by decide +kernel
theorem dX6_drawn_66 : decode cX6_drawn 66 = .ok (.aload_n 0, 1) := by decide +kernel
theorem dX6_drawn_67 : decode cX6_drawn 67 = .ok (.bipush 63, 2) := by decide +kernel
theorem dX6_drawn_69 : decode cX6_drawn 69 = .ok (.invokevirtual 296, 3) := by decide +kernel
theorem dX6_drawn_72 : decode cX6_drawn 72 = .ok (.aload_n 0, 1) := by decide +kernel
theorem dX6_drawn_73 : decode cX6_drawn 73 = .ok (.getfield 260, 3) := by decide +kernel
theorem dX6_drawn_76 : decode cX6_drawn 76 = .ok (.istore_n 3, 1) := by decide +kernel
theorem dX6_drawn_77 : decode cX6_drawn 77 = .ok (.aload_n 0, 1) := by decide +kernel
theorem dX6_drawn_78 : decode cX6_drawn 78 = .ok (.invokevirtual 299, 3) := by decide +kernel
theorem dX6_drawn_81 : decode cX6_drawn 81 = .ok (.iload_n 3, 1) := by decide +kernel
theorem dX6_drawn_82 : decode cX6_drawn 82 = .ok (.ireturn, 1) := by decide +kernel
theorem dX6_odds_0 : decode cX6_odds 0 = .ok (.iload_n 2, 1) := by decide +kernel
theorem dX6_odds_1 : decode cX6_odds 1 = .ok (.i2l, 1) := by decide +kernel
theorem dX6_odds_2 : decode cX6_odds 2 = .ok (.lconst 1, 1) := by decide +kernel
theorem dX6_odds_3 : decode cX6_odds 3 = .ok (.ldc2_w 98, 3) := by decide +kernel
theorem dX6_odds_6 : decode cX6_odds 6 = .ok (.invokestatic 76, 3) := by decide +kernel
theorem dX6_odds_9 : decode cX6_odds 9 = .ok (.ifCond .eq 26, 3) := by decide +kernel
theorem dX6_odds_12 : decode cX6_odds 12 = .ok (.iload_n 3, 1) := by decide +kernel
theorem dX6_odds_13 : decode cX6_odds 13 = .ok (.i2l, 1) := by decide +kernel
theorem dX6_odds_14 : decode cX6_odds 14 = .ok (.lconst 0, 1) := by decide +kernel
theorem dX6_odds_15 : decode cX6_odds 15 = .ok (.ldc2_w 317, 3) := by decide +kernel
theorem dX6_odds_18 : decode cX6_odds 18 = .ok (.invokestatic 76, 3) := by decide +kernel
theorem dX6_odds_21 : decode cX6_odds 21 = .ok (.ifCond .eq 14, 3) := by decide +kernel
theorem dX6_odds_24 : decode cX6_odds 24 = .ok (.iload 4, 2) := by decide +kernel
theorem dX6_odds_26 : decode cX6_odds 26 = .ok (.i2l, 1) := by decide +kernel
theorem dX6_odds_27 : decode cX6_odds 27 = .ok (.lconst 0, 1) := by decide +kernel
theorem dX6_odds_28 : decode cX6_odds 28 = .ok (.lconst 1, 1) := by decide +kernel
theorem dX6_odds_29 : decode cX6_odds 29 = .ok (.invokestatic 76, 3) := by decide +kernel
theorem dX6_odds_32 : decode cX6_odds 32 = .ok (.ifCond .ne 7, 3) := by decide +kernel
theorem dX6_odds_35 : decode cX6_odds 35 = .ok (.ldc2_w 319, 3) := by decide +kernel
theorem dX6_odds_38 : decode cX6_odds 38 = .ok (.lreturn, 1) := by decide +kernel
theorem dX6_odds_39 : decode cX6_odds 39 = .ok (.lconst 0, 1) := by decide +kernel
theorem dX6_odds_40 : decode cX6_odds 40 = .ok (.lstore 5, 2) := by decide +kernel
theorem dX6_odds_42 : decode cX6_odds 42 = .ok (.iconst 0, 1) := by decide +kernel
theorem dX6_odds_43 : decode cX6_odds 43 = .ok (.istore 7, 2) := by decide +kernel
theorem dX6_odds_45 : decode cX6_odds 45 = .ok (.iload 7, 2) := by decide +kernel
theorem dX6_odds_47 : decode cX6_odds 47 = .ok (.iload_n 2, 1) := by decide +kernel
theorem dX6_odds_48 : decode cX6_odds 48 = .ok (.if_icmp .ge 31, 3) := by decide +kernel
theorem dX6_odds_51 : decode cX6_odds 51 = .ok (.lload 5, 2) := by decide +kernel
theorem dX6_odds_53 : decode cX6_odds 53 = .ok (.aload_n 0, 1) := by decide +kernel
theorem dX6_odds_54 : decode cX6_odds 54 = .ok (.iload_n 1, 1) := by decide +kernel
theorem dX6_odds_55 : decode cX6_odds 55 = .ok (.iload 7, 2) := by decide +kernel
theorem dX6_odds_57 : decode cX6_odds 57 = .ok (.iadd, 1) := by decide +kernel
theorem dX6_odds_58 : decode cX6_odds 58 = .ok (.invokevirtual 321, 3) := by decide +kernel
theorem dX6_odds_61 : decode cX6_odds 61 = .ok (.iload_n 3, 1) := by decide +kernel
theorem dX6_odds_62 : decode cX6_odds 62 = .ok (.if_icmp .lt 7, 3) := by decide +kernel
theorem dX6_odds_65 : decode cX6_odds 65 = .ok (.lconst 1, 1) := by decide +kernel
theorem dX6_odds_66 : decode cX6_odds 66 = .ok (.goto 4, 3) := by decide +kernel
theorem dX6_odds_69 : decode cX6_odds 69 = .ok (.lconst 0, 1) := by decide +kernel
theorem dX6_odds_70 : decode cX6_odds 70 = .ok (.ladd, 1) := by decide +kernel
theorem dX6_odds_71 : decode cX6_odds 71 = .ok (.lstore 5, 2) := by decide +kernel
theorem dX6_odds_73 : decode cX6_odds 73 = .ok (.iinc 7 1, 3) := by decide +kernel
theorem dX6_odds_76 : decode cX6_odds 76 = .ok (.goto (-31), 3) := by decide +kernel
theorem dX6_odds_79 : decode cX6_odds 79 = .ok (.lload 5, 2) := by decide +kernel
theorem dX6_odds_81 : decode cX6_odds 81 = .ok (.lstore 7, 2) := by decide +kernel
theorem dX6_odds_83 : decode cX6_odds 83 = .ok (.iload_n 2, 1) := by decide +kernel
theorem dX6_odds_84 : decode cX6_odds 84 = .ok (.i2l, 1) := by decide +kernel
theorem dX6_odds_85 : decode cX6_odds 85 = .ok (.lstore 9, 2) := by decide +kernel
theorem dX6_odds_87 : decode cX6_odds 87 = .ok (.lload 9, 2) := by decide +kernel
theorem dX6_odds_89 : decode cX6_odds 89 = .ok (.lconst 0, 1) := by decide +kernel
theorem dX6_odds_90 : decode cX6_odds 90 = .ok (.lcmp, 1) := by decide +kernel
theorem dX6_odds_91 : decode cX6_odds 91 = .ok (.ifCond .eq 21, 3) := by decide +kernel
theorem dX6_odds_94 : decode cX6_odds 94 = .ok (.lload 7, 2) := by decide +kernel
theorem dX6_odds_96 : decode cX6_odds 96 = .ok (.lload 9, 2) := by decide +kernel
theorem dX6_odds_98 : decode cX6_odds 98 = .ok (.lrem, 1) := by decide +kernel
theorem dX6_odds_99 : decode cX6_odds 99 = .ok (.lstore 11, 2) := by decide +kernel
theorem dX6_odds_101 : decode cX6_odds 101 = .ok (.lload 9, 2) := by decide +kernel
theorem dX6_odds_103 : decode cX6_odds 103 = .ok (.lstore 7, 2) := by decide +kernel
theorem dX6_odds_105 : decode cX6_odds 105 = .ok (.lload 11, 2) := by decide +kernel
theorem dX6_odds_107 : decode cX6_odds 107 = .ok (.lstore 9, 2) := by decide +kernel
theorem dX6_odds_109 : decode cX6_odds 109 = .ok (.goto (-22), 3) := by decide +kernel
theorem dX6_odds_112 : decode cX6_odds 112 = .ok (.iload 4, 2) := by decide +kernel
theorem dX6_odds_114 : decode cX6_odds 114 = .ok (.ifCond .ne 11, 3) := by decide +kernel
theorem dX6_odds_117 : decode cX6_odds 117 = .ok (.lload 5, 2) := by decide +kernel
theorem dX6_odds_119 : decode cX6_odds 119 = .ok (.lload 7, 2) := by decide +kernel
theorem dX6_odds_121 : decode cX6_odds 121 = .ok (.ldiv, 1) := by decide +kernel
theorem dX6_odds_122 : decode cX6_odds 122 = .ok (.goto 8, 3) := by decide +kernel
theorem dX6_odds_125 : decode cX6_odds 125 = .ok (.iload_n 2, 1) := by decide +kernel
theorem dX6_odds_126 : decode cX6_odds 126 = .ok (.i2l, 1) := by decide +kernel
theorem dX6_odds_127 : decode cX6_odds 127 = .ok (.lload 7, 2) := by decide +kernel
theorem dX6_odds_129 : decode cX6_odds 129 = .ok (.ldiv, 1) := by decide +kernel
theorem dX6_odds_130 : decode cX6_odds 130 = .ok (.lreturn, 1) := by decide +kernel
theorem dX6_image_0 : decode cX6_image 0 = .ok (.iconst 0, 1) := by decide +kernel
theorem dX6_image_1 : decode cX6_image 1 = .ok (.istore_n 1, 1) := by decide +kernel
theorem dX6_image_2 : decode cX6_image 2 = .ok (.iload_n 1, 1) := by decide +kernel
theorem dX6_image_3 : decode cX6_image 3 = .ok (.bipush 12, 2) := by decide +kernel
theorem dX6_image_5 : decode cX6_image 5 = .ok (.if_icmp .ge 33, 3) := by decide +kernel
theorem dX6_image_8 : decode cX6_image 8 = .ok (.aload_n 0, 1) := by decide +kernel
theorem dX6_image_9 : decode cX6_image 9 = .ok (.getfield 44, 3) := by decide +kernel
theorem dX6_image_12 : decode cX6_image 12 = .ok (.iload_n 1, 1) := by decide +kernel
theorem dX6_image_13 : decode cX6_image 13 = .ok (.aload_n 0, 1) := by decide +kernel
theorem dX6_image_14 : decode cX6_image 14 = .ok (.getfield 26, 3) := by decide +kernel
theorem dX6_image_17 : decode cX6_image 17 = .ok (.iload_n 1, 1) := by decide +kernel
theorem dX6_image_18 : decode cX6_image 18 = .ok (.iaload, 1) := by decide +kernel
theorem dX6_image_19 : decode cX6_image 19 = .ok (.iastore, 1) := by decide +kernel
theorem dX6_image_20 : decode cX6_image 20 = .ok (.aload_n 0, 1) := by decide +kernel
theorem dX6_image_21 : decode cX6_image 21 = .ok (.getfield 47, 3) := by decide +kernel
theorem dX6_image_24 : decode cX6_image 24 = .ok (.iload_n 1, 1) := by decide +kernel
theorem dX6_image_25 : decode cX6_image 25 = .ok (.aload_n 0, 1) := by decide +kernel
theorem dX6_image_26 : decode cX6_image 26 = .ok (.getfield 29, 3) := by decide +kernel
theorem dX6_image_29 : decode cX6_image 29 = .ok (.iload_n 1, 1) := by decide +kernel
theorem dX6_image_30 : decode cX6_image 30 = .ok (.iaload, 1) := by decide +kernel
theorem dX6_image_31 : decode cX6_image 31 = .ok (.iastore, 1) := by decide +kernel
theorem dX6_image_32 : decode cX6_image 32 = .ok (.iinc 1 1, 3) := by decide +kernel
theorem dX6_image_35 : decode cX6_image 35 = .ok (.goto (-33), 3) := by decide +kernel
theorem dX6_image_38 : decode cX6_image 38 = .ok (.aload_n 0, 1) := by decide +kernel
theorem dX6_image_39 : decode cX6_image 39 = .ok (.aload_n 0, 1) := by decide +kernel
theorem dX6_image_40 : decode cX6_image 40 = .ok (.getfield 73, 3) := by decide +kernel
theorem dX6_image_43 : decode cX6_image 43 = .ok (.putfield 50, 3) := by decide +kernel
theorem dX6_image_46 : decode cX6_image 46 = .ok (.aload_n 0, 1) := by decide +kernel
theorem dX6_image_47 : decode cX6_image 47 = .ok (.aload_n 0, 1) := by decide +kernel
theorem dX6_image_48 : decode cX6_image 48 = .ok (.getfield 80, 3) := by decide +kernel
theorem dX6_image_51 : decode cX6_image 51 = .ok (.putfield 324, 3) := by decide +kernel
theorem dX6_image_54 : decode cX6_image 54 = .ok (.aload_n 0, 1) := by decide +kernel
theorem dX6_image_55 : decode cX6_image 55 = .ok (.aload_n 0, 1) := by decide +kernel
theorem dX6_image_56 : decode cX6_image 56 = .ok (.getfield 105, 3) := by decide +kernel
theorem dX6_image_59 : decode cX6_image 59 = .ok (.putfield 327, 3) := by decide +kernel
theorem dX6_image_62 : decode cX6_image 62 = .ok (.aload_n 0, 1) := by decide +kernel
theorem dX6_image_63 : decode cX6_image 63 = .ok (.aload_n 0, 1) := by decide +kernel
theorem dX6_image_64 : decode cX6_image 64 = .ok (.getfield 35, 3) := by decide +kernel
theorem dX6_image_67 : decode cX6_image 67 = .ok (.putfield 330, 3) := by decide +kernel
theorem dX6_image_70 : decode cX6_image 70 = .ok (.aload_n 0, 1) := by decide +kernel
theorem dX6_image_71 : decode cX6_image 71 = .ok (.aload_n 0, 1) := by decide +kernel
theorem dX6_image_72 : decode cX6_image 72 = .ok (.getfield 276, 3) := by decide +kernel
theorem dX6_image_75 : decode cX6_image 75 = .ok (.putfield 333, 3) := by decide +kernel
theorem dX6_image_78 : decode cX6_image 78 = .ok (.aload_n 0, 1) := by decide +kernel
theorem dX6_image_79 : decode cX6_image 79 = .ok (.aload_n 0, 1) := by decide +kernel
theorem dX6_image_80 : decode cX6_image 80 = .ok (.getfield 273, 3) := by decide +kernel
theorem dX6_image_83 : decode cX6_image 83 = .ok (.putfield 336, 3) := by decide +kernel
theorem dX6_image_86 : decode cX6_image 86 = .ok (.aload_n 0, 1) := by decide +kernel
theorem dX6_image_87 : decode cX6_image 87 = .ok (.aload_n 0, 1) := by decide +kernel
theorem dX6_image_88 : decode cX6_image 88 = .ok (.getfield 245, 3) := by decide +kernel
theorem dX6_image_91 : decode cX6_image 91 = .ok (.putfield 339, 3) := by decide +kernel
theorem dX6_image_94 : decode cX6_image 94 = .ok (.aload_n 0, 1) := by decide +kernel
theorem dX6_image_95 : decode cX6_image 95 = .ok (.getfield 73, 3) := by decide +kernel
theorem dX6_image_98 : decode cX6_image 98 = .ok (.aload_n 0, 1) := by decide +kernel
theorem dX6_image_99 : decode cX6_image 99 = .ok (.getfield 80, 3) := by decide +kernel
theorem dX6_image_102 : decode cX6_image 102 = .ok (.invokestatic 304, 3) := by decide +kernel
theorem dX6_image_105 : decode cX6_image 105 = .ok (.isub, 1) := by decide +kernel
theorem dX6_image_106 : decode cX6_image 106 = .ok (.ireturn, 1) := by decide +kernel
theorem dX6_back_0 : decode cX6_back 0 = .ok (.aload_n 0, 1) := by decide +kernel
theorem dX6_back_1 : decode cX6_back 1 = .ok (.getfield 50, 3) := by decide +kernel
theorem dX6_back_4 : decode cX6_back 4 = .ok (.iconst (-1), 1) := by decide +kernel
theorem dX6_back_5 : decode cX6_back 5 = .ok (.if_icmp .ne 6, 3) := by decide +kernel
theorem dX6_back_8 : decode cX6_back 8 = .ok (.bipush (-3), 2) := by decide +kernel
theorem dX6_back_10 : decode cX6_back 10 = .ok (.ireturn, 1) := by decide +kernel
theorem dX6_back_11 : decode cX6_back 11 = .ok (.iconst 0, 1) := by decide +kernel
theorem dX6_back_12 : decode cX6_back 12 = .ok (.istore_n 1, 1) := by decide +kernel
theorem dX6_back_13 : decode cX6_back 13 = .ok (.iload_n 1, 1) := by decide +kernel
theorem dX6_back_14 : decode cX6_back 14 = .ok (.aload_n 0, 1) := by decide +kernel
theorem dX6_back_15 : decode cX6_back 15 = .ok (.getfield 50, 3) := by decide +kernel
theorem dX6_back_18 : decode cX6_back 18 = .ok (.if_icmp .ge 33, 3) := by decide +kernel
theorem dX6_back_21 : decode cX6_back 21 = .ok (.aload_n 0, 1) := by decide +kernel
theorem dX6_back_22 : decode cX6_back 22 = .ok (.getfield 26, 3) := by decide +kernel
theorem dX6_back_25 : decode cX6_back 25 = .ok (.iload_n 1, 1) := by decide +kernel
theorem dX6_back_26 : decode cX6_back 26 = .ok (.aload_n 0, 1) := by decide +kernel
theorem dX6_back_27 : decode cX6_back 27 = .ok (.getfield 44, 3) := by decide +kernel
theorem dX6_back_30 : decode cX6_back 30 = .ok (.iload_n 1, 1) := by decide +kernel
theorem dX6_back_31 : decode cX6_back 31 = .ok (.iaload, 1) := by decide +kernel
theorem dX6_back_32 : decode cX6_back 32 = .ok (.iastore, 1) := by decide +kernel
theorem dX6_back_33 : decode cX6_back 33 = .ok (.aload_n 0, 1) := by decide +kernel
theorem dX6_back_34 : decode cX6_back 34 = .ok (.getfield 29, 3) := by decide +kernel
theorem dX6_back_37 : decode cX6_back 37 = .ok (.iload_n 1, 1) := by decide +kernel
theorem dX6_back_38 : decode cX6_back 38 = .ok (.aload_n 0, 1) := by decide +kernel
theorem dX6_back_39 : decode cX6_back 39 = .ok (.getfield 47, 3) := by decide +kernel
theorem dX6_back_42 : decode cX6_back 42 = .ok (.iload_n 1, 1) := by decide +kernel
theorem dX6_back_43 : decode cX6_back 43 = .ok (.iaload, 1) := by decide +kernel
theorem dX6_back_44 : decode cX6_back 44 = .ok (.iastore, 1) := by decide +kernel
theorem dX6_back_45 : decode cX6_back 45 = .ok (.iinc 1 1, 3) := by decide +kernel
theorem dX6_back_48 : decode cX6_back 48 = .ok (.goto (-35), 3) := by decide +kernel
theorem dX6_back_51 : decode cX6_back 51 = .ok (.aload_n 0, 1) := by decide +kernel
theorem dX6_back_52 : decode cX6_back 52 = .ok (.aload_n 0, 1) := by decide +kernel
theorem dX6_back_53 : decode cX6_back 53 = .ok (.getfield 50, 3) := by decide +kernel
theorem dX6_back_56 : decode cX6_back 56 = .ok (.putfield 73, 3) := by decide +kernel
theorem dX6_back_59 : decode cX6_back 59 = .ok (.aload_n 0, 1) := by decide +kernel
theorem dX6_back_60 : decode cX6_back 60 = .ok (.aload_n 0, 1) := by decide +kernel
theorem dX6_back_61 : decode cX6_back 61 = .ok (.getfield 324, 3) := by decide +kernel
theorem dX6_back_64 : decode cX6_back 64 = .ok (.putfield 80, 3) := by decide +kernel
theorem dX6_back_67 : decode cX6_back 67 = .ok (.aload_n 0, 1) := by decide +kernel
theorem dX6_back_68 : decode cX6_back 68 = .ok (.aload_n 0, 1) := by decide +kernel
theorem dX6_back_69 : decode cX6_back 69 = .ok (.getfield 327, 3) := by decide +kernel
theorem dX6_back_72 : decode cX6_back 72 = .ok (.putfield 105, 3) := by decide +kernel
theorem dX6_back_75 : decode cX6_back 75 = .ok (.aload_n 0, 1) := by decide +kernel
theorem dX6_back_76 : decode cX6_back 76 = .ok (.aload_n 0, 1) := by decide +kernel
theorem dX6_back_77 : decode cX6_back 77 = .ok (.getfield 330, 3) := by decide +kernel
theorem dX6_back_80 : decode cX6_back 80 = .ok (.putfield 35, 3) := by decide +kernel
theorem dX6_back_83 : decode cX6_back 83 = .ok (.aload_n 0, 1) := by decide +kernel
theorem dX6_back_84 : decode cX6_back 84 = .ok (.aload_n 0, 1) := by decide +kernel
theorem dX6_back_85 : decode cX6_back 85 = .ok (.getfield 333, 3) := by decide +kernel
theorem dX6_back_88 : decode cX6_back 88 = .ok (.putfield 276, 3) := by decide +kernel
theorem dX6_back_91 : decode cX6_back 91 = .ok (.aload_n 0, 1) := by decide +kernel
theorem dX6_back_92 : decode cX6_back 92 = .ok (.aload_n 0, 1) := by decide +kernel
theorem dX6_back_93 : decode cX6_back 93 = .ok (.getfield 336, 3) := by decide +kernel
theorem dX6_back_96 : decode cX6_back 96 = .ok (.putfield 273, 3) := by decide +kernel
theorem dX6_back_99 : decode cX6_back 99 = .ok (.aload_n 0, 1) := by decide +kernel
theorem dX6_back_100 : decode cX6_back 100 = .ok (.aload_n 0, 1) := by decide +kernel
theorem dX6_back_101 : decode cX6_back 101 = .ok (.getfield 339, 3) := by decide +kernel
theorem dX6_back_104 : decode cX6_back 104 = .ok (.putfield 245, 3) := by decide +kernel
theorem dX6_back_107 : decode cX6_back 107 = .ok (.aload_n 0, 1) := by decide +kernel
theorem dX6_back_108 : decode cX6_back 108 = .ok (.getfield 73, 3) := by decide +kernel
theorem dX6_back_111 : decode cX6_back 111 = .ok (.aload_n 0, 1) := by decide +kernel
theorem dX6_back_112 : decode cX6_back 112 = .ok (.getfield 80, 3) := by decide +kernel
theorem dX6_back_115 : decode cX6_back 115 = .ok (.invokestatic 304, 3) := by decide +kernel
theorem dX6_back_118 : decode cX6_back 118 = .ok (.isub, 1) := by decide +kernel
theorem dX6_back_119 : decode cX6_back 119 = .ok (.ireturn, 1) := by decide +kernel
theorem dX6_count_0 : decode cX6_count 0 = .ok (.iload_n 1, 1) := by decide +kernel
theorem dX6_count_1 : decode cX6_count 1 = .ok (.i2l, 1) := by decide +kernel
theorem dX6_count_2 : decode cX6_count 2 = .ok (.lconst 0, 1) := by decide +kernel
theorem dX6_count_3 : decode cX6_count 3 = .ok (.ldc2_w 342, 3) := by decide +kernel
theorem dX6_count_6 : decode cX6_count 6 = .ok (.invokestatic 76, 3) := by decide +kernel
theorem dX6_count_9 : decode cX6_count 9 = .ok (.ifCond .ne 6, 3) := by decide +kernel
theorem dX6_count_12 : decode cX6_count 12 = .ok (.bipush (-2), 2) := by decide +kernel
theorem dX6_count_14 : decode cX6_count 14 = .ok (.ireturn, 1) := by decide +kernel
theorem dX6_count_15 : decode cX6_count 15 = .ok (.iload_n 1, 1) := by decide +kernel
theorem dX6_count_16 : decode cX6_count 16 = .ok (.iconst 4, 1) := by decide +kernel
theorem dX6_count_17 : decode cX6_count 17 = .ok (.if_icmp .ge 46, 3) := by decide +kernel
theorem dX6_count_20 : decode cX6_count 20 = .ok (.iload_n 1, 1) := by decide +kernel
theorem dX6_count_21 : decode cX6_count 21 = .ok (.ifCond .ne 10, 3) := by decide +kernel
theorem dX6_count_24 : decode cX6_count 24 = .ok (.aload_n 0, 1) := by decide +kernel
theorem dX6_count_25 : decode cX6_count 25 = .ok (.getfield 73, 3) := by decide +kernel
theorem dX6_count_28 : decode cX6_count 28 = .ok (.goto 34, 3) := by decide +kernel
theorem dX6_count_31 : decode cX6_count 31 = .ok (.iload_n 1, 1) := by decide +kernel
theorem dX6_count_32 : decode cX6_count 32 = .ok (.iconst 1, 1) := by decide +kernel
theorem dX6_count_33 : decode cX6_count 33 = .ok (.if_icmp .ne 13, 3) := by decide +kernel
theorem dX6_count_36 : decode cX6_count 36 = .ok (.aload_n 0, 1) := by decide +kernel
theorem dX6_count_37 : decode cX6_count 37 = .ok (.getfield 80, 3) := by decide +kernel
theorem dX6_count_40 : decode cX6_count 40 = .ok (.invokestatic 304, 3) := by decide +kernel
theorem dX6_count_43 : decode cX6_count 43 = .ok (.goto 19, 3) := by decide +kernel
theorem dX6_count_46 : decode cX6_count 46 = .ok (.iload_n 1, 1) := by decide +kernel
theorem dX6_count_47 : decode cX6_count 47 = .ok (.iconst 2, 1) := by decide +kernel
theorem dX6_count_48 : decode cX6_count 48 = .ok (.if_icmp .ne 10, 3) := by decide +kernel
theorem dX6_count_51 : decode cX6_count 51 = .ok (.aload_n 0, 1) := by decide +kernel
theorem dX6_count_52 : decode cX6_count 52 = .ok (.getfield 105, 3) := by decide +kernel
theorem dX6_count_55 : decode cX6_count 55 = .ok (.goto 7, 3) := by decide +kernel
theorem dX6_count_58 : decode cX6_count 58 = .ok (.aload_n 0, 1) := by decide +kernel
theorem dX6_count_59 : decode cX6_count 59 = .ok (.getfield 35, 3) := by decide +kernel
theorem dX6_count_62 : decode cX6_count 62 = .ok (.ireturn, 1) := by decide +kernel
theorem dX6_count_63 : decode cX6_count 63 = .ok (.iload_n 1, 1) := by decide +kernel
theorem dX6_count_64 : decode cX6_count 64 = .ok (.bipush 6, 2) := by decide +kernel
theorem dX6_count_66 : decode cX6_count 66 = .ok (.if_icmp .ge 20, 3) := by decide +kernel
theorem dX6_count_69 : decode cX6_count 69 = .ok (.iload_n 1, 1) := by decide +kernel
theorem dX6_count_70 : decode cX6_count 70 = .ok (.iconst 4, 1) := by decide +kernel
theorem dX6_count_71 : decode cX6_count 71 = .ok (.if_icmp .ne 10, 3) := by decide +kernel
theorem dX6_count_74 : decode cX6_count 74 = .ok (.aload_n 0, 1) := by decide +kernel
theorem dX6_count_75 : decode cX6_count 75 = .ok (.getfield 276, 3) := by decide +kernel
