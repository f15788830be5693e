theorem dX6_atom_15 : decode cX6_atom 15 = .ok (.ifCond .eq 146, 3) := by decide +kernel
theorem dX6_atom_18 : decode cX6_atom 18 = .ok (.aload_n 0, 1) := by decide +kernel
theorem dX6_atom_19 : decode cX6_atom 19 = .ok (.invokevirtual 212, 3) := by decide +kernel
theorem dX6_atom_22 : decode cX6_atom 22 = .ok (.ineg, 1) := by decide +kernel
theorem dX6_atom_23 : decode cX6_atom 23 = .ok (.istore_n 1, 1) := by decide +kernel
theorem dX6_atom_24 : decode cX6_atom 24 = .ok (.aload_n 0, 1) := by decide +kernel
theorem dX6_atom_25 : decode cX6_atom 25 = .ok (.dup, 1) := by decide +kernel
theorem dX6_atom_26 : decode cX6_atom 26 = .ok (.getfield 174, 3) := by decide +kernel
theorem dX6_atom_29 : decode cX6_atom 29 = .ok (.iconst 1, 1) := by decide +kernel
theorem dX6_atom_30 : decode cX6_atom 30 = .ok (.isub, 1) := by decide +kernel
theorem dX6_atom_31 : decode cX6_atom 31 = .ok (.putfield 174, 3) := by decide +kernel
theorem dX6_atom_34 : decode cX6_atom 34 = .ok (.goto 127, 3) := by decide +kernel
theorem dX6_atom_37 : decode cX6_atom 37 = .ok (.aload_n 0, 1) := by decide +kernel
theorem dX6_atom_38 : decode cX6_atom 38 = .ok (.bipush 40, 2) := by decide +kernel
theorem dX6_atom_40 : decode cX6_atom 40 = .ok (.invokevirtual 205, 3) := by decide +kernel
theorem dX6_atom_43 : decode cX6_atom 43 = .ok (.ifCond .eq 52, 3) := by decide +kernel
theorem dX6_atom_46 : decode cX6_atom 46 = .ok (.aload_n 0, 1) := by decide +kernel
theorem dX6_atom_47 : decode cX6_atom 47 = .ok (.invokevirtual 208, 3) := by decide +kernel
theorem dX6_atom_50 : decode cX6_atom 50 = .ok (.ifCond .eq 111, 3) := by decide +kernel
theorem dX6_atom_53 : decode cX6_atom 53 = .ok (.aload_n 0, 1) := by decide +kernel
theorem dX6_atom_54 : decode cX6_atom 54 = .ok (.invokevirtual 216, 3) := by decide +kernel
theorem dX6_atom_57 : decode cX6_atom 57 = .ok (.istore_n 1, 1) := by decide +kernel
theorem dX6_atom_58 : decode cX6_atom 58 = .ok (.aload_n 0, 1) := by decide +kernel
theorem dX6_atom_59 : decode cX6_atom 59 = .ok (.bipush 41, 2) := by decide +kernel
theorem dX6_atom_61 : decode cX6_atom 61 = .ok (.invokevirtual 205, 3) := by decide +kernel
theorem dX6_atom_64 : decode cX6_atom 64 = .ok (.ifCond .ne 7, 3) := by decide +kernel
theorem dX6_atom_67 : decode cX6_atom 67 = .ok (.aload_n 0, 1) := by decide +kernel
theorem dX6_atom_68 : decode cX6_atom 68 = .ok (.invokevirtual 177, 3) := by decide +kernel
theorem dX6_atom_71 : decode cX6_atom 71 = .ok (.aload_n 0, 1) := by decide +kernel
theorem dX6_atom_72 : decode cX6_atom 72 = .ok (.dup, 1) := by decide +kernel
theorem dX6_atom_73 : decode cX6_atom 73 = .ok (.getfield 174, 3) := by decide +kernel
theorem dX6_atom_76 : decode cX6_atom 76 = .ok (.iconst 1, 1) := by decide +kernel
theorem dX6_atom_77 : decode cX6_atom 77 = .ok (.isub, 1) := by decide +kernel
theorem dX6_atom_78 : decode cX6_atom 78 = .ok (.putfield 174, 3) := by decide +kernel
theorem dX6_atom_81 : decode cX6_atom 81 = .ok (.aload_n 0, 1) := by decide +kernel
theorem dX6_atom_82 : decode cX6_atom 82 = .ok (.getfield 163, 3) := by decide +kernel
theorem dX6_atom_85 : decode cX6_atom 85 = .ok (.ifCond .ne 76, 3) := by decide +kernel
theorem dX6_atom_88 : decode cX6_atom 88 = .ok (.aload_n 0, 1) := by decide +kernel
theorem dX6_atom_89 : decode cX6_atom 89 = .ok (.invokevirtual 180, 3) := by decide +kernel
theorem dX6_atom_92 : decode cX6_atom 92 = .ok (.goto 69, 3) := by decide +kernel
theorem dX6_atom_95 : decode cX6_atom 95 = .ok (.aload_n 0, 1) := by decide +kernel
theorem dX6_atom_96 : decode cX6_atom 96 = .ok (.getfield 163, 3) := by decide +kernel
theorem dX6_atom_99 : decode cX6_atom 99 = .ok (.ifCond .ne 24, 3) := by decide +kernel
theorem dX6_atom_102 : decode cX6_atom 102 = .ok (.aload_n 0, 1) := by decide +kernel
theorem dX6_atom_103 : decode cX6_atom 103 = .ok (.getfield 146, 3) := by decide +kernel
theorem dX6_atom_106 : decode cX6_atom 106 = .ok (.iconst 2, 1) := by decide +kernel
theorem dX6_atom_107 : decode cX6_atom 107 = .ok (.if_icmp .ne 16, 3) := by decide +kernel
theorem dX6_atom_110 : decode cX6_atom 110 = .ok (.aload_n 0, 1) := by decide +kernel
theorem dX6_atom_111 : decode cX6_atom 111 = .ok (.getfield 157, 3) := by decide +kernel
theorem dX6_atom_114 : decode cX6_atom 114 = .ok (.l2i, 1) := by decide +kernel
theorem dX6_atom_115 : decode cX6_atom 115 = .ok (.istore_n 1, 1) := by decide +kernel
theorem dX6_atom_116 : decode cX6_atom 116 = .ok (.aload_n 0, 1) := by decide +kernel
theorem dX6_atom_117 : decode cX6_atom 117 = .ok (.invokevirtual 180, 3) := by decide +kernel
theorem dX6_atom_120 : decode cX6_atom 120 = .ok (.goto 41, 3) := by decide +kernel
theorem dX6_atom_123 : decode cX6_atom 123 = .ok (.aload_n 0, 1) := by decide +kernel
theorem dX6_atom_124 : decode cX6_atom 124 = .ok (.getfield 163, 3) := by decide +kernel
theorem dX6_atom_127 : decode cX6_atom 127 = .ok (.ifCond .ne 30, 3) := by decide +kernel
theorem dX6_atom_130 : decode cX6_atom 130 = .ok (.aload_n 0, 1) := by decide +kernel
theorem dX6_atom_131 : decode cX6_atom 131 = .ok (.getfield 146, 3) := by decide +kernel
theorem dX6_atom_134 : decode cX6_atom 134 = .ok (.iconst 1, 1) := by decide +kernel
theorem dX6_atom_135 : decode cX6_atom 135 = .ok (.if_icmp .ne 22, 3) := by decide +kernel
theorem dX6_atom_138 : decode cX6_atom 138 = .ok (.aload_n 0, 1) := by decide +kernel
theorem dX6_atom_139 : decode cX6_atom 139 = .ok (.invokevirtual 219, 3) := by decide +kernel
theorem dX6_atom_142 : decode cX6_atom 142 = .ok (.istore_n 1, 1) := by decide +kernel
theorem dX6_atom_143 : decode cX6_atom 143 = .ok (.aload_n 0, 1) := by decide +kernel
theorem dX6_atom_144 : decode cX6_atom 144 = .ok (.getfield 163, 3) := by decide +kernel
theorem dX6_atom_147 : decode cX6_atom 147 = .ok (.ifCond .ne 14, 3) := by decide +kernel
theorem dX6_atom_150 : decode cX6_atom 150 = .ok (.aload_n 0, 1) := by decide +kernel
theorem dX6_atom_151 : decode cX6_atom 151 = .ok (.invokevirtual 180, 3) := by decide +kernel
theorem dX6_atom_154 : decode cX6_atom 154 = .ok (.goto 7, 3) := by decide +kernel
theorem dX6_atom_157 : decode cX6_atom 157 = .ok (.aload_n 0, 1) := by decide +kernel
theorem dX6_atom_158 : decode cX6_atom 158 = .ok (.invokevirtual 177, 3) := by decide +kernel
theorem dX6_atom_161 : decode cX6_atom 161 = .ok (.iload_n 1, 1) := by decide +kernel
theorem dX6_atom_162 : decode cX6_atom 162 = .ok (.ireturn, 1) := by decide +kernel
theorem dX6_term_0 : decode cX6_term 0 = .ok (.aload_n 0, 1) := by decide +kernel
theorem dX6_term_1 : decode cX6_term 1 = .ok (.invokevirtual 212, 3) := by decide +kernel
theorem dX6_term_4 : decode cX6_term 4 = .ok (.istore_n 1, 1) := by decide +kernel
theorem dX6_term_5 : decode cX6_term 5 = .ok (.aload_n 0, 1) := by decide +kernel
theorem dX6_term_6 : decode cX6_term 6 = .ok (.bipush 42, 2) := by decide +kernel
theorem dX6_term_8 : decode cX6_term 8 = .ok (.invokevirtual 205, 3) := by decide +kernel
theorem dX6_term_11 : decode cX6_term 11 = .ok (.ifCond .eq 17, 3) := by decide +kernel
theorem dX6_term_14 : decode cX6_term 14 = .ok (.aload_n 0, 1) := by decide +kernel
theorem dX6_term_15 : decode cX6_term 15 = .ok (.invokevirtual 180, 3) := by decide +kernel
theorem dX6_term_18 : decode cX6_term 18 = .ok (.iload_n 1, 1) := by decide +kernel
theorem dX6_term_19 : decode cX6_term 19 = .ok (.aload_n 0, 1) := by decide +kernel
theorem dX6_term_20 : decode cX6_term 20 = .ok (.invokevirtual 212, 3) := by decide +kernel
theorem dX6_term_23 : decode cX6_term 23 = .ok (.imul, 1) := by decide +kernel
theorem dX6_term_24 : decode cX6_term 24 = .ok (.istore_n 1, 1) := by decide +kernel
theorem dX6_term_25 : decode cX6_term 25 = .ok (.goto (-20), 3) := by decide +kernel
theorem dX6_term_28 : decode cX6_term 28 = .ok (.iload_n 1, 1) := by decide +kernel
theorem dX6_term_29 : decode cX6_term 29 = .ok (.ireturn, 1) := by decide +kernel
theorem dX6_added_0 : decode cX6_added 0 = .ok (.aload_n 0, 1) := by decide +kernel
theorem dX6_added_1 : decode cX6_added 1 = .ok (.invokevirtual 222, 3) := by decide +kernel
theorem dX6_added_4 : decode cX6_added 4 = .ok (.istore_n 1, 1) := by decide +kernel
theorem dX6_added_5 : decode cX6_added 5 = .ok (.aload_n 0, 1) := by decide +kernel
theorem dX6_added_6 : decode cX6_added 6 = .ok (.bipush 43, 2) := by decide +kernel
theorem dX6_added_8 : decode cX6_added 8 = .ok (.invokevirtual 205, 3) := by decide +kernel
theorem dX6_added_11 : decode cX6_added 11 = .ok (.ifCond .ne 12, 3) := by decide +kernel
theorem dX6_added_14 : decode cX6_added 14 = .ok (.aload_n 0, 1) := by decide +kernel
theorem dX6_added_15 : decode cX6_added 15 = .ok (.bipush 45, 2) := by decide +kernel
theorem dX6_added_17 : decode cX6_added 17 = .ok (.invokevirtual 205, 3) := by decide +kernel
theorem dX6_added_20 : decode cX6_added 20 = .ok (.ifCond .eq 46, 3) := by decide +kernel
theorem dX6_added_23 : decode cX6_added 23 = .ok (.aload_n 0, 1) := by decide +kernel
theorem dX6_added_24 : decode cX6_added 24 = .ok (.getfield 157, 3) := by decide +kernel
theorem dX6_added_27 : decode cX6_added 27 = .ok (.ldc2_w 225, 3) := by decide +kernel
theorem dX6_added_30 : decode cX6_added 30 = .ok (.lcmp, 1) := by decide +kernel
theorem dX6_added_31 : decode cX6_added 31 = .ok (.ifCond .ne 7, 3) := by decide +kernel
theorem dX6_added_34 : decode cX6_added 34 = .ok (.iconst 1, 1) := by decide +kernel
theorem dX6_added_35 : decode cX6_added 35 = .ok (.goto 4, 3) := by decide +kernel
theorem dX6_added_38 : decode cX6_added 38 = .ok (.iconst 0, 1) := by decide +kernel
theorem dX6_added_39 : decode cX6_added 39 = .ok (.istore_n 2, 1) := by decide +kernel
theorem dX6_added_40 : decode cX6_added 40 = .ok (.aload_n 0, 1) := by decide +kernel
theorem dX6_added_41 : decode cX6_added 41 = .ok (.invokevirtual 180, 3) := by decide +kernel
theorem dX6_added_44 : decode cX6_added 44 = .ok (.aload_n 0, 1) := by decide +kernel
theorem dX6_added_45 : decode cX6_added 45 = .ok (.invokevirtual 222, 3) := by decide +kernel
theorem dX6_added_48 : decode cX6_added 48 = .ok (.istore_n 3, 1) := by decide +kernel
theorem dX6_added_49 : decode cX6_added 49 = .ok (.iload_n 2, 1) := by decide +kernel
theorem dX6_added_50 : decode cX6_added 50 = .ok (.ifCond .eq 9, 3) := by decide +kernel
theorem dX6_added_53 : decode cX6_added 53 = .ok (.iload_n 1, 1) := by decide +kernel
theorem dX6_added_54 : decode cX6_added 54 = .ok (.iload_n 3, 1) := by decide +kernel
theorem dX6_added_55 : decode cX6_added 55 = .ok (.iadd, 1) := by decide +kernel
theorem dX6_added_56 : decode cX6_added 56 = .ok (.goto 6, 3) := by decide +kernel
theorem dX6_added_59 : decode cX6_added 59 = .ok (.iload_n 1, 1) := by decide +kernel
theorem dX6_added_60 : decode cX6_added 60 = .ok (.iload_n 3, 1) := by decide +kernel
theorem dX6_added_61 : decode cX6_added 61 = .ok (.isub, 1) := by decide +kernel
theorem dX6_added_62 : decode cX6_added 62 = .ok (.istore_n 1, 1) := by decide +kernel
theorem dX6_added_63 : decode cX6_added 63 = .ok (.goto (-58), 3) := by decide +kernel
theorem dX6_added_66 : decode cX6_added 66 = .ok (.iload_n 1, 1) := by decide +kernel
theorem dX6_added_67 : decode cX6_added 67 = .ok (.ireturn, 1) := by decide +kernel
theorem dX6_not_0 : decode cX6_not 0 = .ok (.aload_n 0, 1) := by decide +kernel
theorem dX6_not_1 : decode cX6_not 1 = .ok (.bipush 110, 2) := by decide +kernel
theorem dX6_not_3 : decode cX6_not 3 = .ok (.bipush 111, 2) := by decide +kernel
theorem dX6_not_5 : decode cX6_not 5 = .ok (.bipush 116, 2) := by decide +kernel
theorem dX6_not_7 : decode cX6_not 7 = .ok (.iconst 0, 1) := by decide +kernel
theorem dX6_not_8 : decode cX6_not 8 = .ok (.iconst 0, 1) := by decide +kernel
theorem dX6_not_9 : decode cX6_not 9 = .ok (.iconst 0, 1) := by decide +kernel
theorem dX6_not_10 : decode cX6_not 10 = .ok (.iconst 0, 1) := by decide +kernel
theorem dX6_not_11 : decode cX6_not 11 = .ok (.iconst 0, 1) := by decide +kernel
theorem dX6_not_12 : decode cX6_not 12 = .ok (.invokevirtual 183, 3) := by decide +kernel
theorem dX6_not_15 : decode cX6_not 15 = .ok (.ifCond .eq 37, 3) := by decide +kernel
theorem dX6_not_18 : decode cX6_not 18 = .ok (.aload_n 0, 1) := by decide +kernel
theorem dX6_not_19 : decode cX6_not 19 = .ok (.invokevirtual 208, 3) := by decide +kernel
theorem dX6_not_22 : decode cX6_not 22 = .ok (.ifCond .ne 5, 3) := by decide +kernel
theorem dX6_not_25 : decode cX6_not 25 = .ok (.iconst 0, 1) := by decide +kernel
theorem dX6_not_26 : decode cX6_not 26 = .ok (.ireturn, 1) := by decide +kernel
theorem dX6_not_27 : decode cX6_not 27 = .ok (.aload_n 0, 1) := by decide +kernel
theorem dX6_not_28 : decode cX6_not 28 = .ok (.invokevirtual 227, 3) := by decide +kernel
theorem dX6_not_31 : decode cX6_not 31 = .ok (.istore_n 1, 1) := by decide +kernel
theorem dX6_not_32 : decode cX6_not 32 = .ok (.aload_n 0, 1) := by decide +kernel
theorem dX6_not_33 : decode cX6_not 33 = .ok (.dup, 1) := by decide +kernel
theorem dX6_not_34 : decode cX6_not 34 = .ok (.getfield 174, 3) := by decide +kernel
theorem dX6_not_37 : decode cX6_not 37 = .ok (.iconst 1, 1) := by decide +kernel
theorem dX6_not_38 : decode cX6_not 38 = .ok (.isub, 1) := by decide +kernel
theorem dX6_not_39 : decode cX6_not 39 = .ok (.putfield 174, 3) := by decide +kernel
theorem dX6_not_42 : decode cX6_not 42 = .ok (.iload_n 1, 1) := by decide +kernel
theorem dX6_not_43 : decode cX6_not 43 = .ok (.ifCond .ne 7, 3) := by decide +kernel
theorem dX6_not_46 : decode cX6_not 46 = .ok (.iconst 1, 1) := by decide +kernel
theorem dX6_not_47 : decode cX6_not 47 = .ok (.goto 4, 3) := by decide +kernel
theorem dX6_not_50 : decode cX6_not 50 = .ok (.iconst 0, 1) := by decide +kernel
theorem dX6_not_51 : decode cX6_not 51 = .ok (.ireturn, 1) := by decide +kernel
theorem dX6_not_52 : decode cX6_not 52 = .ok (.aload_n 0, 1) := by decide +kernel
theorem dX6_not_53 : decode cX6_not 53 = .ok (.invokevirtual 230, 3) := by decide +kernel
theorem dX6_not_56 : decode cX6_not 56 = .ok (.istore_n 1, 1) := by decide +kernel
theorem dX6_not_57 : decode cX6_not 57 = .ok (.aload_n 0, 1) := by decide +kernel
theorem dX6_not_58 : decode cX6_not 58 = .ok (.bipush 60, 2) := by decide +kernel
theorem dX6_not_60 : decode cX6_not 60 = .ok (.invokevirtual 205, 3) := by decide +kernel
theorem dX6_not_63 : decode cX6_not 63 = .ok (.ifCond .ne 14, 3) := by decide +kernel
theorem dX6_not_66 : decode cX6_not 66 = .ok (.aload_n 0, 1) := by decide +kernel
theorem dX6_not_67 : decode cX6_not 67 = .ok (.bipush 61, 2) := by decide +kernel
theorem dX6_not_69 : decode cX6_not 69 = .ok (.invokevirtual 205, 3) := by decide +kernel
theorem dX6_not_72 : decode cX6_not 72 = .ok (.ifCond .ne 5, 3) := by decide +kernel
theorem dX6_not_75 : decode cX6_not 75 = .ok (.iload_n 1, 1) := by decide +kernel
theorem dX6_not_76 : decode cX6_not 76 = .ok (.ireturn, 1) := by decide +kernel
theorem dX6_not_77 : decode cX6_not 77 = .ok (.aload_n 0, 1) := by decide +kernel
theorem dX6_not_78 : decode cX6_not 78 = .ok (.getfield 157, 3) := by decide +kernel
theorem dX6_not_81 : decode cX6_not 81 = .ok (.ldc2_w 233, 3) := by decide +kernel
theorem dX6_not_84 : decode cX6_not 84 = .ok (.lcmp, 1) := by decide +kernel
theorem dX6_not_85 : decode cX6_not 85 = .ok (.ifCond .ne 7, 3) := by decide +kernel
theorem dX6_not_88 : decode cX6_not 88 = .ok (.iconst 1, 1) := by decide +kernel
theorem dX6_not_89 : decode cX6_not 89 = .ok (.goto 4, 3) := by decide +kernel
theorem dX6_not_92 : decode cX6_not 92 = .ok (.iconst 0, 1) := by decide +kernel
theorem dX6_not_93 : decode cX6_not 93 = .ok (.istore_n 2, 1) := by decide +kernel
theorem dX6_not_94 : decode cX6_not 94 = .ok (.aload_n 0, 1) := by decide +kernel
theorem dX6_not_95 : decode cX6_not 95 = .ok (.invokevirtual 180, 3) := by decide +kernel
theorem dX6_not_98 : decode cX6_not 98 = .ok (.aload_n 0, 1) := by decide +kernel
theorem dX6_not_99 : decode cX6_not 99 = .ok (.invokevirtual 230, 3) := by decide +kernel
theorem dX6_not_102 : decode cX6_not 102 = .ok (.istore_n 3, 1) := by decide +kernel
theorem dX6_not_103 : decode cX6_not 103 = .ok (.iload_n 2, 1) := by decide +kernel
theorem dX6_not_104 : decode cX6_not 104 = .ok (.ifCond .eq 11, 3) := by decide +kernel
theorem dX6_not_107 : decode cX6_not 107 = .ok (.iload_n 1, 1) := by decide +kernel
theorem dX6_not_108 : decode cX6_not 108 = .ok (.iload_n 3, 1) := by decide +kernel
theorem dX6_not_109 : decode cX6_not 109 = .ok (.if_icmp .ge 15, 3) := by decide +kernel
theorem dX6_not_112 : decode cX6_not 112 = .ok (.goto 8, 3) := by decide +kernel
theorem dX6_not_115 : decode cX6_not 115 = .ok (.iload_n 1, 1) := by decide +kernel
theorem dX6_not_116 : decode cX6_not 116 = .ok (.iload_n 3, 1) := by decide +kernel
theorem dX6_not_117 : decode cX6_not 117 = .ok (.if_icmp .ne 7, 3) := by decide +kernel
theorem dX6_not_120 : decode cX6_not 120 = .ok (.iconst 1, 1) := by decide +kernel
theorem dX6_not_121 : decode cX6_not 121 = .ok (.goto 4, 3) := by decide +kernel
theorem dX6_not_124 : decode cX6_not 124 = .ok (.iconst 0, 1) := by decide +kernel
theorem dX6_not_125 : decode cX6_not 125 = .ok (.ireturn, 1) := by decide +kernel
theorem dX6_both_0 : decode cX6_both 0 = .ok (.aload_n 0, 1) := by decide +kernel
theorem dX6_both_1 : decode cX6_both 1 = .ok (.invokevirtual 227, 3) := by decide +kernel
theorem dX6_both_4 : decode cX6_both 4 = .ok (.istore_n 1, 1) := by decide +kernel
theorem dX6_both_5 : decode cX6_both 5 = .ok (.aload_n 0, 1) := by decide +kernel
theorem dX6_both_6 : decode cX6_both 6 = .ok (.bipush 97, 2) := by decide +kernel
theorem dX6_both_8 : decode cX6_both 8 = .ok (.bipush 110, 2) := by decide +kernel
theorem dX6_both_10 : decode cX6_both 10 = .ok (.bipush 100, 2) := by decide +kernel
theorem dX6_both_12 : decode cX6_both 12 = .ok (.iconst 0, 1) := by decide +kernel
theorem dX6_both_13 : decode cX6_both 13 = .ok (.iconst 0, 1) := by decide +kernel
theorem dX6_both_14 : decode cX6_both 14 = .ok (.iconst 0, 1) := by decide +kernel
theorem dX6_both_15 : decode cX6_both 15 = .ok (.iconst 0, 1) := by decide +kernel
theorem dX6_both_16 : decode cX6_both 16 = .ok (.iconst 0, 1) := by decide +kernel
theorem dX6_both_17 : decode cX6_both 17 = .ok (.invokevirtual 183, 3) := by decide +kernel
theorem dX6_both_20 : decode cX6_both 20 = .ok (.ifCond .eq 29, 3) := by decide +kernel
theorem dX6_both_23 : decode cX6_both 23 = .ok (.aload_n 0, 1) := by decide +kernel
theorem dX6_both_24 : decode cX6_both 24 = .ok (.invokevirtual 180, 3) := by decide +kernel
theorem dX6_both_27 : decode cX6_both 27 = .ok (.aload_n 0, 1) := by decide +kernel
theorem dX6_both_28 : decode cX6_both 28 = .ok (.invokevirtual 227, 3) := by decide +kernel
theorem dX6_both_31 : decode cX6_both 31 = .ok (.istore_n 2, 1) := by decide +kernel
theorem dX6_both_32 : decode cX6_both 32 = .ok (.iload_n 1, 1) := by decide +kernel
theorem dX6_both_33 : decode cX6_both 33 = .ok (.ifCond .eq 11, 3) := by decide +kernel
theorem dX6_both_36 : decode cX6_both 36 = .ok (.iload_n 2, 1) := by decide +kernel
theorem dX6_both_37 : decode cX6_both 37 = .ok (.ifCond .eq 7, 3) := by decide +kernel
theorem dX6_both_40 : decode cX6_both 40 = .ok (.iconst 1, 1) := by decide +kernel
theorem dX6_both_41 : decode cX6_both 41 = .ok (.goto 4, 3) := by decide +kernel
theorem dX6_both_44 : decode cX6_both 44 = .ok (.iconst 0, 1) := by decide +kernel
theorem dX6_both_45 : decode cX6_both 45 = .ok (.istore_n 1, 1) := by decide +kernel
theorem dX6_both_46 : decode cX6_both 46 = .ok (.goto (-41), 3) := by decide +kernel
theorem dX6_both_49 : decode cX6_both 49 = .ok (.iload_n 1, 1) := by decide +kernel
theorem dX6_both_50 : decode cX6_both 50 = .ok (.ireturn, 1) := by decide +kernel
theorem dX6_either_0 : decode cX6_either 0 = .ok (.aload_n 0, 1) := by decide +kernel
theorem dX6_either_1 : decode cX6_either 1 = .ok (.invokevirtual 235, 3) := by decide +kernel
theorem dX6_either_4 : decode cX6_either 4 = .ok (.istore_n 1, 1) := by decide +kernel
theorem dX6_either_5 : decode cX6_either 5 = .ok (.aload_n 0, 1) := by decide +kernel
theorem dX6_either_6 : decode cX6_either 6 = .ok (.bipush 111, 2) := by decide +kernel
theorem dX6_either_8 : decode cX6_either 8 = .ok (.bipush 114, 2) := by decide +kernel
theorem dX6_either_10 : decode cX6_either 10 = .ok (.iconst 0, 1) := by decide +kernel
theorem dX6_either_11 : decode cX6_either 11 = .ok (.iconst 0, 1) := by decide +kernel
theorem dX6_either_12 : decode cX6_either 12 = .ok (.iconst 0, 1) := by decide +kernel
theorem dX6_either_13 : decode cX6_either 13 = .ok (.iconst 0, 1) := by decide +kernel
theorem dX6_either_14 : decode cX6_either 14 = .ok (.iconst 0, 1) := by decide +kernel
theorem dX6_either_15 : decode cX6_either 15 = .ok (.iconst 0, 1) := by decide +kernel
theorem dX6_either_16 : decode cX6_either 16 = .ok (.invokevirtual 183, 3) := by decide +kernel
theorem dX6_either_19 : decode cX6_either 19 = .ok (.ifCond .eq 29, 3) := by decide +kernel
theorem dX6_either_22 : decode cX6_either 22 = .ok (.aload_n 0, 1) := by decide +kernel
theorem dX6_either_23 : decode cX6_either 23 = .ok (.invokevirtual 180, 3) := by decide +kernel
theorem dX6_either_26 : decode cX6_either 26 = .ok (.aload_n 0, 1) := by decide +kernel
theorem dX6_either_27 : decode cX6_either 27 = .ok (.invokevirtual 235, 3) := by decide +kernel
theorem dX6_either_30 : decode cX6_either 30 = .ok (.istore_n 2, 1) := by decide +kernel
theorem dX6_either_31 : decode cX6_either 31 = .ok (.iload_n 1, 1) := by decide +kernel
theorem dX6_either_32 : decode cX6_either 32 = .ok (.ifCond .ne 7, 3) := by decide +kernel
theorem dX6_either_35 : decode cX6_either 35 = .ok (.iload_n 2, 1) := by decide +kernel
theorem dX6_either_36 : decode cX6_either 36 = .ok (.ifCond .eq 7, 3) := by decide +kernel
theorem dX6_either_39 : decode cX6_either 39 = .ok (.iconst 1, 1) := by decide +kernel
theorem dX6_either_40 : decode cX6_either 40 = .ok (.goto 4, 3) := by decide +kernel
theorem dX6_either_43 : decode cX6_either 43 = .ok (.iconst 0, 1) := by decide +kernel
theorem dX6_either_44 : decode cX6_either 44 = .ok (.istore_n 1, 1) := by decide +kernel
theorem dX6_either_45 : decode cX6_either 45 = .ok (.goto (-40), 3) := by decide +kernel
theorem dX6_either_48 : decode cX6_either 48 = .ok (.iload_n 1, 1) := by decide +kernel
theorem dX6_either_49 : decode cX6_either 49 = .ok (.ireturn, 1) := by decide +kernel
theorem dX6_part_0 : decode cX6_part 0 = .ok (.iload_n 1, 1) := by decide +kernel
theorem dX6_part_1 : decode cX6_part 1 = .ok (.ifCond .ne 7, 3) := by decide +kernel
theorem dX6_part_4 : decode cX6_part 4 = .ok (.aload_n 0, 1) := by decide +kernel
theorem dX6_part_5 : decode cX6_part 5 = .ok (.invokevirtual 177, 3) := by decide +kernel
theorem dX6_part_8 : decode cX6_part 8 = .ok (.aload_n 0, 1) := by decide +kernel
theorem dX6_part_9 : decode cX6_part 9 = .ok (.getfield 163, 3) := by decide +kernel
theorem dX6_part_12 : decode cX6_part 12 = .ok (.ifCond .ne 7, 3) := by decide +kernel
theorem dX6_part_15 : decode cX6_part 15 = .ok (.aload_n 0, 1) := by decide +kernel
theorem dX6_part_16 : decode cX6_part 16 = .ok (.invokevirtual 180, 3) := by decide +kernel
theorem dX6_part_19 : decode cX6_part 19 = .ok (.aload_n 0, 1) := by decide +kernel
theorem dX6_part_20 : decode cX6_part 20 = .ok (.getfield 163, 3) := by decide +kernel
theorem dX6_part_23 : decode cX6_part 23 = .ok (.ifCond .eq 7, 3) := by decide +kernel
theorem dX6_part_26 : decode cX6_part 26 = .ok (.iconst 0, 1) := by decide +kernel
theorem dX6_part_27 : decode cX6_part 27 = .ok (.goto 7, 3) := by decide +kernel
theorem dX6_part_30 : decode cX6_part 30 = .ok (.aload_n 0, 1) := by decide +kernel
theorem dX6_part_31 : decode cX6_part 31 = .ok (.invokevirtual 216, 3) := by decide +kernel
theorem dX6_part_34 : decode cX6_part 34 = .ok (.istore_n 2, 1) := by decide +kernel
theorem dX6_part_35 : decode cX6_part 35 = .ok (.aload_n 0, 1) := by decide +kernel
theorem dX6_part_36 : decode cX6_part 36 = .ok (.bipush 59, 2) := by decide +kernel
theorem dX6_part_38 : decode cX6_part 38 = .ok (.invokevirtual 205, 3) := by decide +kernel
theorem dX6_part_41 : decode cX6_part 41 = .ok (.ifCond .ne 7, 3) := by decide +kernel
theorem dX6_part_44 : decode cX6_part 44 = .ok (.aload_n 0, 1) := by decide +kernel
theorem dX6_part_45 : decode cX6_part 45 = .ok (.invokevirtual 177, 3) := by decide +kernel
theorem dX6_part_48 : decode cX6_part 48 = .ok (.aload_n 0, 1) := by decide +kernel
theorem dX6_part_49 : decode cX6_part 49 = .ok (.getfield 163, 3) := by decide +kernel
theorem dX6_part_52 : decode cX6_part 52 = .ok (.ifCond .ne 7, 3) := by decide +kernel
theorem dX6_part_55 : decode cX6_part 55 = .ok (.aload_n 0, 1) := by decide +kernel
theorem dX6_part_56 : decode cX6_part 56 = .ok (.invokevirtual 180, 3) := by decide +kernel
theorem dX6_part_59 : decode cX6_part 59 = .ok (.iload_n 2, 1) := by decide +kernel
theorem dX6_part_60 : decode cX6_part 60 = .ok (.ireturn, 1) := by decide +kernel
theorem dX6_read_0 : decode cX6_read 0 = .ok (.aload_n 0, 1) := by decide +kernel
theorem dX6_read_1 : decode cX6_read 1 = .ok (.sipush 160, 3) := by decide +kernel
theorem dX6_read_4 : decode cX6_read 4 = .ok (.iload_n 1, 1) := by decide +kernel
theorem dX6_read_5 : decode cX6_read 5 = .ok (.imul, 1) := by decide +kernel
theorem dX6_read_6 : decode cX6_read 6 = .ok (.putfield 134, 3) := by decide +kernel
theorem dX6_read_9 : decode cX6_read 9 = .ok (.aload_n 0, 1) := by decide +kernel
theorem dX6_read_10 : decode cX6_read 10 = .ok (.aload_n 0, 1) := by decide +kernel
theorem dX6_read_11 : decode cX6_read 11 = .ok (.getfield 17, 3) := by decide +kernel
theorem dX6_read_14 : decode cX6_read 14 = .ok (.iload_n 1, 1) := by decide +kernel
theorem dX6_read_15 : decode cX6_read 15 = .ok (.iaload, 1) := by decide +kernel
theorem dX6_read_16 : decode cX6_read 16 = .ok (.putfield 131, 3) := by decide +kernel
theorem dX6_read_19 : decode cX6_read 19 = .ok (.aload_n 0, 1) := by decide +kernel
theorem dX6_read_20 : decode cX6_read 20 = .ok (.iconst 0, 1) := by decide +kernel
theorem dX6_read_21 : decode cX6_read 21 = .ok (.putfield 137, 3) := by decide +kernel
theorem dX6_read_24 : decode cX6_read 24 = .ok (.aload_n 0, 1) := by decide +kernel
theorem dX6_read_25 : decode cX6_read 25 = .ok (.iconst 0, 1) := by decide +kernel
theorem dX6_read_26 : decode cX6_read 26 = .ok (.putfield 174, 3) := by decide +kernel
theorem dX6_read_29 : decode cX6_read 29 = .ok (.aload_n 0, 1) := by decide +kernel
theorem dX6_read_30 : decode cX6_read 30 = .ok (.iconst 0, 1) := by decide +kernel
theorem dX6_read_31 : decode cX6_read 31 = .ok (.putfield 163, 3) := by decide +kernel
theorem dX6_read_34 : decode cX6_read 34 = .ok (.aload_n 0, 1) := by decide +kernel
theorem dX6_read_35 : decode cX6_read 35 = .ok (.invokevirtual 180, 3) := by decide +kernel
theorem dX6_read_38 : decode cX6_read 38 = .ok (.aload_n 0, 1) := by decide +kernel
theorem dX6_read_39 : decode cX6_read 39 = .ok (.aload_n 0, 1) := by decide +kernel
theorem dX6_read_40 : decode cX6_read 40 = .ok (.bipush 100, 2) := by decide +kernel
theorem dX6_read_42 : decode cX6_read 42 = .ok (.bipush 105, 2) := by decide +kernel
theorem dX6_read_44 : decode cX6_read 44 = .ok (.bipush 103, 2) := by decide +kernel
theorem dX6_read_46 : decode cX6_read 46 = .ok (.bipush 115, 2) := by decide +kernel
theorem dX6_read_48 : decode cX6_read 48 = .ok (.iconst 0, 1) := by decide +kernel
theorem dX6_read_49 : decode cX6_read 49 = .ok (.iconst 0, 1) := by decide +kernel
theorem dX6_read_50 : decode cX6_read 50 = .ok (.iconst 0, 1) := by decide +kernel
theorem dX6_read_51 : decode cX6_read 51 = .ok (.iconst 0, 1) := by decide +kernel
theorem dX6_read_52 : decode cX6_read 52 = .ok (.invokevirtual 183, 3) := by decide +kernel
theorem dX6_read_55 : decode cX6_read 55 = .ok (.invokevirtual 238, 3) := by decide +kernel
theorem dX6_read_58 : decode cX6_read 58 = .ok (.istore_n 3, 1) := by decide +kernel
theorem dX6_read_59 : decode cX6_read 59 = .ok (.aload_n 0, 1) := by decide +kernel
theorem dX6_read_60 : decode cX6_read 60 = .ok (.getfield 163, 3) := by decide +kernel
theorem dX6_read_63 : decode cX6_read 63 = .ok (.ifCond .eq 7, 3) := by decide +kernel
theorem dX6_read_66 : decode cX6_read 66 = .ok (.iconst 0, 1) := by decide +kernel
theorem dX6_read_67 : decode cX6_read 67 = .ok (.goto 24, 3) := by decide +kernel
theorem dX6_read_70 : decode cX6_read 70 = .ok (.aload_n 0, 1) := by decide +kernel
theorem dX6_read_71 : decode cX6_read 71 = .ok (.aload_n 0, 1) := by decide +kernel
theorem dX6_read_72 : decode cX6_read 72 = .ok (.bipush 104, 2) := by decide +kernel
theorem dX6_read_74 : decode cX6_read 74 = .ok (.bipush 101, 2) := by decide +kernel
theorem dX6_read_76 : decode cX6_read 76 = .ok (.bipush 97, 2) := by decide +kernel
theorem dX6_read_78 : decode cX6_read 78 = .ok (.bipush 114, 2) := by decide +kernel
theorem dX6_read_80 : decode cX6_read 80 = .ok (.bipush 115, 2) := by decide +kernel
theorem dX6_read_82 : decode cX6_read 82 = .ok (.iconst 0, 1) := by decide +kernel
theorem dX6_read_83 : decode cX6_read 83 = .ok (.iconst 0, 1) := by decide +kernel
theorem dX6_read_84 : decode cX6_read 84 = .ok (.iconst 0, 1) := by decide +kernel
theorem dX6_read_85 : decode cX6_read 85 = .ok (.invokevirtual 183, 3) := by decide +kernel
theorem dX6_read_88 : decode cX6_read 88 = .ok (.invokevirtual 238, 3) := by decide +kernel
theorem dX6_read_91 : decode cX6_read 91 = .ok (.istore 4, 2) := by decide +kernel
theorem dX6_read_93 : decode cX6_read 93 = .ok (.aload_n 0, 1) := by decide +kernel
theorem dX6_read_94 : decode cX6_read 94 = .ok (.getfield 163, 3) := by decide +kernel
theorem dX6_read_97 : decode cX6_read 97 = .ok (.ifCond .eq 7, 3) := by decide +kernel
theorem dX6_read_100 : decode cX6_read 100 = .ok (.iconst 0, 1) := by decide +kernel
theorem dX6_read_101 : decode cX6_read 101 = .ok (.goto 24, 3) := by decide +kernel
theorem dX6_read_104 : decode cX6_read 104 = .ok (.aload_n 0, 1) := by decide +kernel
theorem dX6_read_105 : decode cX6_read 105 = .ok (.aload_n 0, 1) := by decide +kernel
theorem dX6_read_106 : decode cX6_read 106 = .ok (.bipush 119, 2) := by decide +kernel
theorem dX6_read_108 : decode cX6_read 108 = .ok (.bipush 111, 2) := by decide +kernel
theorem dX6_read_110 : decode cX6_read 110 = .ok (.bipush 114, 2) := by decide +kernel
theorem dX6_read_112 : decode cX6_read 112 = .ok (.bipush 116, 2) := by decide +kernel
theorem dX6_read_114 : decode cX6_read 114 = .ok (.bipush 104, 2) := by decide +kernel
theorem dX6_read_116 : decode cX6_read 116 = .ok (.iconst 0, 1) := by decide +kernel
theorem dX6_read_117 : decode cX6_read 117 = .ok (.iconst 0, 1) := by decide +kernel
theorem dX6_read_118 : decode cX6_read 118 = .ok (.iconst 0, 1) := by decide +kernel
theorem dX6_read_119 : decode cX6_read 119 = .ok (.invokevirtual 183, 3) := by decide +kernel
theorem dX6_read_122 : decode cX6_read 122 = .ok (.invokevirtual 238, 3) := by decide +kernel
theorem dX6_read_125 : decode cX6_read 125 = .ok (.istore 5, 2) := by decide +kernel
theorem dX6_read_127 : decode cX6_read 127 = .ok (.aload_n 0, 1) := by decide +kernel
theorem dX6_read_128 : decode cX6_read 128 = .ok (.getfield 163, 3) := by decide +kernel
theorem dX6_read_131 : decode cX6_read 131 = .ok (.ifCond .ne 14, 3) := by decide +kernel
theorem dX6_read_134 : decode cX6_read 134 = .ok (.aload_n 0, 1) := by decide +kernel
theorem dX6_read_135 : decode cX6_read 135 = .ok (.getfield 146, 3) := by decide +kernel
theorem dX6_read_138 : decode cX6_read 138 = .ok (.ifCond .eq 7, 3) := by decide +kernel
theorem dX6_read_141 : decode cX6_read 141 = .ok (.aload_n 0, 1) := by decide +kernel
theorem dX6_read_142 : decode cX6_read 142 = .ok (.invokevirtual 177, 3) := by decide +kernel
theorem dX6_read_145 : decode cX6_read 145 = .ok (.iload_n 2, 1) := by decide +kernel
theorem dX6_read_146 : decode cX6_read 146 = .ok (.ifCond .ne 7, 3) := by decide +kernel
theorem dX6_read_149 : decode cX6_read 149 = .ok (.iload_n 3, 1) := by decide +kernel
theorem dX6_read_150 : decode cX6_read 150 = .ok (.goto 15, 3) := by decide +kernel
theorem dX6_read_153 : decode cX6_read 153 = .ok (.iload_n 2, 1) := by decide +kernel
theorem dX6_read_154 : decode cX6_read 154 = .ok (.iconst 1, 1) := by decide +kernel
theorem dX6_read_155 : decode cX6_read 155 = .ok (.if_icmp .ne 8, 3) := by decide +kernel
theorem dX6_read_158 : decode cX6_read 158 = .ok (.iload 4, 2) := by decide +kernel
theorem dX6_read_160 : decode cX6_read 160 = .ok (.goto 5, 3) := by decide +kernel
theorem dX6_read_163 : decode cX6_read 163 = .ok (.iload 5, 2) := by decide +kernel
theorem dX6_read_165 : decode cX6_read 165 = .ok (.ireturn, 1) := by decide +kernel
theorem dX6_text_0 : decode cX6_text 0 = .ok (.aload_n 0, 1) := by decide +kernel
theorem dX6_text_1 : decode cX6_text 1 = .ok (.getfield 70, 3) := by decide +kernel
theorem dX6_text_4 : decode cX6_text 4 = .ok (.bipush 6, 2) := by decide +kernel
theorem dX6_text_6 : decode cX6_text 6 = .ok (.if_icmp .ne 6, 3) := by decide +kernel
theorem dX6_text_9 : decode cX6_text 9 = .ok (.bipush (-4), 2) := by decide +kernel
theorem dX6_text_11 : decode cX6_text 11 = .ok (.ireturn, 1) := by decide +kernel
theorem dX6_text_12 : decode cX6_text 12 = .ok (.iconst 0, 1) := by decide +kernel
theorem dX6_text_13 : decode cX6_text 13 = .ok (.istore_n 1, 1) := by decide +kernel
theorem dX6_text_14 : decode cX6_text 14 = .ok (.iload_n 1, 1) := by decide +kernel
theorem dX6_text_15 : decode cX6_text 15 = .ok (.aload_n 0, 1) := by decide +kernel
theorem dX6_text_16 : decode cX6_text 16 = .ok (.getfield 128, 3) := by decide +kernel
theorem dX6_text_19 : decode cX6_text 19 = .ok (.if_icmp .ge 30, 3) := by decide +kernel
theorem dX6_text_22 : decode cX6_text 22 = .ok (.aload_n 0, 1) := by decide +kernel
theorem dX6_text_23 : decode cX6_text 23 = .ok (.getfield 13, 3) := by decide +kernel
theorem dX6_text_26 : decode cX6_text 26 = .ok (.sipush 160, 3) := by decide +kernel
theorem dX6_text_29 : decode cX6_text 29 = .ok (.aload_n 0, 1) := by decide +kernel
theorem dX6_text_30 : decode cX6_text 30 = .ok (.getfield 70, 3) := by decide +kernel
theorem dX6_text_33 : decode cX6_text 33 = .ok (.imul, 1) := by decide +kernel
theorem dX6_text_34 : decode cX6_text 34 = .ok (.iload_n 1, 1) := by decide +kernel
theorem dX6_text_35 : decode cX6_text 35 = .ok (.iadd, 1) := by decide +kernel
theorem dX6_text_36 : decode cX6_text 36 = .ok (.aload_n 0, 1) := by decide +kernel
theorem dX6_text_37 : decode cX6_text 37 = .ok (.getfield 20, 3) := by decide +kernel
theorem dX6_text_40 : decode cX6_text 40 = .ok (.iload_n 1, 1) := by decide +kernel
theorem dX6_text_41 : decode cX6_text 41 = .ok (.iaload, 1) := by decide +kernel
theorem dX6_text_42 : decode cX6_text 42 = .ok (.iastore, 1) := by decide +kernel
theorem dX6_text_43 : decode cX6_text 43 = .ok (.iinc 1 1, 3) := by decide +kernel
theorem dX6_text_46 : decode cX6_text 46 = .ok (.goto (-32), 3) := by decide +kernel
theorem dX6_text_49 : decode cX6_text 49 = .ok (.aload_n 0, 1) := by decide +kernel
theorem dX6_text_50 : decode cX6_text 50 = .ok (.getfield 17, 3) := by decide +kernel
theorem dX6_text_53 : decode cX6_text 53 = .ok (.aload_n 0, 1) := by decide +kernel
theorem dX6_text_54 : decode cX6_text 54 = .ok (.getfield 70, 3) := by decide +kernel
theorem dX6_text_57 : decode cX6_text 57 = .ok (.aload_n 0, 1) := by decide +kernel
theorem dX6_text_58 : decode cX6_text 58 = .ok (.getfield 128, 3) := by decide +kernel
theorem dX6_text_61 : decode cX6_text 61 = .ok (.iastore, 1) := by decide +kernel
theorem dX6_text_62 : decode cX6_text 62 = .ok (.aload_n 0, 1) := by decide +kernel
theorem dX6_text_63 : decode cX6_text 63 = .ok (.iconst 0, 1) := by decide +kernel
theorem dX6_text_64 : decode cX6_text 64 = .ok (.putfield 128, 3) := by decide +kernel
theorem dX6_text_67 : decode cX6_text 67 = .ok (.aload_n 0, 1) := by decide +kernel
theorem dX6_text_68 : decode cX6_text 68 = .ok (.aload_n 0, 1) := by decide +kernel
theorem dX6_text_69 : decode cX6_text 69 = .ok (.getfield 70, 3) := by decide +kernel
theorem dX6_text_72 : decode cX6_text 72 = .ok (.iconst 0, 1) := by decide +kernel
theorem dX6_text_73 : decode cX6_text 73 = .ok (.invokevirtual 242, 3) := by decide +kernel
theorem dX6_text_76 : decode cX6_text 76 = .ok (.istore_n 1, 1) := by decide +kernel
theorem dX6_text_77 : decode cX6_text 77 = .ok (.aload_n 0, 1) := by decide +kernel
theorem dX6_text_78 : decode cX6_text 78 = .ok (.getfield 163, 3) := by decide +kernel
theorem dX6_text_81 : decode cX6_text 81 = .ok (.ifCond .eq 11, 3) := by decide +kernel
theorem dX6_text_84 : decode cX6_text 84 = .ok (.bipush (-100), 2) := by decide +kernel
theorem dX6_text_86 : decode cX6_text 86 = .ok (.aload_n 0, 1) := by decide +kernel
theorem dX6_text_87 : decode cX6_text 87 = .ok (.getfield 167, 3) := by decide +kernel
theorem dX6_text_90 : decode cX6_text 90 = .ok (.isub, 1) := by decide +kernel
theorem dX6_text_91 : decode cX6_text 91 = .ok (.ireturn, 1) := by decide +kernel
theorem dX6_text_92 : decode cX6_text 92 = .ok (.aload_n 0, 1) := by decide +kernel
theorem dX6_text_93 : decode cX6_text 93 = .ok (.dup, 1) := by decide +kernel
theorem dX6_text_94 : decode cX6_text 94 = .ok (.getfield 70, 3) := by decide +kernel
theorem dX6_text_97 : decode cX6_text 97 = .ok (.iconst 1, 1) := by decide +kernel
theorem dX6_text_98 : decode cX6_text 98 = .ok (.iadd, 1) := by decide +kernel
theorem dX6_text_99 : decode cX6_text 99 = .ok (.putfield 70, 3) := by decide +kernel
theorem dX6_text_102 : decode cX6_text 102 = .ok (.aload_n 0, 1) := by decide +kernel
theorem dX6_text_103 : decode cX6_text 103 = .ok (.getfield 70, 3) := by decide +kernel
theorem dX6_text_106 : decode cX6_text 106 = .ok (.iconst 1, 1) := by decide +kernel
theorem dX6_text_107 : decode cX6_text 107 = .ok (.isub, 1) := by decide +kernel
theorem dX6_text_108 : decode cX6_text 108 = .ok (.ireturn, 1) := by decide +kernel
theorem dX6_force_0 : decode cX6_force 0 = .ok (.iload_n 1, 1) := by decide +kernel
theorem dX6_force_1 : decode cX6_force 1 = .ok (.i2l, 1) := by decide +kernel
theorem dX6_force_2 : decode cX6_force 2 = .ok (.lconst 0, 1) := by decide +kernel
theorem dX6_force_3 : decode cX6_force 3 = .ok (.aload_n 0, 1) := by decide +kernel
theorem dX6_force_4 : decode cX6_force 4 = .ok (.getfield 70, 3) := by decide +kernel
theorem dX6_force_7 : decode cX6_force 7 = .ok (.iconst 1, 1) := by decide +kernel
theorem dX6_force_8 : decode cX6_force 8 = .ok (.isub, 1) := by decide +kernel
theorem dX6_force_9 : decode cX6_force 9 = .ok (.i2l, 1) := by decide +kernel
theorem dX6_force_10 : decode cX6_force 10 = .ok (.invokestatic 76, 3) := by decide +kernel
theorem dX6_force_13 : decode cX6_force 13 = .ok (.ifCond .ne 6, 3) := by decide +kernel
theorem dX6_force_16 : decode cX6_force 16 = .ok (.bipush (-2), 2) := by decide +kernel
theorem dX6_force_18 : decode cX6_force 18 = .ok (.ireturn, 1) := by decide +kernel
theorem dX6_force_19 : decode cX6_force 19 = .ok (.aload_n 0, 1) := by decide +kernel
theorem dX6_force_20 : decode cX6_force 20 = .ok (.getfield 245, 3) := by decide +kernel
theorem dX6_force_23 : decode cX6_force 23 = .ok (.istore_n 2, 1) := by decide +kernel
theorem dX6_force_24 : decode cX6_force 24 = .ok (.aload_n 0, 1) := by decide +kernel
theorem dX6_force_25 : decode cX6_force 25 = .ok (.iload_n 1, 1) := by decide +kernel
theorem dX6_force_26 : decode cX6_force 26 = .ok (.putfield 245, 3) := by decide +kernel
theorem dX6_force_29 : decode cX6_force 29 = .ok (.iload_n 2, 1) := by decide +kernel
theorem dX6_force_30 : decode cX6_force 30 = .ok (.ireturn, 1) := by decide +kernel
theorem dX6_says_0 : decode cX6_says 0 = .ok (.aload_n 0, 1) := by decide +kernel
theorem dX6_says_1 : decode cX6_says 1 = .ok (.aload_n 0, 1) := by decide +kernel
theorem dX6_says_2 : decode cX6_says 2 = .ok (.iload_n 2, 1) := by decide +kernel
theorem dX6_says_3 : decode cX6_says 3 = .ok (.invokevirtual 112, 3) := by decide +kernel
theorem dX6_says_6 : decode cX6_says 6 = .ok (.putfield 187, 3) := by decide +kernel
theorem dX6_says_9 : decode cX6_says 9 = .ok (.aload_n 0, 1) := by decide +kernel
theorem dX6_says_10 : decode cX6_says 10 = .ok (.iload_n 3, 1) := by decide +kernel
theorem dX6_says_11 : decode cX6_says 11 = .ok (.putfield 190, 3) := by decide +kernel
theorem dX6_says_14 : decode cX6_says 14 = .ok (.aload_n 0, 1) := by decide +kernel
theorem dX6_says_15 : decode cX6_says 15 = .ok (.aload_n 0, 1) := by decide +kernel
theorem dX6_says_16 : decode cX6_says 16 = .ok (.getfield 105, 3) := by decide +kernel
theorem dX6_says_19 : decode cX6_says 19 = .ok (.putfield 193, 3) := by decide +kernel
theorem dX6_says_22 : decode cX6_says 22 = .ok (.aload_n 0, 1) := by decide +kernel
theorem dX6_says_23 : decode cX6_says 23 = .ok (.aload_n 0, 1) := by decide +kernel
theorem dX6_says_24 : decode cX6_says 24 = .ok (.getfield 35, 3) := by decide +kernel
theorem dX6_says_27 : decode cX6_says 27 = .ok (.putfield 196, 3) := by decide +kernel
theorem dX6_says_30 : decode cX6_says 30 = .ok (.aload_n 0, 1) := by decide +kernel
theorem dX6_says_31 : decode cX6_says 31 = .ok (.aload_n 0, 1) := by decide +kernel
theorem dX6_says_32 : decode cX6_says 32 = .ok (.getfield 26, 3) := by decide +kernel
theorem dX6_says_35 : decode cX6_says 35 = .ok (.iload_n 2, 1) := by decide +kernel
theorem dX6_says_36 : decode cX6_says 36 = .ok (.iaload, 1) := by decide +kernel
theorem dX6_says_37 : decode cX6_says 37 = .ok (.bipush 8, 2) := by decide +kernel
theorem dX6_says_39 : decode cX6_says 39 = .ok (.idiv, 1) := by decide +kernel
theorem dX6_says_40 : decode cX6_says 40 = .ok (.putfield 199, 3) := by decide +kernel
theorem dX6_says_43 : decode cX6_says 43 = .ok (.aload_n 0, 1) := by decide +kernel
theorem dX6_says_44 : decode cX6_says 44 = .ok (.aload_n 0, 1) := by decide +kernel
theorem dX6_says_45 : decode cX6_says 45 = .ok (.getfield 26, 3) := by decide +kernel
theorem dX6_says_48 : decode cX6_says 48 = .ok (.iload_n 2, 1) := by decide +kernel
theorem dX6_says_49 : decode cX6_says 49 = .ok (.iaload, 1) := by decide +kernel
theorem dX6_says_50 : decode cX6_says 50 = .ok (.bipush 8, 2) := by decide +kernel
theorem dX6_says_52 : decode cX6_says 52 = .ok (.irem, 1) := by decide +kernel
theorem dX6_says_53 : decode cX6_says 53 = .ok (.putfield 202, 3) := by decide +kernel
theorem dX6_says_56 : decode cX6_says 56 = .ok (.aload_n 0, 1) := by decide +kernel
theorem dX6_says_57 : decode cX6_says 57 = .ok (.aload_n 0, 1) := by decide +kernel
theorem dX6_says_58 : decode cX6_says 58 = .ok (.getfield 245, 3) := by decide +kernel
theorem dX6_says_61 : decode cX6_says 61 = .ok (.iload_n 1, 1) := by decide +kernel
theorem dX6_says_62 : decode cX6_says 62 = .ok (.invokevirtual 242, 3) := by decide +kernel
theorem dX6_says_65 : decode cX6_says 65 = .ok (.ireturn, 1) := by decide +kernel
theorem dX6_worth_0 : decode cX6_worth 0 = .ok (.aload_n 0, 1) := by decide +kernel
theorem dX6_worth_1 : decode cX6_worth 1 = .ok (.iconst 2, 1) := by decide +kernel
theorem dX6_worth_2 : decode cX6_worth 2 = .ok (.iload_n 1, 1) := by decide +kernel
theorem dX6_worth_3 : decode cX6_worth 3 = .ok (.iload_n 2, 1) := by decide +kernel
theorem dX6_worth_4 : decode cX6_worth 4 = .ok (.invokevirtual 248, 3) := by decide +kernel
theorem dX6_worth_7 : decode cX6_worth 7 = .ok (.iconst 0, 1) := by decide +kernel
theorem dX6_worth_8 : decode cX6_worth 8 = .ok (.bipush 99, 2) := by decide +kernel
theorem dX6_worth_10 : decode cX6_worth 10 = .ok (.invokestatic 251, 3) := by decide +kernel
theorem dX6_worth_13 : decode cX6_worth 13 = .ok (.ireturn, 1) := by decide +kernel
theorem dX6_isHeard_0 : decode cX6_isHeard 0 = .ok (.aload_n 0, 1) := by decide +kernel
theorem dX6_isHeard_1 : decode cX6_isHeard 1 = .ok (.iload_n 1, 1) := by decide +kernel
theorem dX6_isHeard_2 : decode cX6_isHeard 2 = .ok (.invokevirtual 115, 3) := by decide +kernel
theorem dX6_isHeard_5 : decode cX6_isHeard 5 = .ok (.istore_n 2, 1) := by decide +kernel
theorem dX6_isHeard_6 : decode cX6_isHeard 6 = .ok (.iload_n 2, 1) := by decide +kernel
theorem dX6_isHeard_7 : decode cX6_isHeard 7 = .ok (.aload_n 0, 1) := by decide +kernel
theorem dX6_isHeard_8 : decode cX6_isHeard 8 = .ok (.iconst 1, 1) := by decide +kernel
theorem dX6_isHeard_9 : decode cX6_isHeard 9 = .ok (.iload_n 1, 1) := by decide +kernel
theorem dX6_isHeard_10 : decode cX6_isHeard 10 = .ok (.iload_n 2, 1) := by decide +kernel
theorem dX6_isHeard_11 : decode cX6_isHeard 11 = .ok (.invokevirtual 248, 3) := by decide +kernel
theorem dX6_isHeard_14 : decode cX6_isHeard 14 = .ok (.iconst 0, 1) := by decide +kernel
theorem dX6_isHeard_15 : decode cX6_isHeard 15 = .ok (.bipush 99, 2) := by decide +kernel
theorem dX6_isHeard_17 : decode cX6_isHeard 17 = .ok (.invokestatic 251, 3) := by decide +kernel
theorem dX6_isHeard_20 : decode cX6_isHeard 20 = .ok (.if_icmp .lt 7, 3) := by decide +kernel
theorem dX6_isHeard_23 : decode cX6_isHeard 23 = .ok (.iconst 1, 1) := by decide +kernel
theorem dX6_isHeard_24 : decode cX6_isHeard 24 = .ok (.goto 4, 3) := by decide +kernel
theorem dX6_isHeard_27 : decode cX6_isHeard 27 = .ok (.iconst 0, 1) := by decide +kernel
theorem dX6_isHeard_28 : decode cX6_isHeard 28 = .ok (.ireturn, 1) := by decide +kernel
theorem dX6_beepOf_0 : decode cX6_beepOf 0 = .ok (.iconst (-1), 1) := by decide +kernel
theorem dX6_beepOf_1 : decode cX6_beepOf 1 = .ok (.istore_n 2, 1) := by decide +kernel
theorem dX6_beepOf_2 : decode cX6_beepOf 2 = .ok (.iconst 0, 1) := by decide +kernel
theorem dX6_beepOf_3 : decode cX6_beepOf 3 = .ok (.istore_n 3, 1) := by decide +kernel
theorem dX6_beepOf_4 : decode cX6_beepOf 4 = .ok (.iconst 0, 1) := by decide +kernel
theorem dX6_beepOf_5 : decode cX6_beepOf 5 = .ok (.istore 4, 2) := by decide +kernel
theorem dX6_beepOf_7 : decode cX6_beepOf 7 = .ok (.iload 4, 2) := by decide +kernel
theorem dX6_beepOf_9 : decode cX6_beepOf 9 = .ok (.aload_n 0, 1) := by decide +kernel
theorem dX6_beepOf_10 : decode cX6_beepOf 10 = .ok (.getfield 73, 3) := by decide +kernel
theorem dX6_beepOf_13 : decode cX6_beepOf 13 = .ok (.if_icmp .ge 63, 3) := by decide +kernel
theorem dX6_beepOf_16 : decode cX6_beepOf 16 = .ok (.aload_n 0, 1) := by decide +kernel
theorem dX6_beepOf_17 : decode cX6_beepOf 17 = .ok (.iload 4, 2) := by decide +kernel
theorem dX6_beepOf_19 : decode cX6_beepOf 19 = .ok (.invokevirtual 102, 3) := by decide +kernel
theorem dX6_beepOf_22 : decode cX6_beepOf 22 = .ok (.ifCond .eq 48, 3) := by decide +kernel
theorem dX6_beepOf_25 : decode cX6_beepOf 25 = .ok (.aload_n 0, 1) := by decide +kernel
theorem dX6_beepOf_26 : decode cX6_beepOf 26 = .ok (.getfield 26, 3) := by decide +kernel
theorem dX6_beepOf_29 : decode cX6_beepOf 29 = .ok (.iload 4, 2) := by decide +kernel
theorem dX6_beepOf_31 : decode cX6_beepOf 31 = .ok (.iaload, 1) := by decide +kernel
theorem dX6_beepOf_32 : decode cX6_beepOf 32 = .ok (.iload_n 1, 1) := by decide +kernel
theorem dX6_beepOf_33 : decode cX6_beepOf 33 = .ok (.if_icmp .ne 37, 3) := by decide +kernel
theorem dX6_beepOf_36 : decode cX6_beepOf 36 = .ok (.aload_n 0, 1) := by decide +kernel
theorem dX6_beepOf_37 : decode cX6_beepOf 37 = .ok (.iload 4, 2) := by decide +kernel
theorem dX6_beepOf_39 : decode cX6_beepOf 39 = .ok (.invokevirtual 254, 3) := by decide +kernel
theorem dX6_beepOf_42 : decode cX6_beepOf 42 = .ok (.ifCond .eq 28, 3) := by decide +kernel
theorem dX6_beepOf_45 : decode cX6_beepOf 45 = .ok (.iload_n 2, 1) := by decide +kernel
theorem dX6_beepOf_46 : decode cX6_beepOf 46 = .ok (.iconst (-1), 1) := by decide +kernel
theorem dX6_beepOf_47 : decode cX6_beepOf 47 = .ok (.if_icmp .eq 13, 3) := by decide +kernel
theorem dX6_beepOf_50 : decode cX6_beepOf 50 = .ok (.aload_n 0, 1) := by decide +kernel
theorem dX6_beepOf_51 : decode cX6_beepOf 51 = .ok (.iload 4, 2) := by decide +kernel
theorem dX6_beepOf_53 : decode cX6_beepOf 53 = .ok (.invokevirtual 115, 3) := by decide +kernel
theorem dX6_beepOf_56 : decode cX6_beepOf 56 = .ok (.iload_n 3, 1) := by decide +kernel
theorem dX6_beepOf_57 : decode cX6_beepOf 57 = .ok (.if_icmp .le 13, 3) := by decide +kernel
theorem dX6_beepOf_60 : decode cX6_beepOf 60 = .ok (.iload 4, 2) := by decide +kernel
theorem dX6_beepOf_62 : decode cX6_beepOf 62 = .ok (.istore_n 2, 1) := by decide +kernel
theorem dX6_beepOf_63 : decode cX6_beepOf 63 = .ok (.aload_n 0, 1) := by decide +kernel
theorem dX6_beepOf_64 : decode cX6_beepOf 64 = .ok (.iload 4, 2) := by decide +kernel
theorem dX6_beepOf_66 : decode cX6_beepOf 66 = .ok (.invokevirtual 115, 3) := by decide +kernel
theorem dX6_beepOf_69 : decode cX6_beepOf 69 = .ok (.istore_n 3, 1) := by decide +kernel
theorem dX6_beepOf_70 : decode cX6_beepOf 70 = .ok (.iinc 4 1, 3) := by decide +kernel
theorem dX6_beepOf_73 : decode cX6_beepOf 73 = .ok (.goto (-66), 3) := by decide +kernel
theorem dX6_beepOf_76 : decode cX6_beepOf 76 = .ok (.iload_n 2, 1) := by decide +kernel
theorem dX6_beepOf_77 : decode cX6_beepOf 77 = .ok (.ireturn, 1) := by decide +kernel
theorem dX6_beep_0 : decode cX6_beep 0 = .ok (.iload_n 1, 1) := by decide +kernel
theorem dX6_beep_1 : decode cX6_beep 1 = .ok (.invokestatic 87, 3) := by decide +kernel
theorem dX6_beep_4 : decode cX6_beep 4 = .ok (.ifCond .eq 11, 3) := by decide +kernel
theorem dX6_beep_7 : decode cX6_beep 7 = .ok (.aload_n 0, 1) := by decide +kernel
theorem dX6_beep_8 : decode cX6_beep 8 = .ok (.iload_n 1, 1) := by decide +kernel
theorem dX6_beep_9 : decode cX6_beep 9 = .ok (.invokevirtual 257, 3) := by decide +kernel
theorem dX6_beep_12 : decode cX6_beep 12 = .ok (.goto 5, 3) := by decide +kernel
theorem dX6_beep_15 : decode cX6_beep 15 = .ok (.bipush (-2), 2) := by decide +kernel
theorem dX6_beep_17 : decode cX6_beep 17 = .ok (.ireturn, 1) := by decide +kernel
theorem dX6_digs_0 : decode cX6_digs 0 = .ok (.aload_n 0, 1) := by decide +kernel
theorem dX6_digs_1 : decode cX6_digs 1 = .ok (.iload_n 1, 1) := by decide +kernel
theorem dX6_digs_2 : decode cX6_digs 2 = .ok (.invokevirtual 257, 3) := by decide +kernel
theorem dX6_digs_5 : decode cX6_digs 5 = .ok (.istore_n 2, 1) := by decide +kernel
theorem dX6_digs_6 : decode cX6_digs 6 = .ok (.iload_n 2, 1) := by decide +kernel
theorem dX6_digs_7 : decode cX6_digs 7 = .ok (.iconst (-1), 1) := by decide +kernel
theorem dX6_digs_8 : decode cX6_digs 8 = .ok (.if_icmp .eq 78, 3) := by decide +kernel
theorem dX6_digs_11 : decode cX6_digs 11 = .ok (.aload_n 0, 1) := by decide +kernel
theorem dX6_digs_12 : decode cX6_digs 12 = .ok (.getfield 29, 3) := by decide +kernel
theorem dX6_digs_15 : decode cX6_digs 15 = .ok (.iload_n 2, 1) := by decide +kernel
theorem dX6_digs_16 : decode cX6_digs 16 = .ok (.iaload, 1) := by decide +kernel
theorem dX6_digs_17 : decode cX6_digs 17 = .ok (.bipush 10, 2) := by decide +kernel
theorem dX6_digs_19 : decode cX6_digs 19 = .ok (.if_icmp .gt 67, 3) := by decide +kernel
theorem dX6_digs_22 : decode cX6_digs 22 = .ok (.aload_n 0, 1) := by decide +kernel
theorem dX6_digs_23 : decode cX6_digs 23 = .ok (.iconst 0, 1) := by decide +kernel
theorem dX6_digs_24 : decode cX6_digs 24 = .ok (.iload_n 2, 1) := by decide +kernel
theorem dX6_digs_25 : decode cX6_digs 25 = .ok (.aload_n 0, 1) := by decide +kernel
theorem dX6_digs_26 : decode cX6_digs 26 = .ok (.iload_n 2, 1) := by decide +kernel
theorem dX6_digs_27 : decode cX6_digs 27 = .ok (.invokevirtual 115, 3) := by decide +kernel
theorem dX6_digs_30 : decode cX6_digs 30 = .ok (.invokevirtual 248, 3) := by decide +kernel
theorem dX6_digs_33 : decode cX6_digs 33 = .ok (.ifCond .eq 53, 3) := by decide +kernel
theorem dX6_digs_36 : decode cX6_digs 36 = .ok (.aload_n 0, 1) := by decide +kernel
theorem dX6_digs_37 : decode cX6_digs 37 = .ok (.dup, 1) := by decide +kernel
theorem dX6_digs_38 : decode cX6_digs 38 = .ok (.getfield 260, 3) := by decide +kernel
theorem dX6_digs_41 : decode cX6_digs 41 = .ok (.iconst 1, 1) := by decide +kernel
theorem dX6_digs_42 : decode cX6_digs 42 = .ok (.iadd, 1) := by decide +kernel
theorem dX6_digs_43 : decode cX6_digs 43 = .ok (.putfield 260, 3) := by decide +kernel
theorem dX6_digs_46 : decode cX6_digs 46 = .ok (.aload_n 0, 1) := by decide +kernel
theorem dX6_digs_47 : decode cX6_digs 47 = .ok (.dup, 1) := by decide +kernel
theorem dX6_digs_48 : decode cX6_digs 48 = .ok (.getfield 263, 3) := by decide +kernel
theorem dX6_digs_51 : decode cX6_digs 51 = .ok (.aload_n 0, 1) := by decide +kernel
theorem dX6_digs_52 : decode cX6_digs 52 = .ok (.iload_n 2, 1) := by decide +kernel
theorem dX6_digs_53 : decode cX6_digs 53 = .ok (.aload_n 0, 1) := by decide +kernel
theorem dX6_digs_54 : decode cX6_digs 54 = .ok (.iload_n 2, 1) := by decide +kernel
theorem dX6_digs_55 : decode cX6_digs 55 = .ok (.invokevirtual 115, 3) := by decide +kernel
theorem dX6_digs_58 : decode cX6_digs 58 = .ok (.invokevirtual 122, 3) := by decide +kernel
theorem dX6_digs_61 : decode cX6_digs 61 = .ok (.iadd, 1) := by decide +kernel
theorem dX6_digs_62 : decode cX6_digs 62 = .ok (.putfield 263, 3) := by decide +kernel
theorem dX6_digs_65 : decode cX6_digs 65 = .ok (.aload_n 0, 1) := by decide +kernel
theorem dX6_digs_66 : decode cX6_digs 66 = .ok (.dup, 1) := by decide +kernel
theorem dX6_digs_67 : decode cX6_digs 67 = .ok (.getfield 80, 3) := by decide +kernel
theorem dX6_digs_70 : decode cX6_digs 70 = .ok (.iconst 1, 1) := by decide +kernel
theorem dX6_digs_71 : decode cX6_digs 71 = .ok (.iload_n 2, 1) := by decide +kernel
theorem dX6_digs_72 : decode cX6_digs 72 = .ok (.ishl, 1) := by decide +kernel
theorem dX6_digs_73 : decode cX6_digs 73 = .ok (.ior, 1) := by decide +kernel
theorem dX6_digs_74 : decode cX6_digs 74 = .ok (.putfield 80, 3) := by decide +kernel
theorem dX6_digs_77 : decode cX6_digs 77 = .ok (.aload_n 0, 1) := by decide +kernel
theorem dX6_digs_78 : decode cX6_digs 78 = .ok (.iload_n 1, 1) := by decide +kernel
theorem dX6_digs_79 : decode cX6_digs 79 = .ok (.invokevirtual 257, 3) := by decide +kernel
theorem dX6_digs_82 : decode cX6_digs 82 = .ok (.istore_n 2, 1) := by decide +kernel
theorem dX6_digs_83 : decode cX6_digs 83 = .ok (.goto (-77), 3) := by decide +kernel
theorem dX6_digs_86 : decode cX6_digs 86 = .ok (.return_, 1) := by decide +kernel
theorem dX6_walks_0 : decode cX6_walks 0 = .ok (.iconst 0, 1) := by decide +kernel
theorem dX6_walks_1 : decode cX6_walks 1 = .ok (.istore_n 2, 1) := by decide +kernel
theorem dX6_walks_2 : decode cX6_walks 2 = .ok (.iload_n 2, 1) := by decide +kernel
theorem dX6_walks_3 : decode cX6_walks 3 = .ok (.bipush 8, 2) := by decide +kernel
theorem dX6_walks_5 : decode cX6_walks 5 = .ok (.if_icmp .ge 32, 3) := by decide +kernel
theorem dX6_walks_8 : decode cX6_walks 8 = .ok (.aload_n 0, 1) := by decide +kernel
theorem dX6_walks_9 : decode cX6_walks 9 = .ok (.bipush 8, 2) := by decide +kernel
theorem dX6_walks_11 : decode cX6_walks 11 = .ok (.iload_n 1, 1) := by decide +kernel
theorem dX6_walks_12 : decode cX6_walks 12 = .ok (.imul, 1) := by decide +kernel
theorem dX6_walks_13 : decode cX6_walks 13 = .ok (.iload_n 1, 1) := by decide +kernel
theorem dX6_walks_14 : decode cX6_walks 14 = .ok (.iconst 2, 1) := by decide +kernel
theorem dX6_walks_15 : decode cX6_walks 15 = .ok (.irem, 1) := by decide +kernel
theorem dX6_walks_16 : decode cX6_walks 16 = .ok (.ifCond .ne 7, 3) := by decide +kernel
theorem dX6_walks_19 : decode cX6_walks 19 = .ok (.iload_n 2, 1) := by decide +kernel
theorem dX6_walks_20 : decode cX6_walks 20 = .ok (.goto 7, 3) := by decide +kernel
theorem dX6_walks_23 : decode cX6_walks 23 = .ok (.bipush 7, 2) := by decide +kernel
theorem dX6_walks_25 : decode cX6_walks 25 = .ok (.iload_n 2, 1) := by decide +kernel
theorem dX6_walks_26 : decode cX6_walks 26 = .ok (.isub, 1) := by decide +kernel
theorem dX6_walks_27 : decode cX6_walks 27 = .ok (.iadd, 1) := by decide +kernel
theorem dX6_walks_28 : decode cX6_walks 28 = .ok (.invokevirtual 266, 3) := by decide +kernel
theorem dX6_walks_31 : decode cX6_walks 31 = .ok (.iinc 2 1, 3) := by decide +kernel
theorem dX6_walks_34 : decode cX6_walks 34 = .ok (.goto (-32), 3) := by decide +kernel
theorem dX6_walks_37 : decode cX6_walks 37 = .ok (.return_, 1) := by decide +kernel
theorem dX6_walksAll_0 : decode cX6_walksAll 0 = .ok (.iconst 0, 1) := by decide +kernel
theorem dX6_walksAll_1 : decode cX6_walksAll 1 = .ok (.istore_n 2, 1) := by decide +kernel
theorem dX6_walksAll_2 : decode cX6_walksAll 2 = .ok (.iload_n 2, 1) := by decide +kernel
theorem dX6_walksAll_3 : decode cX6_walksAll 3 = .ok (.bipush 6, 2) := by decide +kernel
theorem dX6_walksAll_5 : decode cX6_walksAll 5 = .ok (.if_icmp .ge 23, 3) := by decide +kernel
theorem dX6_walksAll_8 : decode cX6_walksAll 8 = .ok (.iload_n 1, 1) := by decide +kernel
theorem dX6_walksAll_9 : decode cX6_walksAll 9 = .ok (.iload_n 2, 1) := by decide +kernel
theorem dX6_walksAll_10 : decode cX6_walksAll 10 = .ok (.ishr, 1) := by decide +kernel
theorem dX6_walksAll_11 : decode cX6_walksAll 11 = .ok (.iconst 1, 1) := by decide +kernel
theorem dX6_walksAll_12 : decode cX6_walksAll 12 = .ok (.iand, 1) := by decide +kernel
theorem dX6_walksAll_13 : decode cX6_walksAll 13 = .ok (.iconst 1, 1) := by decide +kernel
theorem dX6_walksAll_14 : decode cX6_walksAll 14 = .ok (.if_icmp .ne 8, 3) := by decide +kernel
theorem dX6_walksAll_17 : decode cX6_walksAll 17 = .ok (.aload_n 0, 1) := by decide +kernel
theorem dX6_walksAll_18 : decode cX6_walksAll 18 = .ok (.iload_n 2, 1) := by decide +kernel
theorem dX6_walksAll_19 : decode cX6_walksAll 19 = .ok (.invokevirtual 270, 3) := by decide +kernel
theorem dX6_walksAll_22 : decode cX6_walksAll 22 = .ok (.iinc 2 1, 3) := by decide +kernel
theorem dX6_walksAll_25 : decode cX6_walksAll 25 = .ok (.goto (-23), 3) := by decide +kernel
theorem dX6_walksAll_28 : decode cX6_walksAll 28 = .ok (.return_, 1) := by decide +kernel
theorem dX6_walk_0 : decode cX6_walk 0 = .ok (.iload_n 1, 1) := by decide +kernel
theorem dX6_walk_1 : decode cX6_walk 1 = .ok (.i2l, 1) := by decide +kernel
theorem dX6_walk_2 : decode cX6_walk 2 = .ok (.lconst 0, 1) := by decide +kernel
theorem dX6_walk_3 : decode cX6_walk 3 = .ok (.ldc2_w 85, 3) := by decide +kernel
theorem dX6_walk_6 : decode cX6_walk 6 = .ok (.invokestatic 76, 3) := by decide +kernel
theorem dX6_walk_9 : decode cX6_walk 9 = .ok (.ifCond .ne 6, 3) := by decide +kernel
theorem dX6_walk_12 : decode cX6_walk 12 = .ok (.bipush (-2), 2) := by decide +kernel
theorem dX6_walk_14 : decode cX6_walk 14 = .ok (.ireturn, 1) := by decide +kernel
theorem dX6_walk_15 : decode cX6_walk 15 = .ok (.aload_n 0, 1) := by decide +kernel
theorem dX6_walk_16 : decode cX6_walk 16 = .ok (.iconst 0, 1) := by decide +kernel
theorem dX6_walk_17 : decode cX6_walk 17 = .ok (.putfield 260, 3) := by decide +kernel
theorem dX6_walk_20 : decode cX6_walk 20 = .ok (.aload_n 0, 1) := by decide +kernel
theorem dX6_walk_21 : decode cX6_walk 21 = .ok (.iload_n 1, 1) := by decide +kernel
theorem dX6_walk_22 : decode cX6_walk 22 = .ok (.invokevirtual 270, 3) := by decide +kernel
theorem dX6_walk_25 : decode cX6_walk 25 = .ok (.aload_n 0, 1) := by decide +kernel
theorem dX6_walk_26 : decode cX6_walk 26 = .ok (.dup, 1) := by decide +kernel
theorem dX6_walk_27 : decode cX6_walk 27 = .ok (.getfield 273, 3) := by decide +kernel
theorem dX6_walk_30 : decode cX6_walk 30 = .ok (.iconst 1, 1) := by decide +kernel
theorem dX6_walk_31 : decode cX6_walk 31 = .ok (.iload_n 1, 1) := by decide +kernel
theorem dX6_walk_32 : decode cX6_walk 32 = .ok (.ishl, 1) := by decide +kernel
theorem dX6_walk_33 : decode cX6_walk 33 = .ok (.ior, 1) := by decide +kernel
theorem dX6_walk_34 : decode cX6_walk 34 = .ok (.putfield 273, 3) := by decide +kernel
theorem dX6_walk_37 : decode cX6_walk 37 = .ok (.aload_n 0, 1) := by decide +kernel
theorem dX6_walk_38 : decode cX6_walk 38 = .ok (.getfield 260, 3) := by decide +kernel
theorem dX6_walk_41 : decode cX6_walk 41 = .ok (.ireturn, 1) := by decide +kernel
theorem dX6_ploughs_0 : decode cX6_ploughs 0 = .ok (.iconst 0, 1) := by decide +kernel
theorem dX6_ploughs_1 : decode cX6_ploughs 1 = .ok (.istore_n 1, 1) := by decide +kernel
theorem dX6_ploughs_2 : decode cX6_ploughs 2 = .ok (.iload_n 1, 1) := by decide +kernel
theorem dX6_ploughs_3 : decode cX6_ploughs 3 = .ok (.aload_n 0, 1) := by decide +kernel
theorem dX6_ploughs_4 : decode cX6_ploughs 4 = .ok (.getfield 73, 3) := by decide +kernel
theorem dX6_ploughs_7 : decode cX6_ploughs 7 = .ok (.if_icmp .ge 128, 3) := by decide +kernel
theorem dX6_ploughs_10 : decode cX6_ploughs 10 = .ok (.aload_n 0, 1) := by decide +kernel
theorem dX6_ploughs_11 : decode cX6_ploughs 11 = .ok (.iload_n 1, 1) := by decide +kernel
theorem dX6_ploughs_12 : decode cX6_ploughs 12 = .ok (.invokevirtual 102, 3) := by decide +kernel
theorem dX6_ploughs_15 : decode cX6_ploughs 15 = .ok (.ifCond .eq 114, 3) := by decide +kernel
theorem dX6_ploughs_18 : decode cX6_ploughs 18 = .ok (.aload_n 0, 1) := by decide +kernel
theorem dX6_ploughs_19 : decode cX6_ploughs 19 = .ok (.getfield 23, 3) := by decide +kernel
theorem dX6_ploughs_22 : decode cX6_ploughs 22 = .ok (.iload_n 1, 1) := by decide +kernel
theorem dX6_ploughs_23 : decode cX6_ploughs 23 = .ok (.iaload, 1) := by decide +kernel
theorem dX6_ploughs_24 : decode cX6_ploughs 24 = .ok (.aload_n 0, 1) := by decide +kernel
theorem dX6_ploughs_25 : decode cX6_ploughs 25 = .ok (.getfield 32, 3) := by decide +kernel
theorem dX6_ploughs_28 : decode cX6_ploughs 28 = .ok (.iload_n 1, 1) := by decide +kernel
theorem dX6_ploughs_29 : decode cX6_ploughs 29 = .ok (.iaload, 1) := by decide +kernel
theorem dX6_ploughs_30 : decode cX6_ploughs 30 = .ok (.aload_n 0, 1) := by decide +kernel
theorem dX6_ploughs_31 : decode cX6_ploughs 31 = .ok (.getfield 29, 3) := by decide +kernel
theorem dX6_ploughs_34 : decode cX6_ploughs 34 = .ok (.iload_n 1, 1) := by decide +kernel
theorem dX6_ploughs_35 : decode cX6_ploughs 35 = .ok (.iaload, 1) := by decide +kernel
theorem dX6_ploughs_36 : decode cX6_ploughs 36 = .ok (.invokestatic 118, 3) := by decide +kernel
theorem dX6_ploughs_39 : decode cX6_ploughs 39 = .ok (.istore_n 2, 1) := by decide +kernel
theorem dX6_ploughs_40 : decode cX6_ploughs 40 = .ok (.aload_n 0, 1) := by decide +kernel
theorem dX6_ploughs_41 : decode cX6_ploughs 41 = .ok (.getfield 26, 3) := by decide +kernel
theorem dX6_ploughs_44 : decode cX6_ploughs 44 = .ok (.iload_n 1, 1) := by decide +kernel
theorem dX6_ploughs_45 : decode cX6_ploughs 45 = .ok (.iaload, 1) := by decide +kernel
theorem dX6_ploughs_46 : decode cX6_ploughs 46 = .ok (.bipush 8, 2) := by decide +kernel
theorem dX6_ploughs_48 : decode cX6_ploughs 48 = .ok (.irem, 1) := by decide +kernel
theorem dX6_ploughs_49 : decode cX6_ploughs 49 = .ok (.aload_n 0, 1) := by decide +kernel
theorem dX6_ploughs_50 : decode cX6_ploughs 50 = .ok (.getfield 276, 3) := by decide +kernel
theorem dX6_ploughs_53 : decode cX6_ploughs 53 = .ok (.iconst 2, 1) := by decide +kernel
theorem dX6_ploughs_54 : decode cX6_ploughs 54 = .ok (.irem, 1) := by decide +kernel
theorem dX6_ploughs_55 : decode cX6_ploughs 55 = .ok (.ifCond .ne 7, 3) := by decide +kernel
theorem dX6_ploughs_58 : decode cX6_ploughs 58 = .ok (.iload_n 2, 1) := by decide +kernel
theorem dX6_ploughs_59 : decode cX6_ploughs 59 = .ok (.goto 5, 3) := by decide +kernel
theorem dX6_ploughs_62 : decode cX6_ploughs 62 = .ok (.iload_n 2, 1) := by decide +kernel
theorem dX6_ploughs_63 : decode cX6_ploughs 63 = .ok (.ineg, 1) := by decide +kernel
theorem dX6_ploughs_64 : decode cX6_ploughs 64 = .ok (.iadd, 1) := by decide +kernel
theorem dX6_ploughs_65 : decode cX6_ploughs 65 = .ok (.istore_n 3, 1) := by decide +kernel
theorem dX6_ploughs_66 : decode cX6_ploughs 66 = .ok (.aload_n 0, 1) := by decide +kernel
theorem dX6_ploughs_67 : decode cX6_ploughs 67 = .ok (.getfield 26, 3) := by decide +kernel
theorem dX6_ploughs_70 : decode cX6_ploughs 70 = .ok (.iload_n 1, 1) := by decide +kernel
theorem dX6_ploughs_71 : decode cX6_ploughs 71 = .ok (.aload_n 0, 1) := by decide +kernel
theorem dX6_ploughs_72 : decode cX6_ploughs 72 = .ok (.getfield 26, 3) := by decide +kernel
theorem dX6_ploughs_75 : decode cX6_ploughs 75 = .ok (.iload_n 1, 1) := by decide +kernel
theorem dX6_ploughs_76 : decode cX6_ploughs 76 = .ok (.iaload, 1) := by decide +kernel
theorem dX6_ploughs_77 : decode cX6_ploughs 77 = .ok (.bipush 8, 2) := by decide +kernel
theorem dX6_ploughs_79 : decode cX6_ploughs 79 = .ok (.idiv, 1) := by decide +kernel
theorem dX6_ploughs_80 : decode cX6_ploughs 80 = .ok (.bipush 8, 2) := by decide +kernel
theorem dX6_ploughs_82 : decode cX6_ploughs 82 = .ok (.imul, 1) := by decide +kernel
theorem dX6_ploughs_83 : decode cX6_ploughs 83 = .ok (.iload_n 3, 1) := by decide +kernel
theorem dX6_ploughs_84 : decode cX6_ploughs 84 = .ok (.iconst 0, 1) := by decide +kernel
theorem dX6_ploughs_85 : decode cX6_ploughs 85 = .ok (.bipush 7, 2) := by decide +kernel
theorem dX6_ploughs_87 : decode cX6_ploughs 87 = .ok (.invokestatic 251, 3) := by decide +kernel
theorem dX6_ploughs_90 : decode cX6_ploughs 90 = .ok (.iadd, 1) := by decide +kernel
theorem dX6_ploughs_91 : decode cX6_ploughs 91 = .ok (.iastore, 1) := by decide +kernel
theorem dX6_ploughs_92 : decode cX6_ploughs 92 = .ok (.aload_n 0, 1) := by decide +kernel
theorem dX6_ploughs_93 : decode cX6_ploughs 93 = .ok (.getfield 29, 3) := by decide +kernel
theorem dX6_ploughs_96 : decode cX6_ploughs 96 = .ok (.iload_n 1, 1) := by decide +kernel
theorem dX6_ploughs_97 : decode cX6_ploughs 97 = .ok (.aload_n 0, 1) := by decide +kernel
theorem dX6_ploughs_98 : decode cX6_ploughs 98 = .ok (.getfield 29, 3) := by decide +kernel
theorem dX6_ploughs_101 : decode cX6_ploughs 101 = .ok (.iload_n 1, 1) := by decide +kernel
theorem dX6_ploughs_102 : decode cX6_ploughs 102 = .ok (.iaload, 1) := by decide +kernel
theorem dX6_ploughs_103 : decode cX6_ploughs 103 = .ok (.bipush 12, 2) := by decide +kernel
theorem dX6_ploughs_105 : decode cX6_ploughs 105 = .ok (.if_icmp .gt 15, 3) := by decide +kernel
theorem dX6_ploughs_108 : decode cX6_ploughs 108 = .ok (.bipush 12, 2) := by decide +kernel
theorem dX6_ploughs_110 : decode cX6_ploughs 110 = .ok (.aload_n 0, 1) := by decide +kernel
theorem dX6_ploughs_111 : decode cX6_ploughs 111 = .ok (.getfield 29, 3) := by decide +kernel
theorem dX6_ploughs_114 : decode cX6_ploughs 114 = .ok (.iload_n 1, 1) := by decide +kernel
theorem dX6_ploughs_115 : decode cX6_ploughs 115 = .ok (.iaload, 1) := by decide +kernel
theorem dX6_ploughs_116 : decode cX6_ploughs 116 = .ok (.isub, 1) := by decide +kernel
theorem dX6_ploughs_117 : decode cX6_ploughs 117 = .ok (.goto 11, 3) := by decide +kernel
theorem dX6_ploughs_120 : decode cX6_ploughs 120 = .ok (.aload_n 0, 1) := by decide +kernel
theorem dX6_ploughs_121 : decode cX6_ploughs 121 = .ok (.getfield 29, 3) := by decide +kernel
theorem dX6_ploughs_124 : decode cX6_ploughs 124 = .ok (.iload_n 1, 1) := by decide +kernel
theorem dX6_ploughs_125 : decode cX6_ploughs 125 = .ok (.iaload, 1) := by decide +kernel
theorem dX6_ploughs_126 : decode cX6_ploughs 126 = .ok (.iconst 1, 1) := by decide +kernel
theorem dX6_ploughs_127 : decode cX6_ploughs 127 = .ok (.isub, 1) := by decide +kernel
theorem dX6_ploughs_128 : decode cX6_ploughs 128 = .ok (.iastore, 1) := by decide +kernel
theorem dX6_ploughs_129 : decode cX6_ploughs 129 = .ok (.iinc 1 1, 3) := by decide +kernel
theorem dX6_ploughs_132 : decode cX6_ploughs 132 = .ok (.goto (-130), 3) := by decide +kernel
theorem dX6_ploughs_135 : decode cX6_ploughs 135 = .ok (.aload_n 0, 1) := by decide +kernel
theorem dX6_ploughs_136 : decode cX6_ploughs 136 = .ok (.aload_n 0, 1) := by decide +kernel
theorem dX6_ploughs_137 : decode cX6_ploughs 137 = .ok (.getfield 276, 3) := by decide +kernel
theorem dX6_ploughs_140 : decode cX6_ploughs 140 = .ok (.bipush 99, 2) := by decide +kernel
theorem dX6_ploughs_142 : decode cX6_ploughs 142 = .ok (.if_icmp .ge 12, 3) := by decide +kernel
theorem dX6_ploughs_145 : decode cX6_ploughs 145 = .ok (.aload_n 0, 1) := by decide +kernel
theorem dX6_ploughs_146 : decode cX6_ploughs 146 = .ok (.getfield 276, 3) := by decide +kernel
theorem dX6_ploughs_149 : decode cX6_ploughs 149 = .ok (.iconst 1, 1) := by decide +kernel
theorem dX6_ploughs_150 : decode cX6_ploughs 150 = .ok (.iadd, 1) := by decide +kernel
theorem dX6_ploughs_151 : decode cX6_ploughs 151 = .ok (.goto 5, 3) := by decide +kernel
theorem dX6_ploughs_154 : decode cX6_ploughs 154 = .ok (.bipush 99, 2) := by decide +kernel
theorem dX6_ploughs_156 : decode cX6_ploughs 156 = .ok (.putfield 276, 3) := by decide +kernel
theorem dX6_ploughs_159 : decode cX6_ploughs 159 = .ok (.return_, 1) := by decide +kernel
theorem dX6_plough_0 : decode cX6_plough 0 = .ok (.aload_n 0, 1) := by decide +kernel
theorem dX6_plough_1 : decode cX6_plough 1 = .ok (.invokevirtual 279, 3) := by decide +kernel
theorem dX6_plough_4 : decode cX6_plough 4 = .ok (.aload_n 0, 1) := by decide +kernel
theorem dX6_plough_5 : decode cX6_plough 5 = .ok (.getfield 276, 3) := by decide +kernel
theorem dX6_plough_8 : decode cX6_plough 8 = .ok (.ireturn, 1) := by decide +kernel
theorem dX6_laysAside_0 : decode cX6_laysAside 0 = .ok (.iconst 0, 1) := by decide +kernel
theorem dX6_laysAside_1 : decode cX6_laysAside 1 = .ok (.istore_n 1, 1) := by decide +kernel
theorem dX6_laysAside_2 : decode cX6_laysAside 2 = .ok (.iload_n 1, 1) := by decide +kernel
theorem dX6_laysAside_3 : decode cX6_laysAside 3 = .ok (.bipush 12, 2) := by decide +kernel
theorem dX6_laysAside_5 : decode cX6_laysAside 5 = .ok (.if_icmp .ge 33, 3) := by decide +kernel
theorem dX6_laysAside_8 : decode cX6_laysAside 8 = .ok (.aload_n 0, 1) := by decide +kernel
theorem dX6_laysAside_9 : decode cX6_laysAside 9 = .ok (.getfield 38, 3) := by decide +kernel
theorem dX6_laysAside_12 : decode cX6_laysAside 12 = .ok (.iload_n 1, 1) := by decide +kernel
theorem dX6_laysAside_13 : decode cX6_laysAside 13 = .ok (.aload_n 0, 1) := by decide +kernel
theorem dX6_laysAside_14 : decode cX6_laysAside 14 = .ok (.getfield 26, 3) := by decide +kernel
theorem dX6_laysAside_17 : decode cX6_laysAside 17 = .ok (.iload_n 1, 1) := by decide +kernel
theorem dX6_laysAside_18 : decode cX6_laysAside 18 = .ok (.iaload, 1) := by decide +kernel
theorem dX6_laysAside_19 : decode cX6_laysAside 19 = .ok (.iastore, 1) := by decide +kernel
theorem dX6_laysAside_20 : decode cX6_laysAside 20 = .ok (.aload_n 0, 1) := by decide +kernel
theorem dX6_laysAside_21 : decode cX6_laysAside 21 = .ok (.getfield 41, 3) := by decide +kernel
theorem dX6_laysAside_24 : decode cX6_laysAside 24 = .ok (.iload_n 1, 1) := by decide +kernel
theorem dX6_laysAside_25 : decode cX6_laysAside 25 = .ok (.aload_n 0, 1) := by decide +kernel
theorem dX6_laysAside_26 : decode cX6_laysAside 26 = .ok (.getfield 29, 3) := by decide +kernel
theorem dX6_laysAside_29 : decode cX6_laysAside 29 = .ok (.iload_n 1, 1) := by decide +kernel
theorem dX6_laysAside_30 : decode cX6_laysAside 30 = .ok (.iaload, 1) := by decide +kernel
theorem dX6_laysAside_31 : decode cX6_laysAside 31 = .ok (.iastore, 1) := by decide +kernel
theorem dX6_laysAside_32 : decode cX6_laysAside 32 = .ok (.iinc 1 1, 3) := by decide +kernel
theorem dX6_laysAside_35 : decode cX6_laysAside 35 = .ok (.goto (-33), 3) := by decide +kernel
theorem dX6_laysAside_38 : decode cX6_laysAside 38 = .ok (.aload_n 0, 1) := by decide +kernel
theorem dX6_laysAside_39 : decode cX6_laysAside 39 = .ok (.aload_n 0, 1) := by decide +kernel
theorem dX6_laysAside_40 : decode cX6_laysAside 40 = .ok (.getfield 80, 3) := by decide +kernel
theorem dX6_laysAside_43 : decode cX6_laysAside 43 = .ok (.putfield 282, 3) := by decide +kernel
theorem dX6_laysAside_46 : decode cX6_laysAside 46 = .ok (.aload_n 0, 1) := by decide +kernel
theorem dX6_laysAside_47 : decode cX6_laysAside 47 = .ok (.aload_n 0, 1) := by decide +kernel
theorem dX6_laysAside_48 : decode cX6_laysAside 48 = .ok (.getfield 35, 3) := by decide +kernel
theorem dX6_laysAside_51 : decode cX6_laysAside 51 = .ok (.putfield 285, 3) := by decide +kernel
theorem dX6_laysAside_54 : decode cX6_laysAside 54 = .ok (.aload_n 0, 1) := by decide +kernel
theorem dX6_laysAside_55 : decode cX6_laysAside 55 = .ok (.aload_n 0, 1) := by decide +kernel
theorem dX6_laysAside_56 : decode cX6_laysAside 56 = .ok (.getfield 276, 3) := by decide +kernel
theorem dX6_laysAside_59 : decode cX6_laysAside 59 = .ok (.putfield 288, 3) := by decide +kernel
theorem dX6_laysAside_62 : decode cX6_laysAside 62 = .ok (.aload_n 0, 1) := by decide +kernel
theorem dX6_laysAside_63 : decode cX6_laysAside 63 = .ok (.iconst 0, 1) := by decide +kernel
theorem dX6_laysAside_64 : decode cX6_laysAside 64 = .ok (.putfield 260, 3) := by decide +kernel
theorem dX6_laysAside_67 : decode cX6_laysAside 67 = .ok (.aload_n 0, 1) := by decide +kernel
theorem dX6_laysAside_68 : decode cX6_laysAside 68 = .ok (.iconst 0, 1) := by decide +kernel
theorem dX6_laysAside_69 : decode cX6_laysAside 69 = .ok (.putfield 263, 3) := by decide +kernel
theorem dX6_laysAside_72 : decode cX6_laysAside 72 = .ok (.return_, 1) := by decide +kernel
theorem dX6_laysBack_0 : decode cX6_laysBack 0 = .ok (.iconst 0, 1) := by decide +kernel
theorem dX6_laysBack_1 : decode cX6_laysBack 1 = .ok (.istore_n 1, 1) := by decide +kernel
theorem dX6_laysBack_2 : decode cX6_laysBack 2 = .ok (.iload_n 1, 1) := by decide +kernel
theorem dX6_laysBack_3 : decode cX6_laysBack 3 = .ok (.bipush 12, 2) := by decide +kernel
theorem dX6_laysBack_5 : decode cX6_laysBack 5 = .ok (.if_icmp .ge 33, 3) := by decide +kernel
theorem dX6_laysBack_8 : decode cX6_laysBack 8 = .ok (.aload_n 0, 1) := by decide +kernel
theorem dX6_laysBack_9 : decode cX6_laysBack 9 = .ok (.getfield 26, 3) := by decide +kernel
theorem dX6_laysBack_12 : decode cX6_laysBack 12 = .ok (.iload_n 1, 1) := by decide +kernel
theorem dX6_laysBack_13 : decode cX6_laysBack 13 = .ok (.aload_n 0, 1) := by decide +kernel
theorem dX6_laysBack_14 : decode cX6_laysBack 14 = .ok (.getfield 38, 3) := by decide +kernel
theorem dX6_laysBack_17 : decode cX6_laysBack 17 = .ok (.iload_n 1, 1) := by decide +kernel
theorem dX6_laysBack_18 : decode cX6_laysBack 18 = .ok (.iaload, 1) := by decide +kernel
theorem dX6_laysBack_19 : decode cX6_laysBack 19 = .ok (.iastore, 1) := by decide +kernel
theorem dX6_laysBack_20 : decode cX6_laysBack 20 = .ok (.aload_n 0, 1) := by decide +kernel
theorem dX6_laysBack_21 : decode cX6_laysBack 21 = .ok (.getfield 29, 3) := by decide +kernel
theorem dX6_laysBack_24 : decode cX6_laysBack 24 = .ok (.iload_n 1, 1) := by decide +kernel
theorem dX6_laysBack_25 : decode cX6_laysBack 25 = .ok (.aload_n 0, 1) := by decide +kernel
theorem dX6_laysBack_26 : decode cX6_laysBack 26 = .ok (.getfield 41, 3) := by decide +kernel
theorem dX6_laysBack_29 : decode cX6_laysBack 29 = .ok (.iload_n 1, 1) := by decide +kernel
theorem dX6_laysBack_30 : decode cX6_laysBack 30 = .ok (.iaload, 1) := by decide +kernel
theorem dX6_laysBack_31 : decode cX6_laysBack 31 = .ok (.iastore, 1) := by decide +kernel
theorem dX6_laysBack_32 : decode cX6_laysBack 32 = .ok (.iinc 1 1, 3) := by decide +kernel
theorem dX6_laysBack_35 : decode cX6_laysBack 35 = .ok (.goto (-33), 3) := by decide +kernel
theorem dX6_laysBack_38 : decode cX6_laysBack 38 = .ok (.aload_n 0, 1) := by decide +kernel
theorem dX6_laysBack_39 : decode cX6_laysBack 39 = .ok (.aload_n 0, 1) := by decide +kernel
theorem dX6_laysBack_40 : decode cX6_laysBack 40 = .ok (.getfield 282, 3) := by decide +kernel
theorem dX6_laysBack_43 : decode cX6_laysBack 43 = .ok (.putfield 80, 3) := by decide +kernel
theorem dX6_laysBack_46 : decode cX6_laysBack 46 = .ok (.aload_n 0, 1) := by decide +kernel
theorem dX6_laysBack_47 : decode cX6_laysBack 47 = .ok (.aload_n 0, 1) := by decide +kernel
theorem dX6_laysBack_48 : decode cX6_laysBack 48 = .ok (.getfield 285, 3) := by decide +kernel
theorem dX6_laysBack_51 : decode cX6_laysBack 51 = .ok (.putfield 35, 3) := by decide +kernel
theorem dX6_laysBack_54 : decode cX6_laysBack 54 = .ok (.aload_n 0, 1) := by decide +kernel
theorem dX6_laysBack_55 : decode cX6_laysBack 55 = .ok (.aload_n 0, 1) := by decide +kernel
theorem dX6_laysBack_56 : decode cX6_laysBack 56 = .ok (.getfield 288, 3) := by decide +kernel
theorem dX6_laysBack_59 : decode cX6_laysBack 59 = .ok (.putfield 276, 3) := by decide +kernel
theorem dX6_laysBack_62 : decode cX6_laysBack 62 = .ok (.aload_n 0, 1) := by decide +kernel
theorem dX6_laysBack_63 : decode cX6_laysBack 63 = .ok (.iconst 0, 1) := by decide +kernel
theorem dX6_laysBack_64 : decode cX6_laysBack 64 = .ok (.putfield 260, 3) := by decide +kernel
theorem dX6_laysBack_67 : decode cX6_laysBack 67 = .ok (.aload_n 0, 1) := by decide +kernel
theorem dX6_laysBack_68 : decode cX6_laysBack 68 = .ok (.iconst 0, 1) := by decide +kernel
theorem dX6_laysBack_69 : decode cX6_laysBack 69 = .ok (.putfield 263, 3) := by decide +kernel
theorem dX6_laysBack_72 : decode cX6_laysBack 72 = .ok (.return_, 1) := by decide +kernel
theorem dX6_found_0 : decode cX6_found 0 = .ok (.iload_n 1, 1) := by decide +kernel
theorem dX6_found_1 : decode cX6_found 1 = .ok (.i2l, 1) := by decide +kernel
theorem dX6_found_2 : decode cX6_found 2 = .ok (.lconst 0, 1) := by decide +kernel
theorem dX6_found_3 : decode cX6_found 3 = .ok (.ldc2_w 291, 3) := by decide +kernel
theorem dX6_found_6 : decode cX6_found 6 = .ok (.invokestatic 76, 3) := by decide +kernel
theorem dX6_found_9 : decode cX6_found 9 = .ok (.ifCond .eq 13, 3) := by decide +kernel
theorem dX6_found_12 : decode cX6_found 12 = .ok (.iload_n 2, 1) := by decide +kernel
theorem dX6_found_13 : decode cX6_found 13 = .ok (.i2l, 1) := by decide +kernel
theorem dX6_found_14 : decode cX6_found 14 = .ok (.lconst 0, 1) := by decide +kernel
theorem dX6_found_15 : decode cX6_found 15 = .ok (.lconst 1, 1) := by decide +kernel
theorem dX6_found_16 : decode cX6_found 16 = .ok (.invokestatic 76, 3) := by decide +kernel
theorem dX6_found_19 : decode cX6_found 19 = .ok (.ifCond .ne 6, 3) := by decide +kernel
theorem dX6_found_22 : decode cX6_found 22 = .ok (.bipush (-2), 2) := by decide +kernel
theorem dX6_found_24 : decode cX6_found 24 = .ok (.ireturn, 1) := by decide +kernel
theorem dX6_found_25 : decode cX6_found 25 = .ok (.aload_n 0, 1) := by decide +kernel
theorem dX6_found_26 : decode cX6_found 26 = .ok (.invokevirtual 293, 3) := by decide +kernel
theorem dX6_found_29 : decode cX6_found 29 = .ok (.aload_n 0, 1) := by decide +kernel
theorem dX6_found_30 : decode cX6_found 30 = .ok (.iload_n 1, 1) := by decide +kernel
theorem dX6_found_31 : decode cX6_found 31 = .ok (.invokevirtual 296, 3) := by decide +kernel
