theorem dX1_signOf_130 : decode cX1_signOf 130 = .ok (.ireturn, 1) := by decide +kernel
theorem dX1_takeNumber_0 : decode cX1_takeNumber 0 = .ok (.iconst 0, 1) := by decide +kernel
theorem dX1_takeNumber_1 : decode cX1_takeNumber 1 = .ok (.istore_n 1, 1) := by decide +kernel
theorem dX1_takeNumber_2 : decode cX1_takeNumber 2 = .ok (.aload_n 0, 1) := by decide +kernel
theorem dX1_takeNumber_3 : decode cX1_takeNumber 3 = .ok (.getfield 19, 3) := by decide +kernel
theorem dX1_takeNumber_6 : decode cX1_takeNumber 6 = .ok (.aload_n 0, 1) := by decide +kernel
theorem dX1_takeNumber_7 : decode cX1_takeNumber 7 = .ok (.getfield 9, 3) := by decide +kernel
theorem dX1_takeNumber_10 : decode cX1_takeNumber 10 = .ok (.if_icmp .ge 49, 3) := by decide +kernel
theorem dX1_takeNumber_13 : decode cX1_takeNumber 13 = .ok (.aload_n 0, 1) := by decide +kernel
theorem dX1_takeNumber_14 : decode cX1_takeNumber 14 = .ok (.getfield 15, 3) := by decide +kernel
theorem dX1_takeNumber_17 : decode cX1_takeNumber 17 = .ok (.aload_n 0, 1) := by decide +kernel
theorem dX1_takeNumber_18 : decode cX1_takeNumber 18 = .ok (.getfield 19, 3) := by decide +kernel
theorem dX1_takeNumber_21 : decode cX1_takeNumber 21 = .ok (.iaload, 1) := by decide +kernel
theorem dX1_takeNumber_22 : decode cX1_takeNumber 22 = .ok (.invokestatic 78, 3) := by decide +kernel
theorem dX1_takeNumber_25 : decode cX1_takeNumber 25 = .ok (.ifCond .eq 34, 3) := by decide +kernel
theorem dX1_takeNumber_28 : decode cX1_takeNumber 28 = .ok (.iload_n 1, 1) := by decide +kernel
theorem dX1_takeNumber_29 : decode cX1_takeNumber 29 = .ok (.bipush 10, 2) := by decide +kernel
theorem dX1_takeNumber_31 : decode cX1_takeNumber 31 = .ok (.imul, 1) := by decide +kernel
theorem dX1_takeNumber_32 : decode cX1_takeNumber 32 = .ok (.aload_n 0, 1) := by decide +kernel
theorem dX1_takeNumber_33 : decode cX1_takeNumber 33 = .ok (.getfield 15, 3) := by decide +kernel
theorem dX1_takeNumber_36 : decode cX1_takeNumber 36 = .ok (.aload_n 0, 1) := by decide +kernel
theorem dX1_takeNumber_37 : decode cX1_takeNumber 37 = .ok (.getfield 19, 3) := by decide +kernel
theorem dX1_takeNumber_40 : decode cX1_takeNumber 40 = .ok (.iaload, 1) := by decide +kernel
theorem dX1_takeNumber_41 : decode cX1_takeNumber 41 = .ok (.iadd, 1) := by decide +kernel
theorem dX1_takeNumber_42 : decode cX1_takeNumber 42 = .ok (.bipush 48, 2) := by decide +kernel
theorem dX1_takeNumber_44 : decode cX1_takeNumber 44 = .ok (.isub, 1) := by decide +kernel
theorem dX1_takeNumber_45 : decode cX1_takeNumber 45 = .ok (.istore_n 1, 1) := by decide +kernel
theorem dX1_takeNumber_46 : decode cX1_takeNumber 46 = .ok (.aload_n 0, 1) := by decide +kernel
theorem dX1_takeNumber_47 : decode cX1_takeNumber 47 = .ok (.dup, 1) := by decide +kernel
theorem dX1_takeNumber_48 : decode cX1_takeNumber 48 = .ok (.getfield 19, 3) := by decide +kernel
theorem dX1_takeNumber_51 : decode cX1_takeNumber 51 = .ok (.iconst 1, 1) := by decide +kernel
theorem dX1_takeNumber_52 : decode cX1_takeNumber 52 = .ok (.iadd, 1) := by decide +kernel
theorem dX1_takeNumber_53 : decode cX1_takeNumber 53 = .ok (.putfield 19, 3) := by decide +kernel
theorem dX1_takeNumber_56 : decode cX1_takeNumber 56 = .ok (.goto (-54), 3) := by decide +kernel
theorem dX1_takeNumber_59 : decode cX1_takeNumber 59 = .ok (.aload_n 0, 1) := by decide +kernel
theorem dX1_takeNumber_60 : decode cX1_takeNumber 60 = .ok (.getfield 19, 3) := by decide +kernel
theorem dX1_takeNumber_63 : decode cX1_takeNumber 63 = .ok (.aload_n 0, 1) := by decide +kernel
theorem dX1_takeNumber_64 : decode cX1_takeNumber 64 = .ok (.getfield 22, 3) := by decide +kernel
theorem dX1_takeNumber_67 : decode cX1_takeNumber 67 = .ok (.isub, 1) := by decide +kernel
theorem dX1_takeNumber_68 : decode cX1_takeNumber 68 = .ok (.iconst 4, 1) := by decide +kernel
theorem dX1_takeNumber_69 : decode cX1_takeNumber 69 = .ok (.if_icmp .le 8, 3) := by decide +kernel
theorem dX1_takeNumber_72 : decode cX1_takeNumber 72 = .ok (.bipush (-20), 2) := by decide +kernel
theorem dX1_takeNumber_74 : decode cX1_takeNumber 74 = .ok (.goto 4, 3) := by decide +kernel
theorem dX1_takeNumber_77 : decode cX1_takeNumber 77 = .ok (.iload_n 1, 1) := by decide +kernel
theorem dX1_takeNumber_78 : decode cX1_takeNumber 78 = .ok (.ireturn, 1) := by decide +kernel
theorem dX1_takeWord_0 : decode cX1_takeWord 0 = .ok (.aload_n 0, 1) := by decide +kernel
theorem dX1_takeWord_1 : decode cX1_takeWord 1 = .ok (.getfield 19, 3) := by decide +kernel
theorem dX1_takeWord_4 : decode cX1_takeWord 4 = .ok (.aload_n 0, 1) := by decide +kernel
theorem dX1_takeWord_5 : decode cX1_takeWord 5 = .ok (.getfield 9, 3) := by decide +kernel
theorem dX1_takeWord_8 : decode cX1_takeWord 8 = .ok (.if_icmp .ge 31, 3) := by decide +kernel
theorem dX1_takeWord_11 : decode cX1_takeWord 11 = .ok (.aload_n 0, 1) := by decide +kernel
theorem dX1_takeWord_12 : decode cX1_takeWord 12 = .ok (.getfield 15, 3) := by decide +kernel
theorem dX1_takeWord_15 : decode cX1_takeWord 15 = .ok (.aload_n 0, 1) := by decide +kernel
theorem dX1_takeWord_16 : decode cX1_takeWord 16 = .ok (.getfield 19, 3) := by decide +kernel
theorem dX1_takeWord_19 : decode cX1_takeWord 19 = .ok (.iaload, 1) := by decide +kernel
theorem dX1_takeWord_20 : decode cX1_takeWord 20 = .ok (.invokestatic 71, 3) := by decide +kernel
theorem dX1_takeWord_23 : decode cX1_takeWord 23 = .ok (.ifCond .eq 16, 3) := by decide +kernel
theorem dX1_takeWord_26 : decode cX1_takeWord 26 = .ok (.aload_n 0, 1) := by decide +kernel
theorem dX1_takeWord_27 : decode cX1_takeWord 27 = .ok (.dup, 1) := by decide +kernel
theorem dX1_takeWord_28 : decode cX1_takeWord 28 = .ok (.getfield 19, 3) := by decide +kernel
theorem dX1_takeWord_31 : decode cX1_takeWord 31 = .ok (.iconst 1, 1) := by decide +kernel
theorem dX1_takeWord_32 : decode cX1_takeWord 32 = .ok (.iadd, 1) := by decide +kernel
theorem dX1_takeWord_33 : decode cX1_takeWord 33 = .ok (.putfield 19, 3) := by decide +kernel
theorem dX1_takeWord_36 : decode cX1_takeWord 36 = .ok (.goto (-36), 3) := by decide +kernel
theorem dX1_takeWord_39 : decode cX1_takeWord 39 = .ok (.aload_n 0, 1) := by decide +kernel
theorem dX1_takeWord_40 : decode cX1_takeWord 40 = .ok (.ldc 88, 2) := by decide +kernel
theorem dX1_takeWord_42 : decode cX1_takeWord 42 = .ok (.invokevirtual 90, 3) := by decide +kernel
theorem dX1_takeWord_45 : decode cX1_takeWord 45 = .ok (.ifCond .eq 5, 3) := by decide +kernel
theorem dX1_takeWord_48 : decode cX1_takeWord 48 = .ok (.iconst (-1), 1) := by decide +kernel
theorem dX1_takeWord_49 : decode cX1_takeWord 49 = .ok (.ireturn, 1) := by decide +kernel
theorem dX1_takeWord_50 : decode cX1_takeWord 50 = .ok (.aload_n 0, 1) := by decide +kernel
theorem dX1_takeWord_51 : decode cX1_takeWord 51 = .ok (.ldc 94, 2) := by decide +kernel
theorem dX1_takeWord_53 : decode cX1_takeWord 53 = .ok (.invokevirtual 90, 3) := by decide +kernel
theorem dX1_takeWord_56 : decode cX1_takeWord 56 = .ok (.ifCond .eq 6, 3) := by decide +kernel
theorem dX1_takeWord_59 : decode cX1_takeWord 59 = .ok (.bipush (-2), 2) := by decide +kernel
theorem dX1_takeWord_61 : decode cX1_takeWord 61 = .ok (.ireturn, 1) := by decide +kernel
theorem dX1_takeWord_62 : decode cX1_takeWord 62 = .ok (.aload_n 0, 1) := by decide +kernel
theorem dX1_takeWord_63 : decode cX1_takeWord 63 = .ok (.ldc 96, 2) := by decide +kernel
theorem dX1_takeWord_65 : decode cX1_takeWord 65 = .ok (.invokevirtual 90, 3) := by decide +kernel
theorem dX1_takeWord_68 : decode cX1_takeWord 68 = .ok (.ifCond .eq 6, 3) := by decide +kernel
theorem dX1_takeWord_71 : decode cX1_takeWord 71 = .ok (.bipush (-3), 2) := by decide +kernel
theorem dX1_takeWord_73 : decode cX1_takeWord 73 = .ok (.ireturn, 1) := by decide +kernel
theorem dX1_takeWord_74 : decode cX1_takeWord 74 = .ok (.aload_n 0, 1) := by decide +kernel
theorem dX1_takeWord_75 : decode cX1_takeWord 75 = .ok (.ldc 98, 2) := by decide +kernel
theorem dX1_takeWord_77 : decode cX1_takeWord 77 = .ok (.invokevirtual 90, 3) := by decide +kernel
theorem dX1_takeWord_80 : decode cX1_takeWord 80 = .ok (.ifCond .eq 6, 3) := by decide +kernel
theorem dX1_takeWord_83 : decode cX1_takeWord 83 = .ok (.bipush (-4), 2) := by decide +kernel
theorem dX1_takeWord_85 : decode cX1_takeWord 85 = .ok (.ireturn, 1) := by decide +kernel
theorem dX1_takeWord_86 : decode cX1_takeWord 86 = .ok (.aload_n 0, 1) := by decide +kernel
theorem dX1_takeWord_87 : decode cX1_takeWord 87 = .ok (.ldc 100, 2) := by decide +kernel
theorem dX1_takeWord_89 : decode cX1_takeWord 89 = .ok (.invokevirtual 90, 3) := by decide +kernel
theorem dX1_takeWord_92 : decode cX1_takeWord 92 = .ok (.ifCond .eq 6, 3) := by decide +kernel
theorem dX1_takeWord_95 : decode cX1_takeWord 95 = .ok (.bipush (-5), 2) := by decide +kernel
theorem dX1_takeWord_97 : decode cX1_takeWord 97 = .ok (.ireturn, 1) := by decide +kernel
theorem dX1_takeWord_98 : decode cX1_takeWord 98 = .ok (.aload_n 0, 1) := by decide +kernel
theorem dX1_takeWord_99 : decode cX1_takeWord 99 = .ok (.ldc 102, 2) := by decide +kernel
theorem dX1_takeWord_101 : decode cX1_takeWord 101 = .ok (.invokevirtual 90, 3) := by decide +kernel
theorem dX1_takeWord_104 : decode cX1_takeWord 104 = .ok (.ifCond .eq 6, 3) := by decide +kernel
theorem dX1_takeWord_107 : decode cX1_takeWord 107 = .ok (.bipush (-6), 2) := by decide +kernel
theorem dX1_takeWord_109 : decode cX1_takeWord 109 = .ok (.ireturn, 1) := by decide +kernel
theorem dX1_takeWord_110 : decode cX1_takeWord 110 = .ok (.aload_n 0, 1) := by decide +kernel
theorem dX1_takeWord_111 : decode cX1_takeWord 111 = .ok (.ldc 104, 2) := by decide +kernel
theorem dX1_takeWord_113 : decode cX1_takeWord 113 = .ok (.invokevirtual 90, 3) := by decide +kernel
theorem dX1_takeWord_116 : decode cX1_takeWord 116 = .ok (.ifCond .eq 6, 3) := by decide +kernel
theorem dX1_takeWord_119 : decode cX1_takeWord 119 = .ok (.bipush (-7), 2) := by decide +kernel
theorem dX1_takeWord_121 : decode cX1_takeWord 121 = .ok (.ireturn, 1) := by decide +kernel
theorem dX1_takeWord_122 : decode cX1_takeWord 122 = .ok (.aload_n 0, 1) := by decide +kernel
theorem dX1_takeWord_123 : decode cX1_takeWord 123 = .ok (.ldc 106, 2) := by decide +kernel
theorem dX1_takeWord_125 : decode cX1_takeWord 125 = .ok (.invokevirtual 90, 3) := by decide +kernel
theorem dX1_takeWord_128 : decode cX1_takeWord 128 = .ok (.ifCond .eq 6, 3) := by decide +kernel
theorem dX1_takeWord_131 : decode cX1_takeWord 131 = .ok (.bipush (-8), 2) := by decide +kernel
theorem dX1_takeWord_133 : decode cX1_takeWord 133 = .ok (.ireturn, 1) := by decide +kernel
theorem dX1_takeWord_134 : decode cX1_takeWord 134 = .ok (.aload_n 0, 1) := by decide +kernel
theorem dX1_takeWord_135 : decode cX1_takeWord 135 = .ok (.ldc 108, 2) := by decide +kernel
theorem dX1_takeWord_137 : decode cX1_takeWord 137 = .ok (.invokevirtual 90, 3) := by decide +kernel
theorem dX1_takeWord_140 : decode cX1_takeWord 140 = .ok (.ifCond .eq 6, 3) := by decide +kernel
theorem dX1_takeWord_143 : decode cX1_takeWord 143 = .ok (.bipush (-9), 2) := by decide +kernel
theorem dX1_takeWord_145 : decode cX1_takeWord 145 = .ok (.ireturn, 1) := by decide +kernel
theorem dX1_takeWord_146 : decode cX1_takeWord 146 = .ok (.aload_n 0, 1) := by decide +kernel
theorem dX1_takeWord_147 : decode cX1_takeWord 147 = .ok (.ldc 110, 2) := by decide +kernel
theorem dX1_takeWord_149 : decode cX1_takeWord 149 = .ok (.invokevirtual 90, 3) := by decide +kernel
theorem dX1_takeWord_152 : decode cX1_takeWord 152 = .ok (.ifCond .eq 6, 3) := by decide +kernel
theorem dX1_takeWord_155 : decode cX1_takeWord 155 = .ok (.bipush (-21), 2) := by decide +kernel
theorem dX1_takeWord_157 : decode cX1_takeWord 157 = .ok (.ireturn, 1) := by decide +kernel
theorem dX1_takeWord_158 : decode cX1_takeWord 158 = .ok (.aload_n 0, 1) := by decide +kernel
theorem dX1_takeWord_159 : decode cX1_takeWord 159 = .ok (.ldc 112, 2) := by decide +kernel
theorem dX1_takeWord_161 : decode cX1_takeWord 161 = .ok (.invokevirtual 90, 3) := by decide +kernel
theorem dX1_takeWord_164 : decode cX1_takeWord 164 = .ok (.ifCond .eq 6, 3) := by decide +kernel
theorem dX1_takeWord_167 : decode cX1_takeWord 167 = .ok (.bipush (-22), 2) := by decide +kernel
theorem dX1_takeWord_169 : decode cX1_takeWord 169 = .ok (.ireturn, 1) := by decide +kernel
theorem dX1_takeWord_170 : decode cX1_takeWord 170 = .ok (.aload_n 0, 1) := by decide +kernel
theorem dX1_takeWord_171 : decode cX1_takeWord 171 = .ok (.ldc 114, 2) := by decide +kernel
theorem dX1_takeWord_173 : decode cX1_takeWord 173 = .ok (.invokevirtual 90, 3) := by decide +kernel
theorem dX1_takeWord_176 : decode cX1_takeWord 176 = .ok (.ifCond .eq 6, 3) := by decide +kernel
theorem dX1_takeWord_179 : decode cX1_takeWord 179 = .ok (.bipush (-23), 2) := by decide +kernel
theorem dX1_takeWord_181 : decode cX1_takeWord 181 = .ok (.ireturn, 1) := by decide +kernel
theorem dX1_takeWord_182 : decode cX1_takeWord 182 = .ok (.bipush (-20), 2) := by decide +kernel
theorem dX1_takeWord_184 : decode cX1_takeWord 184 = .ok (.ireturn, 1) := by decide +kernel
theorem dX1_spells_0 : decode cX1_spells 0 = .ok (.aload_n 0, 1) := by decide +kernel
theorem dX1_spells_1 : decode cX1_spells 1 = .ok (.getfield 19, 3) := by decide +kernel
theorem dX1_spells_4 : decode cX1_spells 4 = .ok (.aload_n 0, 1) := by decide +kernel
theorem dX1_spells_5 : decode cX1_spells 5 = .ok (.getfield 22, 3) := by decide +kernel
theorem dX1_spells_8 : decode cX1_spells 8 = .ok (.isub, 1) := by decide +kernel
theorem dX1_spells_9 : decode cX1_spells 9 = .ok (.aload_n 1, 1) := by decide +kernel
theorem dX1_spells_10 : decode cX1_spells 10 = .ok (.invokevirtual 116, 3) := by decide +kernel
theorem dX1_spells_13 : decode cX1_spells 13 = .ok (.if_icmp .eq 5, 3) := by decide +kernel
theorem dX1_spells_16 : decode cX1_spells 16 = .ok (.iconst 0, 1) := by decide +kernel
theorem dX1_spells_17 : decode cX1_spells 17 = .ok (.ireturn, 1) := by decide +kernel
theorem dX1_spells_18 : decode cX1_spells 18 = .ok (.iconst 0, 1) := by decide +kernel
theorem dX1_spells_19 : decode cX1_spells 19 = .ok (.istore_n 2, 1) := by decide +kernel
theorem dX1_spells_20 : decode cX1_spells 20 = .ok (.iload_n 2, 1) := by decide +kernel
theorem dX1_spells_21 : decode cX1_spells 21 = .ok (.aload_n 1, 1) := by decide +kernel
theorem dX1_spells_22 : decode cX1_spells 22 = .ok (.invokevirtual 116, 3) := by decide +kernel
theorem dX1_spells_25 : decode cX1_spells 25 = .ok (.if_icmp .ge 30, 3) := by decide +kernel
theorem dX1_spells_28 : decode cX1_spells 28 = .ok (.aload_n 0, 1) := by decide +kernel
theorem dX1_spells_29 : decode cX1_spells 29 = .ok (.getfield 15, 3) := by decide +kernel
theorem dX1_spells_32 : decode cX1_spells 32 = .ok (.aload_n 0, 1) := by decide +kernel
theorem dX1_spells_33 : decode cX1_spells 33 = .ok (.getfield 22, 3) := by decide +kernel
theorem dX1_spells_36 : decode cX1_spells 36 = .ok (.iload_n 2, 1) := by decide +kernel
theorem dX1_spells_37 : decode cX1_spells 37 = .ok (.iadd, 1) := by decide +kernel
theorem dX1_spells_38 : decode cX1_spells 38 = .ok (.iaload, 1) := by decide +kernel
theorem dX1_spells_39 : decode cX1_spells 39 = .ok (.aload_n 1, 1) := by decide +kernel
theorem dX1_spells_40 : decode cX1_spells 40 = .ok (.iload_n 2, 1) := by decide +kernel
theorem dX1_spells_41 : decode cX1_spells 41 = .ok (.invokevirtual 121, 3) := by decide +kernel
theorem dX1_spells_44 : decode cX1_spells 44 = .ok (.if_icmp .eq 5, 3) := by decide +kernel
theorem dX1_spells_47 : decode cX1_spells 47 = .ok (.iconst 0, 1) := by decide +kernel
theorem dX1_spells_48 : decode cX1_spells 48 = .ok (.ireturn, 1) := by decide +kernel
theorem dX1_spells_49 : decode cX1_spells 49 = .ok (.iinc 2 1, 3) := by decide +kernel
theorem dX1_spells_52 : decode cX1_spells 52 = .ok (.goto (-32), 3) := by decide +kernel
theorem dX1_spells_55 : decode cX1_spells 55 = .ok (.iconst 1, 1) := by decide +kernel
theorem dX1_spells_56 : decode cX1_spells 56 = .ok (.ireturn, 1) := by decide +kernel
theorem dX2_init_0 : decode cX2_init 0 = .ok (.aload_n 0, 1) := by decide +kernel
theorem dX2_init_1 : decode cX2_init 1 = .ok (.invokespecial 3, 3) := by decide +kernel
theorem dX2_init_4 : decode cX2_init 4 = .ok (.aload_n 0, 1) := by decide +kernel
theorem dX2_init_5 : decode cX2_init 5 = .ok (.iconst 4, 1) := by decide +kernel
theorem dX2_init_6 : decode cX2_init 6 = .ok (.newarray .int, 2) := by decide +kernel
theorem dX2_init_8 : decode cX2_init 8 = .ok (.dup, 1) := by decide +kernel
theorem dX2_init_9 : decode cX2_init 9 = .ok (.iconst 0, 1) := by decide +kernel
theorem dX2_init_10 : decode cX2_init 10 = .ok (.iconst (-1), 1) := by decide +kernel
theorem dX2_init_11 : decode cX2_init 11 = .ok (.iastore, 1) := by decide +kernel
theorem dX2_init_12 : decode cX2_init 12 = .ok (.dup, 1) := by decide +kernel
theorem dX2_init_13 : decode cX2_init 13 = .ok (.iconst 1, 1) := by decide +kernel
theorem dX2_init_14 : decode cX2_init 14 = .ok (.iconst (-1), 1) := by decide +kernel
theorem dX2_init_15 : decode cX2_init 15 = .ok (.iastore, 1) := by decide +kernel
theorem dX2_init_16 : decode cX2_init 16 = .ok (.dup, 1) := by decide +kernel
theorem dX2_init_17 : decode cX2_init 17 = .ok (.iconst 2, 1) := by decide +kernel
theorem dX2_init_18 : decode cX2_init 18 = .ok (.iconst (-1), 1) := by decide +kernel
theorem dX2_init_19 : decode cX2_init 19 = .ok (.iastore, 1) := by decide +kernel
theorem dX2_init_20 : decode cX2_init 20 = .ok (.dup, 1) := by decide +kernel
theorem dX2_init_21 : decode cX2_init 21 = .ok (.iconst 3, 1) := by decide +kernel
theorem dX2_init_22 : decode cX2_init 22 = .ok (.iconst (-1), 1) := by decide +kernel
theorem dX2_init_23 : decode cX2_init 23 = .ok (.iastore, 1) := by decide +kernel
theorem dX2_init_24 : decode cX2_init 24 = .ok (.putfield 9, 3) := by decide +kernel
theorem dX2_init_27 : decode cX2_init 27 = .ok (.aload_n 0, 1) := by decide +kernel
theorem dX2_init_28 : decode cX2_init 28 = .ok (.iconst 4, 1) := by decide +kernel
theorem dX2_init_29 : decode cX2_init 29 = .ok (.newarray .int, 2) := by decide +kernel
theorem dX2_init_31 : decode cX2_init 31 = .ok (.putfield 15, 3) := by decide +kernel
theorem dX2_init_34 : decode cX2_init 34 = .ok (.aload_n 0, 1) := by decide +kernel
theorem dX2_init_35 : decode cX2_init 35 = .ok (.sipush 160, 3) := by decide +kernel
theorem dX2_init_38 : decode cX2_init 38 = .ok (.newarray .int, 2) := by decide +kernel
theorem dX2_init_40 : decode cX2_init 40 = .ok (.putfield 18, 3) := by decide +kernel
theorem dX2_init_43 : decode cX2_init 43 = .ok (.return_, 1) := by decide +kernel
theorem dX2_sortOf_0 : decode cX2_sortOf 0 = .ok (.iload_n 1, 1) := by decide +kernel
theorem dX2_sortOf_1 : decode cX2_sortOf 1 = .ok (.invokestatic 21, 3) := by decide +kernel
theorem dX2_sortOf_4 : decode cX2_sortOf 4 = .ok (.ifCond .eq 12, 3) := by decide +kernel
theorem dX2_sortOf_7 : decode cX2_sortOf 7 = .ok (.aload_n 0, 1) := by decide +kernel
theorem dX2_sortOf_8 : decode cX2_sortOf 8 = .ok (.getfield 9, 3) := by decide +kernel
theorem dX2_sortOf_11 : decode cX2_sortOf 11 = .ok (.iload_n 1, 1) := by decide +kernel
theorem dX2_sortOf_12 : decode cX2_sortOf 12 = .ok (.iaload, 1) := by decide +kernel
theorem dX2_sortOf_13 : decode cX2_sortOf 13 = .ok (.goto 4, 3) := by decide +kernel
theorem dX2_sortOf_16 : decode cX2_sortOf 16 = .ok (.iconst (-1), 1) := by decide +kernel
theorem dX2_sortOf_17 : decode cX2_sortOf 17 = .ok (.ireturn, 1) := by decide +kernel
theorem dX2_sizeOf_0 : decode cX2_sizeOf 0 = .ok (.iload_n 1, 1) := by decide +kernel
theorem dX2_sizeOf_1 : decode cX2_sizeOf 1 = .ok (.invokestatic 21, 3) := by decide +kernel
theorem dX2_sizeOf_4 : decode cX2_sizeOf 4 = .ok (.ifCond .eq 12, 3) := by decide +kernel
theorem dX2_sizeOf_7 : decode cX2_sizeOf 7 = .ok (.aload_n 0, 1) := by decide +kernel
theorem dX2_sizeOf_8 : decode cX2_sizeOf 8 = .ok (.getfield 15, 3) := by decide +kernel
theorem dX2_sizeOf_11 : decode cX2_sizeOf 11 = .ok (.iload_n 1, 1) := by decide +kernel
theorem dX2_sizeOf_12 : decode cX2_sizeOf 12 = .ok (.iaload, 1) := by decide +kernel
theorem dX2_sizeOf_13 : decode cX2_sizeOf 13 = .ok (.goto 4, 3) := by decide +kernel
theorem dX2_sizeOf_16 : decode cX2_sizeOf 16 = .ok (.iconst 0, 1) := by decide +kernel
theorem dX2_sizeOf_17 : decode cX2_sizeOf 17 = .ok (.ireturn, 1) := by decide +kernel
theorem dX2_remove_0 : decode cX2_remove 0 = .ok (.aload_n 0, 1) := by decide +kernel
theorem dX2_remove_1 : decode cX2_remove 1 = .ok (.iload_n 1, 1) := by decide +kernel
theorem dX2_remove_2 : decode cX2_remove 2 = .ok (.iconst (-1), 1) := by decide +kernel
theorem dX2_remove_3 : decode cX2_remove 3 = .ok (.iconst 0, 1) := by decide +kernel
theorem dX2_remove_4 : decode cX2_remove 4 = .ok (.invokevirtual 25, 3) := by decide +kernel
theorem dX2_remove_7 : decode cX2_remove 7 = .ok (.return_, 1) := by decide +kernel
theorem dX2_make_0 : decode cX2_make 0 = .ok (.iload_n 1, 1) := by decide +kernel
theorem dX2_make_1 : decode cX2_make 1 = .ok (.invokestatic 21, 3) := by decide +kernel
theorem dX2_make_4 : decode cX2_make 4 = .ok (.ifCond .ne 4, 3) := by decide +kernel
theorem dX2_make_7 : decode cX2_make 7 = .ok (.return_, 1) := by decide +kernel
theorem dX2_make_8 : decode cX2_make 8 = .ok (.aload_n 0, 1) := by decide +kernel
theorem dX2_make_9 : decode cX2_make 9 = .ok (.getfield 9, 3) := by decide +kernel
theorem dX2_make_12 : decode cX2_make 12 = .ok (.iload_n 1, 1) := by decide +kernel
theorem dX2_make_13 : decode cX2_make 13 = .ok (.iload_n 2, 1) := by decide +kernel
theorem dX2_make_14 : decode cX2_make 14 = .ok (.iastore, 1) := by decide +kernel
theorem dX2_make_15 : decode cX2_make 15 = .ok (.aload_n 0, 1) := by decide +kernel
theorem dX2_make_16 : decode cX2_make 16 = .ok (.getfield 15, 3) := by decide +kernel
theorem dX2_make_19 : decode cX2_make 19 = .ok (.iload_n 1, 1) := by decide +kernel
theorem dX2_make_20 : decode cX2_make 20 = .ok (.iload_n 3, 1) := by decide +kernel
theorem dX2_make_21 : decode cX2_make 21 = .ok (.bipush 40, 2) := by decide +kernel
theorem dX2_make_23 : decode cX2_make 23 = .ok (.invokestatic 29, 3) := by decide +kernel
theorem dX2_make_26 : decode cX2_make 26 = .ok (.iastore, 1) := by decide +kernel
theorem dX2_make_27 : decode cX2_make 27 = .ok (.iconst 0, 1) := by decide +kernel
theorem dX2_make_28 : decode cX2_make 28 = .ok (.istore 4, 2) := by decide +kernel
theorem dX2_make_30 : decode cX2_make 30 = .ok (.iload 4, 2) := by decide +kernel
theorem dX2_make_32 : decode cX2_make 32 = .ok (.bipush 40, 2) := by decide +kernel
theorem dX2_make_34 : decode cX2_make 34 = .ok (.if_icmp .ge 22, 3) := by decide +kernel
theorem dX2_make_37 : decode cX2_make 37 = .ok (.aload_n 0, 1) := by decide +kernel
theorem dX2_make_38 : decode cX2_make 38 = .ok (.getfield 18, 3) := by decide +kernel
theorem dX2_make_41 : decode cX2_make 41 = .ok (.iload_n 1, 1) := by decide +kernel
theorem dX2_make_42 : decode cX2_make 42 = .ok (.bipush 40, 2) := by decide +kernel
theorem dX2_make_44 : decode cX2_make 44 = .ok (.imul, 1) := by decide +kernel
theorem dX2_make_45 : decode cX2_make 45 = .ok (.iload 4, 2) := by decide +kernel
theorem dX2_make_47 : decode cX2_make 47 = .ok (.iadd, 1) := by decide +kernel
theorem dX2_make_48 : decode cX2_make 48 = .ok (.iconst 0, 1) := by decide +kernel
theorem dX2_make_49 : decode cX2_make 49 = .ok (.iastore, 1) := by decide +kernel
theorem dX2_make_50 : decode cX2_make 50 = .ok (.iinc 4 1, 3) := by decide +kernel
theorem dX2_make_53 : decode cX2_make 53 = .ok (.goto (-23), 3) := by decide +kernel
theorem dX2_make_56 : decode cX2_make 56 = .ok (.return_, 1) := by decide +kernel
theorem dX2_itemOf_0 : decode cX2_itemOf 0 = .ok (.aload_n 0, 1) := by decide +kernel
theorem dX2_itemOf_1 : decode cX2_itemOf 1 = .ok (.iload_n 1, 1) := by decide +kernel
theorem dX2_itemOf_2 : decode cX2_itemOf 2 = .ok (.iload_n 2, 1) := by decide +kernel
theorem dX2_itemOf_3 : decode cX2_itemOf 3 = .ok (.iconst 1, 1) := by decide +kernel
theorem dX2_itemOf_4 : decode cX2_itemOf 4 = .ok (.invokevirtual 33, 3) := by decide +kernel
theorem dX2_itemOf_7 : decode cX2_itemOf 7 = .ok (.ifCond .eq 17, 3) := by decide +kernel
theorem dX2_itemOf_10 : decode cX2_itemOf 10 = .ok (.aload_n 0, 1) := by decide +kernel
theorem dX2_itemOf_11 : decode cX2_itemOf 11 = .ok (.getfield 18, 3) := by decide +kernel
theorem dX2_itemOf_14 : decode cX2_itemOf 14 = .ok (.iload_n 1, 1) := by decide +kernel
theorem dX2_itemOf_15 : decode cX2_itemOf 15 = .ok (.bipush 40, 2) := by decide +kernel
theorem dX2_itemOf_17 : decode cX2_itemOf 17 = .ok (.imul, 1) := by decide +kernel
theorem dX2_itemOf_18 : decode cX2_itemOf 18 = .ok (.iload_n 2, 1) := by decide +kernel
theorem dX2_itemOf_19 : decode cX2_itemOf 19 = .ok (.iadd, 1) := by decide +kernel
theorem dX2_itemOf_20 : decode cX2_itemOf 20 = .ok (.iaload, 1) := by decide +kernel
theorem dX2_itemOf_21 : decode cX2_itemOf 21 = .ok (.goto 4, 3) := by decide +kernel
theorem dX2_itemOf_24 : decode cX2_itemOf 24 = .ok (.iconst 0, 1) := by decide +kernel
theorem dX2_itemOf_25 : decode cX2_itemOf 25 = .ok (.ireturn, 1) := by decide +kernel
theorem dX2_put_0 : decode cX2_put 0 = .ok (.aload_n 0, 1) := by decide +kernel
theorem dX2_put_1 : decode cX2_put 1 = .ok (.iload_n 1, 1) := by decide +kernel
theorem dX2_put_2 : decode cX2_put 2 = .ok (.iload_n 2, 1) := by decide +kernel
theorem dX2_put_3 : decode cX2_put 3 = .ok (.iconst 1, 1) := by decide +kernel
theorem dX2_put_4 : decode cX2_put 4 = .ok (.invokevirtual 33, 3) := by decide +kernel
theorem dX2_put_7 : decode cX2_put 7 = .ok (.ifCond .ne 4, 3) := by decide +kernel
theorem dX2_put_10 : decode cX2_put 10 = .ok (.return_, 1) := by decide +kernel
theorem dX2_put_11 : decode cX2_put 11 = .ok (.aload_n 0, 1) := by decide +kernel
theorem dX2_put_12 : decode cX2_put 12 = .ok (.getfield 9, 3) := by decide +kernel
theorem dX2_put_15 : decode cX2_put 15 = .ok (.iload_n 1, 1) := by decide +kernel
theorem dX2_put_16 : decode cX2_put 16 = .ok (.iaload, 1) := by decide +kernel
theorem dX2_put_17 : decode cX2_put 17 = .ok (.ifCond .ne 8, 3) := by decide +kernel
theorem dX2_put_20 : decode cX2_put 20 = .ok (.iload_n 3, 1) := by decide +kernel
theorem dX2_put_21 : decode cX2_put 21 = .ok (.i2b, 1) := by decide +kernel
theorem dX2_put_22 : decode cX2_put 22 = .ok (.goto 19, 3) := by decide +kernel
theorem dX2_put_25 : decode cX2_put 25 = .ok (.aload_n 0, 1) := by decide +kernel
theorem dX2_put_26 : decode cX2_put 26 = .ok (.getfield 9, 3) := by decide +kernel
theorem dX2_put_29 : decode cX2_put 29 = .ok (.iload_n 1, 1) := by decide +kernel
theorem dX2_put_30 : decode cX2_put 30 = .ok (.iaload, 1) := by decide +kernel
theorem dX2_put_31 : decode cX2_put 31 = .ok (.iconst 1, 1) := by decide +kernel
theorem dX2_put_32 : decode cX2_put 32 = .ok (.if_icmp .ne 8, 3) := by decide +kernel
theorem dX2_put_35 : decode cX2_put 35 = .ok (.iload_n 3, 1) := by decide +kernel
theorem dX2_put_36 : decode cX2_put 36 = .ok (.i2s, 1) := by decide +kernel
theorem dX2_put_37 : decode cX2_put 37 = .ok (.goto 4, 3) := by decide +kernel
theorem dX2_put_40 : decode cX2_put 40 = .ok (.iload_n 3, 1) := by decide +kernel
theorem dX2_put_41 : decode cX2_put 41 = .ok (.istore 4, 2) := by decide +kernel
theorem dX2_put_43 : decode cX2_put 43 = .ok (.aload_n 0, 1) := by decide +kernel
theorem dX2_put_44 : decode cX2_put 44 = .ok (.getfield 18, 3) := by decide +kernel
theorem dX2_put_47 : decode cX2_put 47 = .ok (.iload_n 1, 1) := by decide +kernel
theorem dX2_put_48 : decode cX2_put 48 = .ok (.bipush 40, 2) := by decide +kernel
theorem dX2_put_50 : decode cX2_put 50 = .ok (.imul, 1) := by decide +kernel
theorem dX2_put_51 : decode cX2_put 51 = .ok (.iload_n 2, 1) := by decide +kernel
theorem dX2_put_52 : decode cX2_put 52 = .ok (.iadd, 1) := by decide +kernel
theorem dX2_put_53 : decode cX2_put 53 = .ok (.iload 4, 2) := by decide +kernel
theorem dX2_put_55 : decode cX2_put 55 = .ok (.iastore, 1) := by decide +kernel
theorem dX2_put_56 : decode cX2_put 56 = .ok (.return_, 1) := by decide +kernel
theorem dX2_hasRange_0 : decode cX2_hasRange 0 = .ok (.iload_n 2, 1) := by decide +kernel
theorem dX2_hasRange_1 : decode cX2_hasRange 1 = .ok (.ifCond .lt 31, 3) := by decide +kernel
theorem dX2_hasRange_4 : decode cX2_hasRange 4 = .ok (.iload_n 3, 1) := by decide +kernel
theorem dX2_hasRange_5 : decode cX2_hasRange 5 = .ok (.ifCond .lt 27, 3) := by decide +kernel
theorem dX2_hasRange_8 : decode cX2_hasRange 8 = .ok (.iload_n 2, 1) := by decide +kernel
theorem dX2_hasRange_9 : decode cX2_hasRange 9 = .ok (.aload_n 0, 1) := by decide +kernel
theorem dX2_hasRange_10 : decode cX2_hasRange 10 = .ok (.iload_n 1, 1) := by decide +kernel
theorem dX2_hasRange_11 : decode cX2_hasRange 11 = .ok (.invokevirtual 37, 3) := by decide +kernel
theorem dX2_hasRange_14 : decode cX2_hasRange 14 = .ok (.if_icmp .gt 18, 3) := by decide +kernel
theorem dX2_hasRange_17 : decode cX2_hasRange 17 = .ok (.iload_n 3, 1) := by decide +kernel
theorem dX2_hasRange_18 : decode cX2_hasRange 18 = .ok (.aload_n 0, 1) := by decide +kernel
theorem dX2_hasRange_19 : decode cX2_hasRange 19 = .ok (.iload_n 1, 1) := by decide +kernel
theorem dX2_hasRange_20 : decode cX2_hasRange 20 = .ok (.invokevirtual 37, 3) := by decide +kernel
theorem dX2_hasRange_23 : decode cX2_hasRange 23 = .ok (.iload_n 2, 1) := by decide +kernel
theorem dX2_hasRange_24 : decode cX2_hasRange 24 = .ok (.isub, 1) := by decide +kernel
theorem dX2_hasRange_25 : decode cX2_hasRange 25 = .ok (.if_icmp .gt 7, 3) := by decide +kernel
theorem dX2_hasRange_28 : decode cX2_hasRange 28 = .ok (.iconst 1, 1) := by decide +kernel
theorem dX2_hasRange_29 : decode cX2_hasRange 29 = .ok (.goto 4, 3) := by decide +kernel
theorem dX2_hasRange_32 : decode cX2_hasRange 32 = .ok (.iconst 0, 1) := by decide +kernel
theorem dX2_hasRange_33 : decode cX2_hasRange 33 = .ok (.ireturn, 1) := by decide +kernel
theorem dX2_move_0 : decode cX2_move 0 = .ok (.aload_n 0, 1) := by decide +kernel
theorem dX2_move_1 : decode cX2_move 1 = .ok (.iload_n 1, 1) := by decide +kernel
theorem dX2_move_2 : decode cX2_move 2 = .ok (.iload_n 2, 1) := by decide +kernel
theorem dX2_move_3 : decode cX2_move 3 = .ok (.iload 5, 2) := by decide +kernel
theorem dX2_move_5 : decode cX2_move 5 = .ok (.invokevirtual 33, 3) := by decide +kernel
theorem dX2_move_8 : decode cX2_move 8 = .ok (.ifCond .eq 55, 3) := by decide +kernel
theorem dX2_move_11 : decode cX2_move 11 = .ok (.aload_n 0, 1) := by decide +kernel
theorem dX2_move_12 : decode cX2_move 12 = .ok (.iload_n 3, 1) := by decide +kernel
theorem dX2_move_13 : decode cX2_move 13 = .ok (.iload 4, 2) := by decide +kernel
theorem dX2_move_15 : decode cX2_move 15 = .ok (.iload 5, 2) := by decide +kernel
theorem dX2_move_17 : decode cX2_move 17 = .ok (.invokevirtual 33, 3) := by decide +kernel
theorem dX2_move_20 : decode cX2_move 20 = .ok (.ifCond .eq 43, 3) := by decide +kernel
theorem dX2_move_23 : decode cX2_move 23 = .ok (.iload_n 1, 1) := by decide +kernel
theorem dX2_move_24 : decode cX2_move 24 = .ok (.invokestatic 21, 3) := by decide +kernel
theorem dX2_move_27 : decode cX2_move 27 = .ok (.ifCond .eq 36, 3) := by decide +kernel
theorem dX2_move_30 : decode cX2_move 30 = .ok (.iload_n 3, 1) := by decide +kernel
theorem dX2_move_31 : decode cX2_move 31 = .ok (.invokestatic 21, 3) := by decide +kernel
theorem dX2_move_34 : decode cX2_move 34 = .ok (.ifCond .eq 29, 3) := by decide +kernel
theorem dX2_move_37 : decode cX2_move 37 = .ok (.aload_n 0, 1) := by decide +kernel
theorem dX2_move_38 : decode cX2_move 38 = .ok (.getfield 18, 3) := by decide +kernel
theorem dX2_move_41 : decode cX2_move 41 = .ok (.iload_n 1, 1) := by decide +kernel
theorem dX2_move_42 : decode cX2_move 42 = .ok (.bipush 40, 2) := by decide +kernel
theorem dX2_move_44 : decode cX2_move 44 = .ok (.imul, 1) := by decide +kernel
theorem dX2_move_45 : decode cX2_move 45 = .ok (.iload_n 2, 1) := by decide +kernel
theorem dX2_move_46 : decode cX2_move 46 = .ok (.iadd, 1) := by decide +kernel
theorem dX2_move_47 : decode cX2_move 47 = .ok (.aload_n 0, 1) := by decide +kernel
theorem dX2_move_48 : decode cX2_move 48 = .ok (.getfield 18, 3) := by decide +kernel
theorem dX2_move_51 : decode cX2_move 51 = .ok (.iload_n 3, 1) := by decide +kernel
theorem dX2_move_52 : decode cX2_move 52 = .ok (.bipush 40, 2) := by decide +kernel
theorem dX2_move_54 : decode cX2_move 54 = .ok (.imul, 1) := by decide +kernel
theorem dX2_move_55 : decode cX2_move 55 = .ok (.iload 4, 2) := by decide +kernel
theorem dX2_move_57 : decode cX2_move 57 = .ok (.iadd, 1) := by decide +kernel
theorem dX2_move_58 : decode cX2_move 58 = .ok (.iload 5, 2) := by decide +kernel
theorem dX2_move_60 : decode cX2_move 60 = .ok (.invokestatic 41, 3) := by decide +kernel
theorem dX2_move_63 : decode cX2_move 63 = .ok (.return_, 1) := by decide +kernel
theorem dX3_init_0 : decode cX3_init 0 = .ok (.aload_n 0, 1) := by decide +kernel
theorem dX3_init_1 : decode cX3_init 1 = .ok (.invokespecial 3, 3) := by decide +kernel
theorem dX3_init_4 : decode cX3_init 4 = .ok (.aload_n 0, 1) := by decide +kernel
theorem dX3_init_5 : decode cX3_init 5 = .ok (.iconst 1, 1) := by decide +kernel
theorem dX3_init_6 : decode cX3_init 6 = .ok (.putfield 9, 3) := by decide +kernel
theorem dX3_init_9 : decode cX3_init 9 = .ok (.aload_n 0, 1) := by decide +kernel
theorem dX3_init_10 : decode cX3_init 10 = .ok (.sipush 960, 3) := by decide +kernel
theorem dX3_init_13 : decode cX3_init 13 = .ok (.newarray .int, 2) := by decide +kernel
theorem dX3_init_15 : decode cX3_init 15 = .ok (.putfield 15, 3) := by decide +kernel
theorem dX3_init_18 : decode cX3_init 18 = .ok (.aload_n 0, 1) := by decide +kernel
theorem dX3_init_19 : decode cX3_init 19 = .ok (.bipush 18, 2) := by decide +kernel
theorem dX3_init_21 : decode cX3_init 21 = .ok (.newarray .int, 2) := by decide +kernel
theorem dX3_init_23 : decode cX3_init 23 = .ok (.putfield 19, 3) := by decide +kernel
theorem dX3_init_26 : decode cX3_init 26 = .ok (.aload_n 0, 1) := by decide +kernel
theorem dX3_init_27 : decode cX3_init 27 = .ok (.bipush 6, 2) := by decide +kernel
theorem dX3_init_29 : decode cX3_init 29 = .ok (.newarray .int, 2) := by decide +kernel
theorem dX3_init_31 : decode cX3_init 31 = .ok (.putfield 22, 3) := by decide +kernel
theorem dX3_init_34 : decode cX3_init 34 = .ok (.aload_n 0, 1) := by decide +kernel
theorem dX3_init_35 : decode cX3_init 35 = .ok (.sipush 160, 3) := by decide +kernel
theorem dX3_init_38 : decode cX3_init 38 = .ok (.newarray .int, 2) := by decide +kernel
theorem dX3_init_40 : decode cX3_init 40 = .ok (.putfield 25, 3) := by decide +kernel
theorem dX3_init_43 : decode cX3_init 43 = .ok (.aload_n 0, 1) := by decide +kernel
theorem dX3_init_44 : decode cX3_init 44 = .ok (.iconst 0, 1) := by decide +kernel
theorem dX3_init_45 : decode cX3_init 45 = .ok (.putfield 28, 3) := by decide +kernel
theorem dX3_init_48 : decode cX3_init 48 = .ok (.getstatic 31, 3) := by decide +kernel
theorem dX3_init_51 : decode cX3_init 51 = .ok (.iconst 0, 1) := by decide +kernel
theorem dX3_init_52 : decode cX3_init 52 = .ok (.aload_n 0, 1) := by decide +kernel
theorem dX3_init_53 : decode cX3_init 53 = .ok (.getfield 15, 3) := by decide +kernel
theorem dX3_init_56 : decode cX3_init 56 = .ok (.iconst 0, 1) := by decide +kernel
theorem dX3_init_57 : decode cX3_init 57 = .ok (.getstatic 31, 3) := by decide +kernel
theorem dX3_init_60 : decode cX3_init 60 = .ok (.arraylength, 1) := by decide +kernel
theorem dX3_init_61 : decode cX3_init 61 = .ok (.invokestatic 34, 3) := by decide +kernel
theorem dX3_init_64 : decode cX3_init 64 = .ok (.getstatic 40, 3) := by decide +kernel
theorem dX3_init_67 : decode cX3_init 67 = .ok (.iconst 0, 1) := by decide +kernel
theorem dX3_init_68 : decode cX3_init 68 = .ok (.aload_n 0, 1) := by decide +kernel
theorem dX3_init_69 : decode cX3_init 69 = .ok (.getfield 19, 3) := by decide +kernel
theorem dX3_init_72 : decode cX3_init 72 = .ok (.iconst 0, 1) := by decide +kernel
theorem dX3_init_73 : decode cX3_init 73 = .ok (.iconst 3, 1) := by decide +kernel
theorem dX3_init_74 : decode cX3_init 74 = .ok (.invokestatic 34, 3) := by decide +kernel
theorem dX3_init_77 : decode cX3_init 77 = .ok (.return_, 1) := by decide +kernel
theorem dX3_has_0 : decode cX3_has 0 = .ok (.iload_n 1, 1) := by decide +kernel
theorem dX3_has_1 : decode cX3_has 1 = .ok (.ifCond .lt 15, 3) := by decide +kernel
theorem dX3_has_4 : decode cX3_has 4 = .ok (.iload_n 1, 1) := by decide +kernel
theorem dX3_has_5 : decode cX3_has 5 = .ok (.aload_n 0, 1) := by decide +kernel
theorem dX3_has_6 : decode cX3_has 6 = .ok (.getfield 9, 3) := by decide +kernel
theorem dX3_has_9 : decode cX3_has 9 = .ok (.if_icmp .ge 7, 3) := by decide +kernel
theorem dX3_has_12 : decode cX3_has 12 = .ok (.iconst 1, 1) := by decide +kernel
theorem dX3_has_13 : decode cX3_has 13 = .ok (.goto 4, 3) := by decide +kernel
theorem dX3_has_16 : decode cX3_has 16 = .ok (.iconst 0, 1) := by decide +kernel
theorem dX3_has_17 : decode cX3_has 17 = .ok (.ireturn, 1) := by decide +kernel
theorem dX3_isFull_0 : decode cX3_isFull 0 = .ok (.aload_n 0, 1) := by decide +kernel
theorem dX3_isFull_1 : decode cX3_isFull 1 = .ok (.getfield 9, 3) := by decide +kernel
theorem dX3_isFull_4 : decode cX3_isFull 4 = .ok (.bipush 6, 2) := by decide +kernel
theorem dX3_isFull_6 : decode cX3_isFull 6 = .ok (.if_icmp .lt 7, 3) := by decide +kernel
theorem dX3_isFull_9 : decode cX3_isFull 9 = .ok (.iconst 1, 1) := by decide +kernel
theorem dX3_isFull_10 : decode cX3_isFull 10 = .ok (.goto 4, 3) := by decide +kernel
theorem dX3_isFull_13 : decode cX3_isFull 13 = .ok (.iconst 0, 1) := by decide +kernel
theorem dX3_isFull_14 : decode cX3_isFull 14 = .ok (.ireturn, 1) := by decide +kernel
theorem dX3_begin_0 : decode cX3_begin 0 = .ok (.aload_n 0, 1) := by decide +kernel
theorem dX3_begin_1 : decode cX3_begin 1 = .ok (.aload_n 0, 1) := by decide +kernel
theorem dX3_begin_2 : decode cX3_begin 2 = .ok (.getfield 9, 3) := by decide +kernel
theorem dX3_begin_5 : decode cX3_begin 5 = .ok (.sipush 160, 3) := by decide +kernel
theorem dX3_begin_8 : decode cX3_begin 8 = .ok (.imul, 1) := by decide +kernel
theorem dX3_begin_9 : decode cX3_begin 9 = .ok (.putfield 28, 3) := by decide +kernel
theorem dX3_begin_12 : decode cX3_begin 12 = .ok (.return_, 1) := by decide +kernel
theorem dX3_write_0 : decode cX3_write 0 = .ok (.aload_n 0, 1) := by decide +kernel
theorem dX3_write_1 : decode cX3_write 1 = .ok (.getfield 28, 3) := by decide +kernel
theorem dX3_write_4 : decode cX3_write 4 = .ok (.ifCond .lt 35, 3) := by decide +kernel
theorem dX3_write_7 : decode cX3_write 7 = .ok (.aload_n 0, 1) := by decide +kernel
theorem dX3_write_8 : decode cX3_write 8 = .ok (.getfield 28, 3) := by decide +kernel
theorem dX3_write_11 : decode cX3_write 11 = .ok (.aload_n 0, 1) := by decide +kernel
theorem dX3_write_12 : decode cX3_write 12 = .ok (.getfield 15, 3) := by decide +kernel
theorem dX3_write_15 : decode cX3_write 15 = .ok (.arraylength, 1) := by decide +kernel
theorem dX3_write_16 : decode cX3_write 16 = .ok (.if_icmp .ge 23, 3) := by decide +kernel
theorem dX3_write_19 : decode cX3_write 19 = .ok (.aload_n 0, 1) := by decide +kernel
theorem dX3_write_20 : decode cX3_write 20 = .ok (.getfield 15, 3) := by decide +kernel
theorem dX3_write_23 : decode cX3_write 23 = .ok (.aload_n 0, 1) := by decide +kernel
theorem dX3_write_24 : decode cX3_write 24 = .ok (.getfield 28, 3) := by decide +kernel
theorem dX3_write_27 : decode cX3_write 27 = .ok (.iload_n 1, 1) := by decide +kernel
theorem dX3_write_28 : decode cX3_write 28 = .ok (.iastore, 1) := by decide +kernel
theorem dX3_write_29 : decode cX3_write 29 = .ok (.aload_n 0, 1) := by decide +kernel
theorem dX3_write_30 : decode cX3_write 30 = .ok (.dup, 1) := by decide +kernel
theorem dX3_write_31 : decode cX3_write 31 = .ok (.getfield 28, 3) := by decide +kernel
theorem dX3_write_34 : decode cX3_write 34 = .ok (.iconst 1, 1) := by decide +kernel
theorem dX3_write_35 : decode cX3_write 35 = .ok (.iadd, 1) := by decide +kernel
theorem dX3_write_36 : decode cX3_write 36 = .ok (.putfield 28, 3) := by decide +kernel
theorem dX3_write_39 : decode cX3_write 39 = .ok (.return_, 1) := by decide +kernel
theorem dX3_endPart_0 : decode cX3_endPart 0 = .ok (.aload_n 0, 1) := by decide +kernel
theorem dX3_endPart_1 : decode cX3_endPart 1 = .ok (.getfield 9, 3) := by decide +kernel
theorem dX3_endPart_4 : decode cX3_endPart 4 = .ok (.iconst 3, 1) := by decide +kernel
theorem dX3_endPart_5 : decode cX3_endPart 5 = .ok (.imul, 1) := by decide +kernel
theorem dX3_endPart_6 : decode cX3_endPart 6 = .ok (.iload_n 1, 1) := by decide +kernel
theorem dX3_endPart_7 : decode cX3_endPart 7 = .ok (.iadd, 1) := by decide +kernel
theorem dX3_endPart_8 : decode cX3_endPart 8 = .ok (.istore_n 2, 1) := by decide +kernel
theorem dX3_endPart_9 : decode cX3_endPart 9 = .ok (.iload_n 2, 1) := by decide +kernel
theorem dX3_endPart_10 : decode cX3_endPart 10 = .ok (.ifCond .lt 22, 3) := by decide +kernel
theorem dX3_endPart_13 : decode cX3_endPart 13 = .ok (.iload_n 2, 1) := by decide +kernel
theorem dX3_endPart_14 : decode cX3_endPart 14 = .ok (.aload_n 0, 1) := by decide +kernel
theorem dX3_endPart_15 : decode cX3_endPart 15 = .ok (.getfield 19, 3) := by decide +kernel
theorem dX3_endPart_18 : decode cX3_endPart 18 = .ok (.arraylength, 1) := by decide +kernel
theorem dX3_endPart_19 : decode cX3_endPart 19 = .ok (.if_icmp .ge 13, 3) := by decide +kernel
theorem dX3_endPart_22 : decode cX3_endPart 22 = .ok (.aload_n 0, 1) := by decide +kernel
theorem dX3_endPart_23 : decode cX3_endPart 23 = .ok (.getfield 19, 3) := by decide +kernel
theorem dX3_endPart_26 : decode cX3_endPart 26 = .ok (.iload_n 2, 1) := by decide +kernel
theorem dX3_endPart_27 : decode cX3_endPart 27 = .ok (.aload_n 0, 1) := by decide +kernel
theorem dX3_endPart_28 : decode cX3_endPart 28 = .ok (.getfield 28, 3) := by decide +kernel
theorem dX3_endPart_31 : decode cX3_endPart 31 = .ok (.iastore, 1) := by decide +kernel
theorem dX3_endPart_32 : decode cX3_endPart 32 = .ok (.return_, 1) := by decide +kernel
theorem dX3_keep_0 : decode cX3_keep 0 = .ok (.aload_n 0, 1) := by decide +kernel
theorem dX3_keep_1 : decode cX3_keep 1 = .ok (.dup, 1) := by decide +kernel
theorem dX3_keep_2 : decode cX3_keep 2 = .ok (.getfield 9, 3) := by decide +kernel
theorem dX3_keep_5 : decode cX3_keep 5 = .ok (.iconst 1, 1) := by decide +kernel
theorem dX3_keep_6 : decode cX3_keep 6 = .ok (.iadd, 1) := by decide +kernel
theorem dX3_keep_7 : decode cX3_keep 7 = .ok (.putfield 9, 3) := by decide +kernel
theorem dX3_keep_10 : decode cX3_keep 10 = .ok (.aload_n 0, 1) := by decide +kernel
theorem dX3_keep_11 : decode cX3_keep 11 = .ok (.getfield 9, 3) := by decide +kernel
theorem dX3_keep_14 : decode cX3_keep 14 = .ok (.iconst 1, 1) := by decide +kernel
theorem dX3_keep_15 : decode cX3_keep 15 = .ok (.isub, 1) := by decide +kernel
theorem dX3_keep_16 : decode cX3_keep 16 = .ok (.ireturn, 1) := by decide +kernel
theorem dX3_reckon_0 : decode cX3_reckon 0 = .ok (.aload_n 2, 1) := by decide +kernel
theorem dX3_reckon_1 : decode cX3_reckon 1 = .ok (.getfield 43, 3) := by decide +kernel
theorem dX3_reckon_4 : decode cX3_reckon 4 = .ok (.iconst 3, 1) := by decide +kernel
theorem dX3_reckon_5 : decode cX3_reckon 5 = .ok (.imul, 1) := by decide +kernel
theorem dX3_reckon_6 : decode cX3_reckon 6 = .ok (.iload_n 1, 1) := by decide +kernel
theorem dX3_reckon_7 : decode cX3_reckon 7 = .ok (.iadd, 1) := by decide +kernel
theorem dX3_reckon_8 : decode cX3_reckon 8 = .ok (.istore 5, 2) := by decide +kernel
theorem dX3_reckon_10 : decode cX3_reckon 10 = .ok (.aload_n 0, 1) := by decide +kernel
theorem dX3_reckon_11 : decode cX3_reckon 11 = .ok (.aload_n 2, 1) := by decide +kernel
theorem dX3_reckon_12 : decode cX3_reckon 12 = .ok (.getfield 43, 3) := by decide +kernel
theorem dX3_reckon_15 : decode cX3_reckon 15 = .ok (.invokevirtual 48, 3) := by decide +kernel
theorem dX3_reckon_18 : decode cX3_reckon 18 = .ok (.ifCond .eq 30, 3) := by decide +kernel
theorem dX3_reckon_21 : decode cX3_reckon 21 = .ok (.aload_n 2, 1) := by decide +kernel
theorem dX3_reckon_22 : decode cX3_reckon 22 = .ok (.iload_n 3, 1) := by decide +kernel
theorem dX3_reckon_23 : decode cX3_reckon 23 = .ok (.invokevirtual 52, 3) := by decide +kernel
theorem dX3_reckon_26 : decode cX3_reckon 26 = .ok (.ifCond .eq 22, 3) := by decide +kernel
theorem dX3_reckon_29 : decode cX3_reckon 29 = .ok (.iload_n 1, 1) := by decide +kernel
theorem dX3_reckon_30 : decode cX3_reckon 30 = .ok (.iconst 0, 1) := by decide +kernel
theorem dX3_reckon_31 : decode cX3_reckon 31 = .ok (.iconst 2, 1) := by decide +kernel
theorem dX3_reckon_32 : decode cX3_reckon 32 = .ok (.invokestatic 53, 3) := by decide +kernel
theorem dX3_reckon_35 : decode cX3_reckon 35 = .ok (.ifCond .eq 13, 3) := by decide +kernel
theorem dX3_reckon_38 : decode cX3_reckon 38 = .ok (.iload 5, 2) := by decide +kernel
theorem dX3_reckon_40 : decode cX3_reckon 40 = .ok (.aload_n 0, 1) := by decide +kernel
theorem dX3_reckon_41 : decode cX3_reckon 41 = .ok (.getfield 19, 3) := by decide +kernel
theorem dX3_reckon_44 : decode cX3_reckon 44 = .ok (.arraylength, 1) := by decide +kernel
theorem dX3_reckon_45 : decode cX3_reckon 45 = .ok (.if_icmp .lt 5, 3) := by decide +kernel
theorem dX3_reckon_48 : decode cX3_reckon 48 = .ok (.iconst 0, 1) := by decide +kernel
theorem dX3_reckon_49 : decode cX3_reckon 49 = .ok (.ireturn, 1) := by decide +kernel
theorem dX3_reckon_50 : decode cX3_reckon 50 = .ok (.aload_n 0, 1) := by decide +kernel
theorem dX3_reckon_51 : decode cX3_reckon 51 = .ok (.getfield 22, 3) := by decide +kernel
theorem dX3_reckon_54 : decode cX3_reckon 54 = .ok (.iconst 0, 1) := by decide +kernel
theorem dX3_reckon_55 : decode cX3_reckon 55 = .ok (.aload_n 2, 1) := by decide +kernel
theorem dX3_reckon_56 : decode cX3_reckon 56 = .ok (.getfield 57, 3) := by decide +kernel
theorem dX3_reckon_59 : decode cX3_reckon 59 = .ok (.iload_n 3, 1) := by decide +kernel
theorem dX3_reckon_60 : decode cX3_reckon 60 = .ok (.iaload, 1) := by decide +kernel
theorem dX3_reckon_61 : decode cX3_reckon 61 = .ok (.aload_n 2, 1) := by decide +kernel
theorem dX3_reckon_62 : decode cX3_reckon 62 = .ok (.getfield 60, 3) := by decide +kernel
theorem dX3_reckon_65 : decode cX3_reckon 65 = .ok (.iload_n 3, 1) := by decide +kernel
theorem dX3_reckon_66 : decode cX3_reckon 66 = .ok (.iaload, 1) := by decide +kernel
theorem dX3_reckon_67 : decode cX3_reckon 67 = .ok (.invokestatic 63, 3) := by decide +kernel
theorem dX3_reckon_70 : decode cX3_reckon 70 = .ok (.iastore, 1) := by decide +kernel
theorem dX3_reckon_71 : decode cX3_reckon 71 = .ok (.aload_n 0, 1) := by decide +kernel
theorem dX3_reckon_72 : decode cX3_reckon 72 = .ok (.getfield 22, 3) := by decide +kernel
theorem dX3_reckon_75 : decode cX3_reckon 75 = .ok (.iconst 1, 1) := by decide +kernel
theorem dX3_reckon_76 : decode cX3_reckon 76 = .ok (.iload 4, 2) := by decide +kernel
theorem dX3_reckon_78 : decode cX3_reckon 78 = .ok (.iastore, 1) := by decide +kernel
theorem dX3_reckon_79 : decode cX3_reckon 79 = .ok (.aload_n 0, 1) := by decide +kernel
theorem dX3_reckon_80 : decode cX3_reckon 80 = .ok (.getfield 22, 3) := by decide +kernel
theorem dX3_reckon_83 : decode cX3_reckon 83 = .ok (.iconst 2, 1) := by decide +kernel
theorem dX3_reckon_84 : decode cX3_reckon 84 = .ok (.aload_n 2, 1) := by decide +kernel
theorem dX3_reckon_85 : decode cX3_reckon 85 = .ok (.getfield 67, 3) := by decide +kernel
theorem dX3_reckon_88 : decode cX3_reckon 88 = .ok (.iastore, 1) := by decide +kernel
theorem dX3_reckon_89 : decode cX3_reckon 89 = .ok (.aload_n 0, 1) := by decide +kernel
theorem dX3_reckon_90 : decode cX3_reckon 90 = .ok (.getfield 22, 3) := by decide +kernel
theorem dX3_reckon_93 : decode cX3_reckon 93 = .ok (.iconst 3, 1) := by decide +kernel
theorem dX3_reckon_94 : decode cX3_reckon 94 = .ok (.aload_n 2, 1) := by decide +kernel
theorem dX3_reckon_95 : decode cX3_reckon 95 = .ok (.getfield 70, 3) := by decide +kernel
theorem dX3_reckon_98 : decode cX3_reckon 98 = .ok (.iastore, 1) := by decide +kernel
theorem dX3_reckon_99 : decode cX3_reckon 99 = .ok (.aload_n 0, 1) := by decide +kernel
theorem dX3_reckon_100 : decode cX3_reckon 100 = .ok (.getfield 22, 3) := by decide +kernel
theorem dX3_reckon_103 : decode cX3_reckon 103 = .ok (.iconst 4, 1) := by decide +kernel
theorem dX3_reckon_104 : decode cX3_reckon 104 = .ok (.aload_n 2, 1) := by decide +kernel
theorem dX3_reckon_105 : decode cX3_reckon 105 = .ok (.getfield 73, 3) := by decide +kernel
theorem dX3_reckon_108 : decode cX3_reckon 108 = .ok (.iload_n 3, 1) := by decide +kernel
theorem dX3_reckon_109 : decode cX3_reckon 109 = .ok (.iaload, 1) := by decide +kernel
theorem dX3_reckon_110 : decode cX3_reckon 110 = .ok (.bipush 8, 2) := by decide +kernel
theorem dX3_reckon_112 : decode cX3_reckon 112 = .ok (.idiv, 1) := by decide +kernel
theorem dX3_reckon_113 : decode cX3_reckon 113 = .ok (.iastore, 1) := by decide +kernel
theorem dX3_reckon_114 : decode cX3_reckon 114 = .ok (.aload_n 0, 1) := by decide +kernel
theorem dX3_reckon_115 : decode cX3_reckon 115 = .ok (.getfield 22, 3) := by decide +kernel
theorem dX3_reckon_118 : decode cX3_reckon 118 = .ok (.iconst 5, 1) := by decide +kernel
theorem dX3_reckon_119 : decode cX3_reckon 119 = .ok (.aload_n 2, 1) := by decide +kernel
theorem dX3_reckon_120 : decode cX3_reckon 120 = .ok (.getfield 73, 3) := by decide +kernel
theorem dX3_reckon_123 : decode cX3_reckon 123 = .ok (.iload_n 3, 1) := by decide +kernel
theorem dX3_reckon_124 : decode cX3_reckon 124 = .ok (.iaload, 1) := by decide +kernel
theorem dX3_reckon_125 : decode cX3_reckon 125 = .ok (.bipush 8, 2) := by decide +kernel
theorem dX3_reckon_127 : decode cX3_reckon 127 = .ok (.irem, 1) := by decide +kernel
theorem dX3_reckon_128 : decode cX3_reckon 128 = .ok (.iastore, 1) := by decide +kernel
theorem dX3_reckon_129 : decode cX3_reckon 129 = .ok (.iload_n 1, 1) := by decide +kernel
theorem dX3_reckon_130 : decode cX3_reckon 130 = .ok (.ifCond .ne 14, 3) := by decide +kernel
theorem dX3_reckon_133 : decode cX3_reckon 133 = .ok (.aload_n 2, 1) := by decide +kernel
theorem dX3_reckon_134 : decode cX3_reckon 134 = .ok (.getfield 43, 3) := by decide +kernel
theorem dX3_reckon_137 : decode cX3_reckon 137 = .ok (.sipush 160, 3) := by decide +kernel
theorem dX3_reckon_140 : decode cX3_reckon 140 = .ok (.imul, 1) := by decide +kernel
theorem dX3_reckon_141 : decode cX3_reckon 141 = .ok (.goto 12, 3) := by decide +kernel
theorem dX3_reckon_144 : decode cX3_reckon 144 = .ok (.aload_n 0, 1) := by decide +kernel
theorem dX3_reckon_145 : decode cX3_reckon 145 = .ok (.getfield 19, 3) := by decide +kernel
theorem dX3_reckon_148 : decode cX3_reckon 148 = .ok (.iload 5, 2) := by decide +kernel
theorem dX3_reckon_150 : decode cX3_reckon 150 = .ok (.iconst 1, 1) := by decide +kernel
theorem dX3_reckon_151 : decode cX3_reckon 151 = .ok (.isub, 1) := by decide +kernel
theorem dX3_reckon_152 : decode cX3_reckon 152 = .ok (.iaload, 1) := by decide +kernel
theorem dX3_reckon_153 : decode cX3_reckon 153 = .ok (.istore 6, 2) := by decide +kernel
theorem dX3_reckon_155 : decode cX3_reckon 155 = .ok (.aload_n 0, 1) := by decide +kernel
theorem dX3_reckon_156 : decode cX3_reckon 156 = .ok (.iload 6, 2) := by decide +kernel
theorem dX3_reckon_158 : decode cX3_reckon 158 = .ok (.aload_n 0, 1) := by decide +kernel
theorem dX3_reckon_159 : decode cX3_reckon 159 = .ok (.getfield 19, 3) := by decide +kernel
theorem dX3_reckon_162 : decode cX3_reckon 162 = .ok (.iload 5, 2) := by decide +kernel
theorem dX3_reckon_164 : decode cX3_reckon 164 = .ok (.iaload, 1) := by decide +kernel
theorem dX3_reckon_165 : decode cX3_reckon 165 = .ok (.invokevirtual 76, 3) := by decide +kernel
theorem dX3_reckon_168 : decode cX3_reckon 168 = .ok (.istore 7, 2) := by decide +kernel
theorem dX3_reckon_170 : decode cX3_reckon 170 = .ok (.iload_n 1, 1) := by decide +kernel
theorem dX3_reckon_171 : decode cX3_reckon 171 = .ok (.ifCond .ne 8, 3) := by decide +kernel
theorem dX3_reckon_174 : decode cX3_reckon 174 = .ok (.iload 7, 2) := by decide +kernel
theorem dX3_reckon_176 : decode cX3_reckon 176 = .ok (.goto 10, 3) := by decide +kernel
theorem dX3_reckon_179 : decode cX3_reckon 179 = .ok (.iload 7, 2) := by decide +kernel
theorem dX3_reckon_181 : decode cX3_reckon 181 = .ok (.bipush 99, 2) := by decide +kernel
theorem dX3_reckon_183 : decode cX3_reckon 183 = .ok (.invokestatic 79, 3) := by decide +kernel
theorem dX3_reckon_186 : decode cX3_reckon 186 = .ok (.ireturn, 1) := by decide +kernel
theorem dX3_run_0 : decode cX3_run 0 = .ok (.iconst 0, 1) := by decide +kernel
theorem dX3_run_1 : decode cX3_run 1 = .ok (.istore_n 3, 1) := by decide +kernel
theorem dX3_run_2 : decode cX3_run 2 = .ok (.iload_n 1, 1) := by decide +kernel
theorem dX3_run_3 : decode cX3_run 3 = .ok (.istore 4, 2) := by decide +kernel
theorem dX3_run_5 : decode cX3_run 5 = .ok (.iload 4, 2) := by decide +kernel
theorem dX3_run_7 : decode cX3_run 7 = .ok (.iload_n 2, 1) := by decide +kernel
theorem dX3_run_8 : decode cX3_run 8 = .ok (.if_icmp .ge 153, 3) := by decide +kernel
theorem dX3_run_11 : decode cX3_run 11 = .ok (.iload 4, 2) := by decide +kernel
theorem dX3_run_13 : decode cX3_run 13 = .ok (.aload_n 0, 1) := by decide +kernel
theorem dX3_run_14 : decode cX3_run 14 = .ok (.getfield 15, 3) := by decide +kernel
theorem dX3_run_17 : decode cX3_run 17 = .ok (.arraylength, 1) := by decide +kernel
theorem dX3_run_18 : decode cX3_run 18 = .ok (.if_icmp .ge 143, 3) := by decide +kernel
theorem dX3_run_21 : decode cX3_run 21 = .ok (.aload_n 0, 1) := by decide +kernel
theorem dX3_run_22 : decode cX3_run 22 = .ok (.getfield 15, 3) := by decide +kernel
theorem dX3_run_25 : decode cX3_run 25 = .ok (.iload 4, 2) := by decide +kernel
theorem dX3_run_27 : decode cX3_run 27 = .ok (.iaload, 1) := by decide +kernel
theorem dX3_run_28 : decode cX3_run 28 = .ok (.istore 5, 2) := by decide +kernel
theorem dX3_run_30 : decode cX3_run 30 = .ok (.iload 5, 2) := by decide +kernel
theorem dX3_run_32 : decode cX3_run 32 = .ok (.bipush (-6), 2) := by decide +kernel
theorem dX3_run_34 : decode cX3_run 34 = .ok (.if_icmp .lt 43, 3) := by decide +kernel
theorem dX3_run_37 : decode cX3_run 37 = .ok (.iload_n 3, 1) := by decide +kernel
theorem dX3_run_38 : decode cX3_run 38 = .ok (.aload_n 0, 1) := by decide +kernel
theorem dX3_run_39 : decode cX3_run 39 = .ok (.getfield 25, 3) := by decide +kernel
theorem dX3_run_42 : decode cX3_run 42 = .ok (.arraylength, 1) := by decide +kernel
theorem dX3_run_43 : decode cX3_run 43 = .ok (.if_icmp .ge 112, 3) := by decide +kernel
theorem dX3_run_46 : decode cX3_run 46 = .ok (.aload_n 0, 1) := by decide +kernel
theorem dX3_run_47 : decode cX3_run 47 = .ok (.getfield 25, 3) := by decide +kernel
theorem dX3_run_50 : decode cX3_run 50 = .ok (.iload_n 3, 1) := by decide +kernel
theorem dX3_run_51 : decode cX3_run 51 = .ok (.iload 5, 2) := by decide +kernel
theorem dX3_run_53 : decode cX3_run 53 = .ok (.ifCond .lt 8, 3) := by decide +kernel
theorem dX3_run_56 : decode cX3_run 56 = .ok (.iload 5, 2) := by decide +kernel
theorem dX3_run_58 : decode cX3_run 58 = .ok (.goto 12, 3) := by decide +kernel
theorem dX3_run_61 : decode cX3_run 61 = .ok (.aload_n 0, 1) := by decide +kernel
theorem dX3_run_62 : decode cX3_run 62 = .ok (.getfield 22, 3) := by decide +kernel
theorem dX3_run_65 : decode cX3_run 65 = .ok (.iconst (-1), 1) := by decide +kernel
theorem dX3_run_66 : decode cX3_run 66 = .ok (.iload 5, 2) := by decide +kernel
theorem dX3_run_68 : decode cX3_run 68 = .ok (.isub, 1) := by decide +kernel
theorem dX3_run_69 : decode cX3_run 69 = .ok (.iaload, 1) := by decide +kernel
theorem dX3_run_70 : decode cX3_run 70 = .ok (.iastore, 1) := by decide +kernel
theorem dX3_run_71 : decode cX3_run 71 = .ok (.iinc 3 1, 3) := by decide +kernel
theorem dX3_run_74 : decode cX3_run 74 = .ok (.goto 81, 3) := by decide +kernel
theorem dX3_run_77 : decode cX3_run 77 = .ok (.iload 5, 2) := by decide +kernel
theorem dX3_run_79 : decode cX3_run 79 = .ok (.bipush (-9), 2) := by decide +kernel
theorem dX3_run_81 : decode cX3_run 81 = .ok (.if_icmp .eq 10, 3) := by decide +kernel
theorem dX3_run_84 : decode cX3_run 84 = .ok (.iload 5, 2) := by decide +kernel
theorem dX3_run_86 : decode cX3_run 86 = .ok (.bipush (-15), 2) := by decide +kernel
theorem dX3_run_88 : decode cX3_run 88 = .ok (.if_icmp .ne 32, 3) := by decide +kernel
theorem dX3_run_91 : decode cX3_run 91 = .ok (.iload_n 3, 1) := by decide +kernel
theorem dX3_run_92 : decode cX3_run 92 = .ok (.iconst 1, 1) := by decide +kernel
theorem dX3_run_93 : decode cX3_run 93 = .ok (.if_icmp .lt 62, 3) := by decide +kernel
theorem dX3_run_96 : decode cX3_run 96 = .ok (.aload_n 0, 1) := by decide +kernel
theorem dX3_run_97 : decode cX3_run 97 = .ok (.getfield 25, 3) := by decide +kernel
theorem dX3_run_100 : decode cX3_run 100 = .ok (.iload_n 3, 1) := by decide +kernel
theorem dX3_run_101 : decode cX3_run 101 = .ok (.iconst 1, 1) := by decide +kernel
theorem dX3_run_102 : decode cX3_run 102 = .ok (.isub, 1) := by decide +kernel
theorem dX3_run_103 : decode cX3_run 103 = .ok (.iload 5, 2) := by decide +kernel
theorem dX3_run_105 : decode cX3_run 105 = .ok (.aload_n 0, 1) := by decide +kernel
theorem dX3_run_106 : decode cX3_run 106 = .ok (.getfield 25, 3) := by decide +kernel
theorem dX3_run_109 : decode cX3_run 109 = .ok (.iload_n 3, 1) := by decide +kernel
theorem dX3_run_110 : decode cX3_run 110 = .ok (.iconst 1, 1) := by decide +kernel
theorem dX3_run_111 : decode cX3_run 111 = .ok (.isub, 1) := by decide +kernel
theorem dX3_run_112 : decode cX3_run 112 = .ok (.iaload, 1) := by decide +kernel
theorem dX3_run_113 : decode cX3_run 113 = .ok (.invokestatic 82, 3) := by decide +kernel
theorem dX3_run_116 : decode cX3_run 116 = .ok (.iastore, 1) := by decide +kernel
theorem dX3_run_117 : decode cX3_run 117 = .ok (.goto 38, 3) := by decide +kernel
theorem dX3_run_120 : decode cX3_run 120 = .ok (.iload_n 3, 1) := by decide +kernel
theorem dX3_run_121 : decode cX3_run 121 = .ok (.iconst 2, 1) := by decide +kernel
theorem dX3_run_122 : decode cX3_run 122 = .ok (.if_icmp .lt 33, 3) := by decide +kernel
theorem dX3_run_125 : decode cX3_run 125 = .ok (.iinc 3 (-1), 3) := by decide +kernel
theorem dX3_run_128 : decode cX3_run 128 = .ok (.aload_n 0, 1) := by decide +kernel
theorem dX3_run_129 : decode cX3_run 129 = .ok (.getfield 25, 3) := by decide +kernel
theorem dX3_run_132 : decode cX3_run 132 = .ok (.iload_n 3, 1) := by decide +kernel
theorem dX3_run_133 : decode cX3_run 133 = .ok (.iconst 1, 1) := by decide +kernel
theorem dX3_run_134 : decode cX3_run 134 = .ok (.isub, 1) := by decide +kernel
theorem dX3_run_135 : decode cX3_run 135 = .ok (.iload 5, 2) := by decide +kernel
theorem dX3_run_137 : decode cX3_run 137 = .ok (.aload_n 0, 1) := by decide +kernel
theorem dX3_run_138 : decode cX3_run 138 = .ok (.getfield 25, 3) := by decide +kernel
theorem dX3_run_141 : decode cX3_run 141 = .ok (.iload_n 3, 1) := by decide +kernel
theorem dX3_run_142 : decode cX3_run 142 = .ok (.iconst 1, 1) := by decide +kernel
theorem dX3_run_143 : decode cX3_run 143 = .ok (.isub, 1) := by decide +kernel
theorem dX3_run_144 : decode cX3_run 144 = .ok (.iaload, 1) := by decide +kernel
theorem dX3_run_145 : decode cX3_run 145 = .ok (.aload_n 0, 1) := by decide +kernel
theorem dX3_run_146 : decode cX3_run 146 = .ok (.getfield 25, 3) := by decide +kernel
theorem dX3_run_149 : decode cX3_run 149 = .ok (.iload_n 3, 1) := by decide +kernel
theorem dX3_run_150 : decode cX3_run 150 = .ok (.iaload, 1) := by decide +kernel
theorem dX3_run_151 : decode cX3_run 151 = .ok (.invokestatic 85, 3) := by decide +kernel
theorem dX3_run_154 : decode cX3_run 154 = .ok (.iastore, 1) := by decide +kernel
theorem dX3_run_155 : decode cX3_run 155 = .ok (.iinc 4 1, 3) := by decide +kernel
theorem dX3_run_158 : decode cX3_run 158 = .ok (.goto (-153), 3) := by decide +kernel
theorem dX3_run_161 : decode cX3_run 161 = .ok (.aload_n 0, 1) := by decide +kernel
theorem dX3_run_162 : decode cX3_run 162 = .ok (.getfield 25, 3) := by decide +kernel
theorem dX3_run_165 : decode cX3_run 165 = .ok (.iconst 0, 1) := by decide +kernel
theorem dX3_run_166 : decode cX3_run 166 = .ok (.iaload, 1) := by decide +kernel
theorem dX3_run_167 : decode cX3_run 167 = .ok (.ireturn, 1) := by decide +kernel
theorem dX3_turned_0 : decode cX3_turned 0 = .ok (.iload_n 0, 1) := by decide +kernel
theorem dX3_turned_1 : decode cX3_turned 1 = .ok (.bipush (-15), 2) := by decide +kernel
theorem dX3_turned_3 : decode cX3_turned 3 = .ok (.if_icmp .ne 6, 3) := by decide +kernel
theorem dX3_turned_6 : decode cX3_turned 6 = .ok (.iload_n 1, 1) := by decide +kernel
theorem dX3_turned_7 : decode cX3_turned 7 = .ok (.ineg, 1) := by decide +kernel
theorem dX3_turned_8 : decode cX3_turned 8 = .ok (.ireturn, 1) := by decide +kernel
theorem dX3_turned_9 : decode cX3_turned 9 = .ok (.iload_n 1, 1) := by decide +kernel
theorem dX3_turned_10 : decode cX3_turned 10 = .ok (.ifCond .ne 7, 3) := by decide +kernel
theorem dX3_turned_13 : decode cX3_turned 13 = .ok (.iconst 1, 1) := by decide +kernel
theorem dX3_turned_14 : decode cX3_turned 14 = .ok (.goto 4, 3) := by decide +kernel
theorem dX3_turned_17 : decode cX3_turned 17 = .ok (.iconst 0, 1) := by decide +kernel
theorem dX3_turned_18 : decode cX3_turned 18 = .ok (.ireturn, 1) := by decide +kernel
theorem dX3_joined_0 : decode cX3_joined 0 = .ok (.iload_n 0, 1) := by decide +kernel
theorem dX3_joined_1 : decode cX3_joined 1 = .ok (.tableswitch 101 (-13) (-7) #[97, 93, 82, 71, 101, 57, 43], 43) := by decide +kernel
theorem dX3_joined_44 : decode cX3_joined 44 = .ok (.iload_n 1, 1) := by decide +kernel
theorem dX3_joined_45 : decode cX3_joined 45 = .ok (.ifCond .ne 7, 3) := by decide +kernel
theorem dX3_joined_48 : decode cX3_joined 48 = .ok (.iload_n 2, 1) := by decide +kernel
theorem dX3_joined_49 : decode cX3_joined 49 = .ok (.ifCond .eq 7, 3) := by decide +kernel
theorem dX3_joined_52 : decode cX3_joined 52 = .ok (.iconst 1, 1) := by decide +kernel
theorem dX3_joined_53 : decode cX3_joined 53 = .ok (.goto 4, 3) := by decide +kernel
theorem dX3_joined_56 : decode cX3_joined 56 = .ok (.iconst 0, 1) := by decide +kernel
theorem dX3_joined_57 : decode cX3_joined 57 = .ok (.ireturn, 1) := by decide +kernel
theorem dX3_joined_58 : decode cX3_joined 58 = .ok (.iload_n 1, 1) := by decide +kernel
theorem dX3_joined_59 : decode cX3_joined 59 = .ok (.ifCond .eq 11, 3) := by decide +kernel
theorem dX3_joined_62 : decode cX3_joined 62 = .ok (.iload_n 2, 1) := by decide +kernel
theorem dX3_joined_63 : decode cX3_joined 63 = .ok (.ifCond .eq 7, 3) := by decide +kernel
theorem dX3_joined_66 : decode cX3_joined 66 = .ok (.iconst 1, 1) := by decide +kernel
theorem dX3_joined_67 : decode cX3_joined 67 = .ok (.goto 4, 3) := by decide +kernel
theorem dX3_joined_70 : decode cX3_joined 70 = .ok (.iconst 0, 1) := by decide +kernel
theorem dX3_joined_71 : decode cX3_joined 71 = .ok (.ireturn, 1) := by decide +kernel
theorem dX3_joined_72 : decode cX3_joined 72 = .ok (.iload_n 1, 1) := by decide +kernel
theorem dX3_joined_73 : decode cX3_joined 73 = .ok (.iload_n 2, 1) := by decide +kernel
theorem dX3_joined_74 : decode cX3_joined 74 = .ok (.if_icmp .ge 7, 3) := by decide +kernel
theorem dX3_joined_77 : decode cX3_joined 77 = .ok (.iconst 1, 1) := by decide +kernel
theorem dX3_joined_78 : decode cX3_joined 78 = .ok (.goto 4, 3) := by decide +kernel
theorem dX3_joined_81 : decode cX3_joined 81 = .ok (.iconst 0, 1) := by decide +kernel
theorem dX3_joined_82 : decode cX3_joined 82 = .ok (.ireturn, 1) := by decide +kernel
theorem dX3_joined_83 : decode cX3_joined 83 = .ok (.iload_n 1, 1) := by decide +kernel
theorem dX3_joined_84 : decode cX3_joined 84 = .ok (.iload_n 2, 1) := by decide +kernel
theorem dX3_joined_85 : decode cX3_joined 85 = .ok (.if_icmp .ne 7, 3) := by decide +kernel
theorem dX3_joined_88 : decode cX3_joined 88 = .ok (.iconst 1, 1) := by decide +kernel
theorem dX3_joined_89 : decode cX3_joined 89 = .ok (.goto 4, 3) := by decide +kernel
theorem dX3_joined_92 : decode cX3_joined 92 = .ok (.iconst 0, 1) := by decide +kernel
theorem dX3_joined_93 : decode cX3_joined 93 = .ok (.ireturn, 1) := by decide +kernel
theorem dX3_joined_94 : decode cX3_joined 94 = .ok (.iload_n 1, 1) := by decide +kernel
theorem dX3_joined_95 : decode cX3_joined 95 = .ok (.iload_n 2, 1) := by decide +kernel
theorem dX3_joined_96 : decode cX3_joined 96 = .ok (.iadd, 1) := by decide +kernel
theorem dX3_joined_97 : decode cX3_joined 97 = .ok (.ireturn, 1) := by decide +kernel
theorem dX3_joined_98 : decode cX3_joined 98 = .ok (.iload_n 1, 1) := by decide +kernel
theorem dX3_joined_99 : decode cX3_joined 99 = .ok (.iload_n 2, 1) := by decide +kernel
theorem dX3_joined_100 : decode cX3_joined 100 = .ok (.isub, 1) := by decide +kernel
theorem dX3_joined_101 : decode cX3_joined 101 = .ok (.ireturn, 1) := by decide +kernel
theorem dX3_joined_102 : decode cX3_joined 102 = .ok (.iload_n 1, 1) := by decide +kernel
theorem dX3_joined_103 : decode cX3_joined 103 = .ok (.iload_n 2, 1) := by decide +kernel
theorem dX3_joined_104 : decode cX3_joined 104 = .ok (.imul, 1) := by decide +kernel
theorem dX3_joined_105 : decode cX3_joined 105 = .ok (.ireturn, 1) := by decide +kernel
theorem dX4_init_0 : decode cX4_init 0 = .ok (.aload_n 0, 1) := by decide +kernel
theorem dX4_init_1 : decode cX4_init 1 = .ok (.invokespecial 3, 3) := by decide +kernel
theorem dX4_init_4 : decode cX4_init 4 = .ok (.aload_n 0, 1) := by decide +kernel
theorem dX4_init_5 : decode cX4_init 5 = .ok (.iconst 0, 1) := by decide +kernel
theorem dX4_init_6 : decode cX4_init 6 = .ok (.putfield 9, 3) := by decide +kernel
theorem dX4_init_9 : decode cX4_init 9 = .ok (.aload_n 0, 1) := by decide +kernel
theorem dX4_init_10 : decode cX4_init 10 = .ok (.aload_n 1, 1) := by decide +kernel
theorem dX4_init_11 : decode cX4_init 11 = .ok (.putfield 15, 3) := by decide +kernel
theorem dX4_init_14 : decode cX4_init 14 = .ok (.return_, 1) := by decide +kernel
theorem dX4_walkStrips_0 : decode cX4_walkStrips 0 = .ok (.iconst 0, 1) := by decide +kernel
theorem dX4_walkStrips_1 : decode cX4_walkStrips 1 = .ok (.istore_n 3, 1) := by decide +kernel
theorem dX4_walkStrips_2 : decode cX4_walkStrips 2 = .ok (.aload_n 0, 1) := by decide +kernel
theorem dX4_walkStrips_3 : decode cX4_walkStrips 3 = .ok (.iconst 0, 1) := by decide +kernel
theorem dX4_walkStrips_4 : decode cX4_walkStrips 4 = .ok (.putfield 9, 3) := by decide +kernel
theorem dX4_walkStrips_7 : decode cX4_walkStrips 7 = .ok (.iconst 0, 1) := by decide +kernel
theorem dX4_walkStrips_8 : decode cX4_walkStrips 8 = .ok (.istore 4, 2) := by decide +kernel
theorem dX4_walkStrips_10 : decode cX4_walkStrips 10 = .ok (.iload 4, 2) := by decide +kernel
theorem dX4_walkStrips_12 : decode cX4_walkStrips 12 = .ok (.bipush 6, 2) := by decide +kernel
theorem dX4_walkStrips_14 : decode cX4_walkStrips 14 = .ok (.if_icmp .ge 72, 3) := by decide +kernel
theorem dX4_walkStrips_17 : decode cX4_walkStrips 17 = .ok (.iload_n 2, 1) := by decide +kernel
theorem dX4_walkStrips_18 : decode cX4_walkStrips 18 = .ok (.iload 4, 2) := by decide +kernel
theorem dX4_walkStrips_20 : decode cX4_walkStrips 20 = .ok (.ishr, 1) := by decide +kernel
theorem dX4_walkStrips_21 : decode cX4_walkStrips 21 = .ok (.iconst 1, 1) := by decide +kernel
theorem dX4_walkStrips_22 : decode cX4_walkStrips 22 = .ok (.iand, 1) := by decide +kernel
theorem dX4_walkStrips_23 : decode cX4_walkStrips 23 = .ok (.ifCond .ne 6, 3) := by decide +kernel
theorem dX4_walkStrips_26 : decode cX4_walkStrips 26 = .ok (.goto 54, 3) := by decide +kernel
theorem dX4_walkStrips_29 : decode cX4_walkStrips 29 = .ok (.iconst 0, 1) := by decide +kernel
theorem dX4_walkStrips_30 : decode cX4_walkStrips 30 = .ok (.istore 5, 2) := by decide +kernel
theorem dX4_walkStrips_32 : decode cX4_walkStrips 32 = .ok (.iload 5, 2) := by decide +kernel
theorem dX4_walkStrips_34 : decode cX4_walkStrips 34 = .ok (.bipush 8, 2) := by decide +kernel
theorem dX4_walkStrips_36 : decode cX4_walkStrips 36 = .ok (.if_icmp .ge 44, 3) := by decide +kernel
theorem dX4_walkStrips_39 : decode cX4_walkStrips 39 = .ok (.iload 4, 2) := by decide +kernel
theorem dX4_walkStrips_41 : decode cX4_walkStrips 41 = .ok (.iconst 2, 1) := by decide +kernel
theorem dX4_walkStrips_42 : decode cX4_walkStrips 42 = .ok (.irem, 1) := by decide +kernel
theorem dX4_walkStrips_43 : decode cX4_walkStrips 43 = .ok (.ifCond .ne 8, 3) := by decide +kernel
theorem dX4_walkStrips_46 : decode cX4_walkStrips 46 = .ok (.iload 5, 2) := by decide +kernel
theorem dX4_walkStrips_48 : decode cX4_walkStrips 48 = .ok (.goto 8, 3) := by decide +kernel
theorem dX4_walkStrips_51 : decode cX4_walkStrips 51 = .ok (.bipush 7, 2) := by decide +kernel
theorem dX4_walkStrips_53 : decode cX4_walkStrips 53 = .ok (.iload 5, 2) := by decide +kernel
theorem dX4_walkStrips_55 : decode cX4_walkStrips 55 = .ok (.isub, 1) := by decide +kernel
theorem dX4_walkStrips_56 : decode cX4_walkStrips 56 = .ok (.istore 6, 2) := by decide +kernel
theorem dX4_walkStrips_58 : decode cX4_walkStrips 58 = .ok (.iload_n 3, 1) := by decide +kernel
theorem dX4_walkStrips_59 : decode cX4_walkStrips 59 = .ok (.aload_n 0, 1) := by decide +kernel
theorem dX4_walkStrips_60 : decode cX4_walkStrips 60 = .ok (.aload_n 1, 1) := by decide +kernel
theorem dX4_walkStrips_61 : decode cX4_walkStrips 61 = .ok (.iload 4, 2) := by decide +kernel
theorem dX4_walkStrips_63 : decode cX4_walkStrips 63 = .ok (.bipush 8, 2) := by decide +kernel
theorem dX4_walkStrips_65 : decode cX4_walkStrips 65 = .ok (.imul, 1) := by decide +kernel
theorem dX4_walkStrips_66 : decode cX4_walkStrips 66 = .ok (.iload 6, 2) := by decide +kernel
theorem dX4_walkStrips_68 : decode cX4_walkStrips 68 = .ok (.iadd, 1) := by decide +kernel
theorem dX4_walkStrips_69 : decode cX4_walkStrips 69 = .ok (.invokevirtual 19, 3) := by decide +kernel
theorem dX4_walkStrips_72 : decode cX4_walkStrips 72 = .ok (.iadd, 1) := by decide +kernel
theorem dX4_walkStrips_73 : decode cX4_walkStrips 73 = .ok (.istore_n 3, 1) := by decide +kernel
theorem dX4_walkStrips_74 : decode cX4_walkStrips 74 = .ok (.iinc 5 1, 3) := by decide +kernel
theorem dX4_walkStrips_77 : decode cX4_walkStrips 77 = .ok (.goto (-45), 3) := by decide +kernel
theorem dX4_walkStrips_80 : decode cX4_walkStrips 80 = .ok (.iinc 4 1, 3) := by decide +kernel
theorem dX4_walkStrips_83 : decode cX4_walkStrips 83 = .ok (.goto (-73), 3) := by decide +kernel
theorem dX4_walkStrips_86 : decode cX4_walkStrips 86 = .ok (.iload_n 3, 1) := by decide +kernel
theorem dX4_walkStrips_87 : decode cX4_walkStrips 87 = .ok (.ireturn, 1) := by decide +kernel
theorem dX4_digIn_0 : decode cX4_digIn 0 = .ok (.iconst 0, 1) := by decide +kernel
theorem dX4_digIn_1 : decode cX4_digIn 1 = .ok (.istore_n 3, 1) := by decide +kernel
theorem dX4_digIn_2 : decode cX4_digIn 2 = .ok (.iload_n 3, 1) := by decide +kernel
theorem dX4_digIn_3 : decode cX4_digIn 3 = .ok (.bipush 12, 2) := by decide +kernel
theorem dX4_digIn_5 : decode cX4_digIn 5 = .ok (.if_icmp .ge 101, 3) := by decide +kernel
theorem dX4_digIn_8 : decode cX4_digIn 8 = .ok (.aload_n 0, 1) := by decide +kernel
theorem dX4_digIn_9 : decode cX4_digIn 9 = .ok (.aload_n 1, 1) := by decide +kernel
theorem dX4_digIn_10 : decode cX4_digIn 10 = .ok (.iload_n 2, 1) := by decide +kernel
theorem dX4_digIn_11 : decode cX4_digIn 11 = .ok (.invokevirtual 23, 3) := by decide +kernel
theorem dX4_digIn_14 : decode cX4_digIn 14 = .ok (.istore 4, 2) := by decide +kernel
theorem dX4_digIn_16 : decode cX4_digIn 16 = .ok (.aload_n 1, 1) := by decide +kernel
theorem dX4_digIn_17 : decode cX4_digIn 17 = .ok (.iload 4, 2) := by decide +kernel
theorem dX4_digIn_19 : decode cX4_digIn 19 = .ok (.invokevirtual 26, 3) := by decide +kernel
theorem dX4_digIn_22 : decode cX4_digIn 22 = .ok (.ifCond .eq 15, 3) := by decide +kernel
theorem dX4_digIn_25 : decode cX4_digIn 25 = .ok (.aload_n 1, 1) := by decide +kernel
theorem dX4_digIn_26 : decode cX4_digIn 26 = .ok (.getfield 32, 3) := by decide +kernel
theorem dX4_digIn_29 : decode cX4_digIn 29 = .ok (.iload 4, 2) := by decide +kernel
theorem dX4_digIn_31 : decode cX4_digIn 31 = .ok (.iaload, 1) := by decide +kernel
theorem dX4_digIn_32 : decode cX4_digIn 32 = .ok (.bipush 10, 2) := by decide +kernel
theorem dX4_digIn_34 : decode cX4_digIn 34 = .ok (.if_icmp .le 5, 3) := by decide +kernel
theorem dX4_digIn_37 : decode cX4_digIn 37 = .ok (.iload_n 3, 1) := by decide +kernel
theorem dX4_digIn_38 : decode cX4_digIn 38 = .ok (.ireturn, 1) := by decide +kernel
theorem dX4_digIn_39 : decode cX4_digIn 39 = .ok (.aload_n 1, 1) := by decide +kernel
theorem dX4_digIn_40 : decode cX4_digIn 40 = .ok (.iload 4, 2) := by decide +kernel
theorem dX4_digIn_42 : decode cX4_digIn 42 = .ok (.invokevirtual 36, 3) := by decide +kernel
theorem dX4_digIn_45 : decode cX4_digIn 45 = .ok (.istore 5, 2) := by decide +kernel
theorem dX4_digIn_47 : decode cX4_digIn 47 = .ok (.aload_n 0, 1) := by decide +kernel
theorem dX4_digIn_48 : decode cX4_digIn 48 = .ok (.getfield 15, 3) := by decide +kernel
theorem dX4_digIn_51 : decode cX4_digIn 51 = .ok (.iconst 0, 1) := by decide +kernel
theorem dX4_digIn_52 : decode cX4_digIn 52 = .ok (.aload_n 1, 1) := by decide +kernel
theorem dX4_digIn_53 : decode cX4_digIn 53 = .ok (.iload 4, 2) := by decide +kernel
theorem dX4_digIn_55 : decode cX4_digIn 55 = .ok (.iload 5, 2) := by decide +kernel
theorem dX4_digIn_57 : decode cX4_digIn 57 = .ok (.invokevirtual 40, 3) := by decide +kernel
theorem dX4_digIn_60 : decode cX4_digIn 60 = .ok (.ifCond .ne 5, 3) := by decide +kernel
theorem dX4_digIn_63 : decode cX4_digIn 63 = .ok (.iload_n 3, 1) := by decide +kernel
theorem dX4_digIn_64 : decode cX4_digIn 64 = .ok (.ireturn, 1) := by decide +kernel
theorem dX4_digIn_65 : decode cX4_digIn 65 = .ok (.aload_n 0, 1) := by decide +kernel
theorem dX4_digIn_66 : decode cX4_digIn 66 = .ok (.dup, 1) := by decide +kernel
theorem dX4_digIn_67 : decode cX4_digIn 67 = .ok (.getfield 9, 3) := by decide +kernel
theorem dX4_digIn_70 : decode cX4_digIn 70 = .ok (.aload_n 0, 1) := by decide +kernel
theorem dX4_digIn_71 : decode cX4_digIn 71 = .ok (.getfield 15, 3) := by decide +kernel
theorem dX4_digIn_74 : decode cX4_digIn 74 = .ok (.iconst 2, 1) := by decide +kernel
theorem dX4_digIn_75 : decode cX4_digIn 75 = .ok (.aload_n 1, 1) := by decide +kernel
theorem dX4_digIn_76 : decode cX4_digIn 76 = .ok (.iload 4, 2) := by decide +kernel
theorem dX4_digIn_78 : decode cX4_digIn 78 = .ok (.iload 5, 2) := by decide +kernel
theorem dX4_digIn_80 : decode cX4_digIn 80 = .ok (.invokevirtual 40, 3) := by decide +kernel
theorem dX4_digIn_83 : decode cX4_digIn 83 = .ok (.iadd, 1) := by decide +kernel
theorem dX4_digIn_84 : decode cX4_digIn 84 = .ok (.putfield 9, 3) := by decide +kernel
theorem dX4_digIn_87 : decode cX4_digIn 87 = .ok (.aload_n 1, 1) := by decide +kernel
theorem dX4_digIn_88 : decode cX4_digIn 88 = .ok (.dup, 1) := by decide +kernel
theorem dX4_digIn_89 : decode cX4_digIn 89 = .ok (.getfield 46, 3) := by decide +kernel
theorem dX4_digIn_92 : decode cX4_digIn 92 = .ok (.iconst 1, 1) := by decide +kernel
theorem dX4_digIn_93 : decode cX4_digIn 93 = .ok (.iload 4, 2) := by decide +kernel
theorem dX4_digIn_95 : decode cX4_digIn 95 = .ok (.ishl, 1) := by decide +kernel
theorem dX4_digIn_96 : decode cX4_digIn 96 = .ok (.ior, 1) := by decide +kernel
theorem dX4_digIn_97 : decode cX4_digIn 97 = .ok (.putfield 46, 3) := by decide +kernel
theorem dX4_digIn_100 : decode cX4_digIn 100 = .ok (.iinc 3 1, 3) := by decide +kernel
theorem dX4_digIn_103 : decode cX4_digIn 103 = .ok (.goto (-101), 3) := by decide +kernel
theorem dX4_digIn_106 : decode cX4_digIn 106 = .ok (.bipush 12, 2) := by decide +kernel
theorem dX4_digIn_108 : decode cX4_digIn 108 = .ok (.ireturn, 1) := by decide +kernel
theorem dX4_beepIn_0 : decode cX4_beepIn 0 = .ok (.iconst (-1), 1) := by decide +kernel
theorem dX4_beepIn_1 : decode cX4_beepIn 1 = .ok (.istore_n 3, 1) := by decide +kernel
theorem dX4_beepIn_2 : decode cX4_beepIn 2 = .ok (.iconst (-1), 1) := by decide +kernel
theorem dX4_beepIn_3 : decode cX4_beepIn 3 = .ok (.istore 4, 2) := by decide +kernel
theorem dX4_beepIn_5 : decode cX4_beepIn 5 = .ok (.iconst 0, 1) := by decide +kernel
theorem dX4_beepIn_6 : decode cX4_beepIn 6 = .ok (.istore 5, 2) := by decide +kernel
theorem dX4_beepIn_8 : decode cX4_beepIn 8 = .ok (.iload 5, 2) := by decide +kernel
theorem dX4_beepIn_10 : decode cX4_beepIn 10 = .ok (.aload_n 1, 1) := by decide +kernel
theorem dX4_beepIn_11 : decode cX4_beepIn 11 = .ok (.getfield 49, 3) := by decide +kernel
theorem dX4_beepIn_14 : decode cX4_beepIn 14 = .ok (.if_icmp .ge 72, 3) := by decide +kernel
theorem dX4_beepIn_17 : decode cX4_beepIn 17 = .ok (.aload_n 1, 1) := by decide +kernel
theorem dX4_beepIn_18 : decode cX4_beepIn 18 = .ok (.getfield 52, 3) := by decide +kernel
theorem dX4_beepIn_21 : decode cX4_beepIn 21 = .ok (.iload 5, 2) := by decide +kernel
theorem dX4_beepIn_23 : decode cX4_beepIn 23 = .ok (.iaload, 1) := by decide +kernel
theorem dX4_beepIn_24 : decode cX4_beepIn 24 = .ok (.iload_n 2, 1) := by decide +kernel
theorem dX4_beepIn_25 : decode cX4_beepIn 25 = .ok (.if_icmp .ne 55, 3) := by decide +kernel
theorem dX4_beepIn_28 : decode cX4_beepIn 28 = .ok (.aload_n 1, 1) := by decide +kernel
theorem dX4_beepIn_29 : decode cX4_beepIn 29 = .ok (.iload 5, 2) := by decide +kernel
theorem dX4_beepIn_31 : decode cX4_beepIn 31 = .ok (.invokevirtual 26, 3) := by decide +kernel
theorem dX4_beepIn_34 : decode cX4_beepIn 34 = .ok (.ifCond .ne 6, 3) := by decide +kernel
theorem dX4_beepIn_37 : decode cX4_beepIn 37 = .ok (.goto 43, 3) := by decide +kernel
theorem dX4_beepIn_40 : decode cX4_beepIn 40 = .ok (.aload_n 1, 1) := by decide +kernel
theorem dX4_beepIn_41 : decode cX4_beepIn 41 = .ok (.iload 5, 2) := by decide +kernel
theorem dX4_beepIn_43 : decode cX4_beepIn 43 = .ok (.invokevirtual 36, 3) := by decide +kernel
theorem dX4_beepIn_46 : decode cX4_beepIn 46 = .ok (.istore 6, 2) := by decide +kernel
theorem dX4_beepIn_48 : decode cX4_beepIn 48 = .ok (.iload 6, 2) := by decide +kernel
theorem dX4_beepIn_50 : decode cX4_beepIn 50 = .ok (.iload 4, 2) := by decide +kernel
theorem dX4_beepIn_52 : decode cX4_beepIn 52 = .ok (.if_icmp .le 28, 3) := by decide +kernel
theorem dX4_beepIn_55 : decode cX4_beepIn 55 = .ok (.iload 6, 2) := by decide +kernel
theorem dX4_beepIn_57 : decode cX4_beepIn 57 = .ok (.aload_n 0, 1) := by decide +kernel
theorem dX4_beepIn_58 : decode cX4_beepIn 58 = .ok (.getfield 15, 3) := by decide +kernel
theorem dX4_beepIn_61 : decode cX4_beepIn 61 = .ok (.iconst 1, 1) := by decide +kernel
theorem dX4_beepIn_62 : decode cX4_beepIn 62 = .ok (.aload_n 1, 1) := by decide +kernel
theorem dX4_beepIn_63 : decode cX4_beepIn 63 = .ok (.iload 5, 2) := by decide +kernel
theorem dX4_beepIn_65 : decode cX4_beepIn 65 = .ok (.iload 6, 2) := by decide +kernel
theorem dX4_beepIn_67 : decode cX4_beepIn 67 = .ok (.invokevirtual 40, 3) := by decide +kernel
