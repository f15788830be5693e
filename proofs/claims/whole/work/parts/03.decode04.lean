theorem dX6_find_62 : decode cX6_find 62 = .ok (.iastore, 1) := by decide +kernel
theorem dX6_find_63 : decode cX6_find 63 = .ok (.aload_n 0, 1) := by decide +kernel
theorem dX6_find_64 : decode cX6_find 64 = .ok (.getfield 26, 3) := by decide +kernel
theorem dX6_find_67 : decode cX6_find 67 = .ok (.aload_n 0, 1) := by decide +kernel
theorem dX6_find_68 : decode cX6_find 68 = .ok (.getfield 73, 3) := by decide +kernel
theorem dX6_find_71 : decode cX6_find 71 = .ok (.iload_n 2, 1) := by decide +kernel
theorem dX6_find_72 : decode cX6_find 72 = .ok (.iastore, 1) := by decide +kernel
theorem dX6_find_73 : decode cX6_find 73 = .ok (.aload_n 0, 1) := by decide +kernel
theorem dX6_find_74 : decode cX6_find 74 = .ok (.getfield 29, 3) := by decide +kernel
theorem dX6_find_77 : decode cX6_find 77 = .ok (.aload_n 0, 1) := by decide +kernel
theorem dX6_find_78 : decode cX6_find 78 = .ok (.getfield 73, 3) := by decide +kernel
theorem dX6_find_81 : decode cX6_find 81 = .ok (.iload_n 3, 1) := by decide +kernel
theorem dX6_find_82 : decode cX6_find 82 = .ok (.bipush 10, 2) := by decide +kernel
theorem dX6_find_84 : decode cX6_find 84 = .ok (.idiv, 1) := by decide +kernel
theorem dX6_find_85 : decode cX6_find 85 = .ok (.iastore, 1) := by decide +kernel
theorem dX6_find_86 : decode cX6_find 86 = .ok (.aload_n 0, 1) := by decide +kernel
theorem dX6_find_87 : decode cX6_find 87 = .ok (.getfield 32, 3) := by decide +kernel
theorem dX6_find_90 : decode cX6_find 90 = .ok (.aload_n 0, 1) := by decide +kernel
theorem dX6_find_91 : decode cX6_find 91 = .ok (.getfield 73, 3) := by decide +kernel
theorem dX6_find_94 : decode cX6_find 94 = .ok (.iload_n 3, 1) := by decide +kernel
theorem dX6_find_95 : decode cX6_find 95 = .ok (.bipush 10, 2) := by decide +kernel
theorem dX6_find_97 : decode cX6_find 97 = .ok (.irem, 1) := by decide +kernel
theorem dX6_find_98 : decode cX6_find 98 = .ok (.iastore, 1) := by decide +kernel
theorem dX6_find_99 : decode cX6_find 99 = .ok (.aload_n 0, 1) := by decide +kernel
theorem dX6_find_100 : decode cX6_find 100 = .ok (.dup, 1) := by decide +kernel
theorem dX6_find_101 : decode cX6_find 101 = .ok (.getfield 80, 3) := by decide +kernel
theorem dX6_find_104 : decode cX6_find 104 = .ok (.iconst 1, 1) := by decide +kernel
theorem dX6_find_105 : decode cX6_find 105 = .ok (.aload_n 0, 1) := by decide +kernel
theorem dX6_find_106 : decode cX6_find 106 = .ok (.getfield 73, 3) := by decide +kernel
theorem dX6_find_109 : decode cX6_find 109 = .ok (.ishl, 1) := by decide +kernel
theorem dX6_find_110 : decode cX6_find 110 = .ok (.iconst (-1), 1) := by decide +kernel
theorem dX6_find_111 : decode cX6_find 111 = .ok (.ixor, 1) := by decide +kernel
theorem dX6_find_112 : decode cX6_find 112 = .ok (.iand, 1) := by decide +kernel
theorem dX6_find_113 : decode cX6_find 113 = .ok (.putfield 80, 3) := by decide +kernel
theorem dX6_find_116 : decode cX6_find 116 = .ok (.aload_n 0, 1) := by decide +kernel
theorem dX6_find_117 : decode cX6_find 117 = .ok (.dup, 1) := by decide +kernel
theorem dX6_find_118 : decode cX6_find 118 = .ok (.getfield 73, 3) := by decide +kernel
theorem dX6_find_121 : decode cX6_find 121 = .ok (.iconst 1, 1) := by decide +kernel
theorem dX6_find_122 : decode cX6_find 122 = .ok (.iadd, 1) := by decide +kernel
theorem dX6_find_123 : decode cX6_find 123 = .ok (.putfield 73, 3) := by decide +kernel
theorem dX6_find_126 : decode cX6_find 126 = .ok (.aload_n 0, 1) := by decide +kernel
theorem dX6_find_127 : decode cX6_find 127 = .ok (.getfield 73, 3) := by decide +kernel
theorem dX6_find_130 : decode cX6_find 130 = .ok (.iconst 1, 1) := by decide +kernel
theorem dX6_find_131 : decode cX6_find 131 = .ok (.isub, 1) := by decide +kernel
theorem dX6_find_132 : decode cX6_find 132 = .ok (.ireturn, 1) := by decide +kernel
theorem dX6_set_0 : decode cX6_set 0 = .ok (.iload_n 1, 1) := by decide +kernel
theorem dX6_set_1 : decode cX6_set 1 = .ok (.i2l, 1) := by decide +kernel
theorem dX6_set_2 : decode cX6_set 2 = .ok (.lconst 0, 1) := by decide +kernel
theorem dX6_set_3 : decode cX6_set 3 = .ok (.ldc2_w 93, 3) := by decide +kernel
theorem dX6_set_6 : decode cX6_set 6 = .ok (.invokestatic 76, 3) := by decide +kernel
theorem dX6_set_9 : decode cX6_set 9 = .ok (.ifCond .eq 16, 3) := by decide +kernel
theorem dX6_set_12 : decode cX6_set 12 = .ok (.iload_n 1, 1) := by decide +kernel
theorem dX6_set_13 : decode cX6_set 13 = .ok (.iconst 1, 1) := by decide +kernel
theorem dX6_set_14 : decode cX6_set 14 = .ok (.if_icmp .le 14, 3) := by decide +kernel
theorem dX6_set_17 : decode cX6_set 17 = .ok (.aload_n 0, 1) := by decide +kernel
theorem dX6_set_18 : decode cX6_set 18 = .ok (.iload_n 2, 1) := by decide +kernel
theorem dX6_set_19 : decode cX6_set 19 = .ok (.invokevirtual 95, 3) := by decide +kernel
theorem dX6_set_22 : decode cX6_set 22 = .ok (.ifCond .ne 6, 3) := by decide +kernel
theorem dX6_set_25 : decode cX6_set 25 = .ok (.bipush (-2), 2) := by decide +kernel
theorem dX6_set_27 : decode cX6_set 27 = .ok (.ireturn, 1) := by decide +kernel
theorem dX6_set_28 : decode cX6_set 28 = .ok (.iload_n 3, 1) := by decide +kernel
theorem dX6_set_29 : decode cX6_set 29 = .ok (.i2l, 1) := by decide +kernel
theorem dX6_set_30 : decode cX6_set 30 = .ok (.iload_n 1, 1) := by decide +kernel
theorem dX6_set_31 : decode cX6_set 31 = .ok (.iconst 1, 1) := by decide +kernel
theorem dX6_set_32 : decode cX6_set 32 = .ok (.if_icmp .eq 8, 3) := by decide +kernel
theorem dX6_set_35 : decode cX6_set 35 = .ok (.iload_n 1, 1) := by decide +kernel
theorem dX6_set_36 : decode cX6_set 36 = .ok (.iconst 4, 1) := by decide +kernel
theorem dX6_set_37 : decode cX6_set 37 = .ok (.if_icmp .ne 7, 3) := by decide +kernel
theorem dX6_set_40 : decode cX6_set 40 = .ok (.lconst 1, 1) := by decide +kernel
theorem dX6_set_41 : decode cX6_set 41 = .ok (.goto 4, 3) := by decide +kernel
theorem dX6_set_44 : decode cX6_set 44 = .ok (.lconst 0, 1) := by decide +kernel
theorem dX6_set_45 : decode cX6_set 45 = .ok (.iload_n 1, 1) := by decide +kernel
theorem dX6_set_46 : decode cX6_set 46 = .ok (.iconst 2, 1) := by decide +kernel
theorem dX6_set_47 : decode cX6_set 47 = .ok (.if_icmp .ne 9, 3) := by decide +kernel
theorem dX6_set_50 : decode cX6_set 50 = .ok (.ldc2_w 83, 3) := by decide +kernel
theorem dX6_set_53 : decode cX6_set 53 = .ok (.goto 17, 3) := by decide +kernel
theorem dX6_set_56 : decode cX6_set 56 = .ok (.iload_n 1, 1) := by decide +kernel
theorem dX6_set_57 : decode cX6_set 57 = .ok (.iconst 3, 1) := by decide +kernel
theorem dX6_set_58 : decode cX6_set 58 = .ok (.if_icmp .ne 9, 3) := by decide +kernel
theorem dX6_set_61 : decode cX6_set 61 = .ok (.ldc2_w 98, 3) := by decide +kernel
theorem dX6_set_64 : decode cX6_set 64 = .ok (.goto 6, 3) := by decide +kernel
theorem dX6_set_67 : decode cX6_set 67 = .ok (.ldc2_w 100, 3) := by decide +kernel
theorem dX6_set_70 : decode cX6_set 70 = .ok (.invokestatic 76, 3) := by decide +kernel
theorem dX6_set_73 : decode cX6_set 73 = .ok (.ifCond .ne 6, 3) := by decide +kernel
theorem dX6_set_76 : decode cX6_set 76 = .ok (.bipush (-2), 2) := by decide +kernel
theorem dX6_set_78 : decode cX6_set 78 = .ok (.ireturn, 1) := by decide +kernel
theorem dX6_set_79 : decode cX6_set 79 = .ok (.iload_n 1, 1) := by decide +kernel
theorem dX6_set_80 : decode cX6_set 80 = .ok (.iconst 1, 1) := by decide +kernel
theorem dX6_set_81 : decode cX6_set 81 = .ok (.if_icmp .le 14, 3) := by decide +kernel
theorem dX6_set_84 : decode cX6_set 84 = .ok (.aload_n 0, 1) := by decide +kernel
theorem dX6_set_85 : decode cX6_set 85 = .ok (.iload_n 2, 1) := by decide +kernel
theorem dX6_set_86 : decode cX6_set 86 = .ok (.invokevirtual 102, 3) := by decide +kernel
theorem dX6_set_89 : decode cX6_set 89 = .ok (.ifCond .ne 6, 3) := by decide +kernel
theorem dX6_set_92 : decode cX6_set 92 = .ok (.bipush (-3), 2) := by decide +kernel
theorem dX6_set_94 : decode cX6_set 94 = .ok (.ireturn, 1) := by decide +kernel
theorem dX6_set_95 : decode cX6_set 95 = .ok (.iload_n 1, 1) := by decide +kernel
theorem dX6_set_96 : decode cX6_set 96 = .ok (.ifCond .ne 10, 3) := by decide +kernel
theorem dX6_set_99 : decode cX6_set 99 = .ok (.aload_n 0, 1) := by decide +kernel
theorem dX6_set_100 : decode cX6_set 100 = .ok (.getfield 105, 3) := by decide +kernel
theorem dX6_set_103 : decode cX6_set 103 = .ok (.goto 49, 3) := by decide +kernel
theorem dX6_set_106 : decode cX6_set 106 = .ok (.iload_n 1, 1) := by decide +kernel
theorem dX6_set_107 : decode cX6_set 107 = .ok (.iconst 1, 1) := by decide +kernel
theorem dX6_set_108 : decode cX6_set 108 = .ok (.if_icmp .ne 10, 3) := by decide +kernel
theorem dX6_set_111 : decode cX6_set 111 = .ok (.aload_n 0, 1) := by decide +kernel
theorem dX6_set_112 : decode cX6_set 112 = .ok (.getfield 35, 3) := by decide +kernel
theorem dX6_set_115 : decode cX6_set 115 = .ok (.goto 37, 3) := by decide +kernel
theorem dX6_set_118 : decode cX6_set 118 = .ok (.iload_n 1, 1) := by decide +kernel
theorem dX6_set_119 : decode cX6_set 119 = .ok (.iconst 2, 1) := by decide +kernel
theorem dX6_set_120 : decode cX6_set 120 = .ok (.if_icmp .ne 12, 3) := by decide +kernel
theorem dX6_set_123 : decode cX6_set 123 = .ok (.aload_n 0, 1) := by decide +kernel
theorem dX6_set_124 : decode cX6_set 124 = .ok (.getfield 26, 3) := by decide +kernel
theorem dX6_set_127 : decode cX6_set 127 = .ok (.iload_n 2, 1) := by decide +kernel
theorem dX6_set_128 : decode cX6_set 128 = .ok (.iaload, 1) := by decide +kernel
theorem dX6_set_129 : decode cX6_set 129 = .ok (.goto 23, 3) := by decide +kernel
theorem dX6_set_132 : decode cX6_set 132 = .ok (.iload_n 1, 1) := by decide +kernel
theorem dX6_set_133 : decode cX6_set 133 = .ok (.iconst 3, 1) := by decide +kernel
theorem dX6_set_134 : decode cX6_set 134 = .ok (.if_icmp .ne 12, 3) := by decide +kernel
theorem dX6_set_137 : decode cX6_set 137 = .ok (.aload_n 0, 1) := by decide +kernel
theorem dX6_set_138 : decode cX6_set 138 = .ok (.getfield 29, 3) := by decide +kernel
theorem dX6_set_141 : decode cX6_set 141 = .ok (.iload_n 2, 1) := by decide +kernel
theorem dX6_set_142 : decode cX6_set 142 = .ok (.iaload, 1) := by decide +kernel
theorem dX6_set_143 : decode cX6_set 143 = .ok (.goto 9, 3) := by decide +kernel
theorem dX6_set_146 : decode cX6_set 146 = .ok (.aload_n 0, 1) := by decide +kernel
theorem dX6_set_147 : decode cX6_set 147 = .ok (.getfield 32, 3) := by decide +kernel
theorem dX6_set_150 : decode cX6_set 150 = .ok (.iload_n 2, 1) := by decide +kernel
theorem dX6_set_151 : decode cX6_set 151 = .ok (.iaload, 1) := by decide +kernel
theorem dX6_set_152 : decode cX6_set 152 = .ok (.istore 4, 2) := by decide +kernel
theorem dX6_set_154 : decode cX6_set 154 = .ok (.iload_n 1, 1) := by decide +kernel
theorem dX6_set_155 : decode cX6_set 155 = .ok (.ifCond .ne 11, 3) := by decide +kernel
theorem dX6_set_158 : decode cX6_set 158 = .ok (.aload_n 0, 1) := by decide +kernel
theorem dX6_set_159 : decode cX6_set 159 = .ok (.iload_n 3, 1) := by decide +kernel
theorem dX6_set_160 : decode cX6_set 160 = .ok (.putfield 105, 3) := by decide +kernel
theorem dX6_set_163 : decode cX6_set 163 = .ok (.goto 53, 3) := by decide +kernel
theorem dX6_set_166 : decode cX6_set 166 = .ok (.iload_n 1, 1) := by decide +kernel
theorem dX6_set_167 : decode cX6_set 167 = .ok (.iconst 1, 1) := by decide +kernel
theorem dX6_set_168 : decode cX6_set 168 = .ok (.if_icmp .ne 11, 3) := by decide +kernel
theorem dX6_set_171 : decode cX6_set 171 = .ok (.aload_n 0, 1) := by decide +kernel
theorem dX6_set_172 : decode cX6_set 172 = .ok (.iload_n 3, 1) := by decide +kernel
theorem dX6_set_173 : decode cX6_set 173 = .ok (.putfield 35, 3) := by decide +kernel
theorem dX6_set_176 : decode cX6_set 176 = .ok (.goto 40, 3) := by decide +kernel
theorem dX6_set_179 : decode cX6_set 179 = .ok (.iload_n 1, 1) := by decide +kernel
theorem dX6_set_180 : decode cX6_set 180 = .ok (.iconst 2, 1) := by decide +kernel
theorem dX6_set_181 : decode cX6_set 181 = .ok (.if_icmp .ne 13, 3) := by decide +kernel
theorem dX6_set_184 : decode cX6_set 184 = .ok (.aload_n 0, 1) := by decide +kernel
theorem dX6_set_185 : decode cX6_set 185 = .ok (.getfield 26, 3) := by decide +kernel
theorem dX6_set_188 : decode cX6_set 188 = .ok (.iload_n 2, 1) := by decide +kernel
theorem dX6_set_189 : decode cX6_set 189 = .ok (.iload_n 3, 1) := by decide +kernel
theorem dX6_set_190 : decode cX6_set 190 = .ok (.iastore, 1) := by decide +kernel
theorem dX6_set_191 : decode cX6_set 191 = .ok (.goto 25, 3) := by decide +kernel
theorem dX6_set_194 : decode cX6_set 194 = .ok (.iload_n 1, 1) := by decide +kernel
theorem dX6_set_195 : decode cX6_set 195 = .ok (.iconst 3, 1) := by decide +kernel
theorem dX6_set_196 : decode cX6_set 196 = .ok (.if_icmp .ne 13, 3) := by decide +kernel
theorem dX6_set_199 : decode cX6_set 199 = .ok (.aload_n 0, 1) := by decide +kernel
theorem dX6_set_200 : decode cX6_set 200 = .ok (.getfield 29, 3) := by decide +kernel
theorem dX6_set_203 : decode cX6_set 203 = .ok (.iload_n 2, 1) := by decide +kernel
theorem dX6_set_204 : decode cX6_set 204 = .ok (.iload_n 3, 1) := by decide +kernel
theorem dX6_set_205 : decode cX6_set 205 = .ok (.iastore, 1) := by decide +kernel
theorem dX6_set_206 : decode cX6_set 206 = .ok (.goto 10, 3) := by decide +kernel
theorem dX6_set_209 : decode cX6_set 209 = .ok (.aload_n 0, 1) := by decide +kernel
theorem dX6_set_210 : decode cX6_set 210 = .ok (.getfield 32, 3) := by decide +kernel
theorem dX6_set_213 : decode cX6_set 213 = .ok (.iload_n 2, 1) := by decide +kernel
theorem dX6_set_214 : decode cX6_set 214 = .ok (.iload_n 3, 1) := by decide +kernel
theorem dX6_set_215 : decode cX6_set 215 = .ok (.iastore, 1) := by decide +kernel
theorem dX6_set_216 : decode cX6_set 216 = .ok (.iload 4, 2) := by decide +kernel
theorem dX6_set_218 : decode cX6_set 218 = .ok (.ireturn, 1) := by decide +kernel
theorem dX6_tone_0 : decode cX6_tone 0 = .ok (.aload_n 0, 1) := by decide +kernel
theorem dX6_tone_1 : decode cX6_tone 1 = .ok (.getfield 23, 3) := by decide +kernel
theorem dX6_tone_4 : decode cX6_tone 4 = .ok (.iload_n 1, 1) := by decide +kernel
theorem dX6_tone_5 : decode cX6_tone 5 = .ok (.iaload, 1) := by decide +kernel
theorem dX6_tone_6 : decode cX6_tone 6 = .ok (.istore_n 2, 1) := by decide +kernel
theorem dX6_tone_7 : decode cX6_tone 7 = .ok (.bipush 10, 2) := by decide +kernel
theorem dX6_tone_9 : decode cX6_tone 9 = .ok (.aload_n 0, 1) := by decide +kernel
theorem dX6_tone_10 : decode cX6_tone 10 = .ok (.getfield 32, 3) := by decide +kernel
theorem dX6_tone_13 : decode cX6_tone 13 = .ok (.iload_n 1, 1) := by decide +kernel
theorem dX6_tone_14 : decode cX6_tone 14 = .ok (.iaload, 1) := by decide +kernel
theorem dX6_tone_15 : decode cX6_tone 15 = .ok (.iadd, 1) := by decide +kernel
theorem dX6_tone_16 : decode cX6_tone 16 = .ok (.istore_n 3, 1) := by decide +kernel
theorem dX6_tone_17 : decode cX6_tone 17 = .ok (.iload_n 2, 1) := by decide +kernel
theorem dX6_tone_18 : decode cX6_tone 18 = .ok (.iconst 2, 1) := by decide +kernel
theorem dX6_tone_19 : decode cX6_tone 19 = .ok (.if_icmp .ne 7, 3) := by decide +kernel
theorem dX6_tone_22 : decode cX6_tone 22 = .ok (.iload_n 3, 1) := by decide +kernel
theorem dX6_tone_23 : decode cX6_tone 23 = .ok (.iconst 2, 1) := by decide +kernel
theorem dX6_tone_24 : decode cX6_tone 24 = .ok (.idiv, 1) := by decide +kernel
theorem dX6_tone_25 : decode cX6_tone 25 = .ok (.ireturn, 1) := by decide +kernel
theorem dX6_tone_26 : decode cX6_tone 26 = .ok (.iload_n 2, 1) := by decide +kernel
theorem dX6_tone_27 : decode cX6_tone 27 = .ok (.iconst 4, 1) := by decide +kernel
theorem dX6_tone_28 : decode cX6_tone 28 = .ok (.if_icmp .ne 8, 3) := by decide +kernel
theorem dX6_tone_31 : decode cX6_tone 31 = .ok (.iload_n 3, 1) := by decide +kernel
theorem dX6_tone_32 : decode cX6_tone 32 = .ok (.bipush 30, 2) := by decide +kernel
theorem dX6_tone_34 : decode cX6_tone 34 = .ok (.iadd, 1) := by decide +kernel
theorem dX6_tone_35 : decode cX6_tone 35 = .ok (.ireturn, 1) := by decide +kernel
theorem dX6_tone_36 : decode cX6_tone 36 = .ok (.iload_n 2, 1) := by decide +kernel
theorem dX6_tone_37 : decode cX6_tone 37 = .ok (.iconst 3, 1) := by decide +kernel
theorem dX6_tone_38 : decode cX6_tone 38 = .ok (.if_icmp .ne 15, 3) := by decide +kernel
theorem dX6_tone_41 : decode cX6_tone 41 = .ok (.iload_n 3, 1) := by decide +kernel
theorem dX6_tone_42 : decode cX6_tone 42 = .ok (.bipush 50, 2) := by decide +kernel
theorem dX6_tone_44 : decode cX6_tone 44 = .ok (.iadd, 1) := by decide +kernel
theorem dX6_tone_45 : decode cX6_tone 45 = .ok (.aload_n 0, 1) := by decide +kernel
theorem dX6_tone_46 : decode cX6_tone 46 = .ok (.getfield 32, 3) := by decide +kernel
theorem dX6_tone_49 : decode cX6_tone 49 = .ok (.iload_n 1, 1) := by decide +kernel
theorem dX6_tone_50 : decode cX6_tone 50 = .ok (.iaload, 1) := by decide +kernel
theorem dX6_tone_51 : decode cX6_tone 51 = .ok (.isub, 1) := by decide +kernel
theorem dX6_tone_52 : decode cX6_tone 52 = .ok (.ireturn, 1) := by decide +kernel
theorem dX6_tone_53 : decode cX6_tone 53 = .ok (.iload_n 2, 1) := by decide +kernel
theorem dX6_tone_54 : decode cX6_tone 54 = .ok (.ifCond .ne 7, 3) := by decide +kernel
theorem dX6_tone_57 : decode cX6_tone 57 = .ok (.iload_n 3, 1) := by decide +kernel
theorem dX6_tone_58 : decode cX6_tone 58 = .ok (.goto 29, 3) := by decide +kernel
theorem dX6_tone_61 : decode cX6_tone 61 = .ok (.iload_n 3, 1) := by decide +kernel
theorem dX6_tone_62 : decode cX6_tone 62 = .ok (.bipush 50, 2) := by decide +kernel
theorem dX6_tone_64 : decode cX6_tone 64 = .ok (.iadd, 1) := by decide +kernel
theorem dX6_tone_65 : decode cX6_tone 65 = .ok (.iload_n 2, 1) := by decide +kernel
theorem dX6_tone_66 : decode cX6_tone 66 = .ok (.iconst 5, 1) := by decide +kernel
theorem dX6_tone_67 : decode cX6_tone 67 = .ok (.if_icmp .ne 18, 3) := by decide +kernel
theorem dX6_tone_70 : decode cX6_tone 70 = .ok (.aload_n 0, 1) := by decide +kernel
theorem dX6_tone_71 : decode cX6_tone 71 = .ok (.getfield 32, 3) := by decide +kernel
theorem dX6_tone_74 : decode cX6_tone 74 = .ok (.iload_n 1, 1) := by decide +kernel
theorem dX6_tone_75 : decode cX6_tone 75 = .ok (.iaload, 1) := by decide +kernel
theorem dX6_tone_76 : decode cX6_tone 76 = .ok (.iconst 4, 1) := by decide +kernel
theorem dX6_tone_77 : decode cX6_tone 77 = .ok (.if_icmp .le 8, 3) := by decide +kernel
theorem dX6_tone_80 : decode cX6_tone 80 = .ok (.bipush 9, 2) := by decide +kernel
theorem dX6_tone_82 : decode cX6_tone 82 = .ok (.goto 4, 3) := by decide +kernel
theorem dX6_tone_85 : decode cX6_tone 85 = .ok (.iconst 0, 1) := by decide +kernel
theorem dX6_tone_86 : decode cX6_tone 86 = .ok (.iadd, 1) := by decide +kernel
theorem dX6_tone_87 : decode cX6_tone 87 = .ok (.ireturn, 1) := by decide +kernel
theorem dX6_loud_0 : decode cX6_loud 0 = .ok (.aload_n 0, 1) := by decide +kernel
theorem dX6_loud_1 : decode cX6_loud 1 = .ok (.getfield 23, 3) := by decide +kernel
theorem dX6_loud_4 : decode cX6_loud 4 = .ok (.iload_n 1, 1) := by decide +kernel
theorem dX6_loud_5 : decode cX6_loud 5 = .ok (.iaload, 1) := by decide +kernel
theorem dX6_loud_6 : decode cX6_loud 6 = .ok (.istore_n 2, 1) := by decide +kernel
theorem dX6_loud_7 : decode cX6_loud 7 = .ok (.bipush 10, 2) := by decide +kernel
theorem dX6_loud_9 : decode cX6_loud 9 = .ok (.aload_n 0, 1) := by decide +kernel
theorem dX6_loud_10 : decode cX6_loud 10 = .ok (.getfield 32, 3) := by decide +kernel
theorem dX6_loud_13 : decode cX6_loud 13 = .ok (.iload_n 1, 1) := by decide +kernel
theorem dX6_loud_14 : decode cX6_loud 14 = .ok (.iaload, 1) := by decide +kernel
theorem dX6_loud_15 : decode cX6_loud 15 = .ok (.imul, 1) := by decide +kernel
theorem dX6_loud_16 : decode cX6_loud 16 = .ok (.iconst 5, 1) := by decide +kernel
theorem dX6_loud_17 : decode cX6_loud 17 = .ok (.aload_n 0, 1) := by decide +kernel
theorem dX6_loud_18 : decode cX6_loud 18 = .ok (.getfield 35, 3) := by decide +kernel
theorem dX6_loud_21 : decode cX6_loud 21 = .ok (.imul, 1) := by decide +kernel
theorem dX6_loud_22 : decode cX6_loud 22 = .ok (.iadd, 1) := by decide +kernel
theorem dX6_loud_23 : decode cX6_loud 23 = .ok (.iconst 2, 1) := by decide +kernel
theorem dX6_loud_24 : decode cX6_loud 24 = .ok (.aload_n 0, 1) := by decide +kernel
theorem dX6_loud_25 : decode cX6_loud 25 = .ok (.getfield 105, 3) := by decide +kernel
theorem dX6_loud_28 : decode cX6_loud 28 = .ok (.imul, 1) := by decide +kernel
theorem dX6_loud_29 : decode cX6_loud 29 = .ok (.iadd, 1) := by decide +kernel
theorem dX6_loud_30 : decode cX6_loud 30 = .ok (.bipush 6, 2) := by decide +kernel
theorem dX6_loud_32 : decode cX6_loud 32 = .ok (.aload_n 0, 1) := by decide +kernel
theorem dX6_loud_33 : decode cX6_loud 33 = .ok (.getfield 29, 3) := by decide +kernel
theorem dX6_loud_36 : decode cX6_loud 36 = .ok (.iload_n 1, 1) := by decide +kernel
theorem dX6_loud_37 : decode cX6_loud 37 = .ok (.iaload, 1) := by decide +kernel
theorem dX6_loud_38 : decode cX6_loud 38 = .ok (.imul, 1) := by decide +kernel
theorem dX6_loud_39 : decode cX6_loud 39 = .ok (.isub, 1) := by decide +kernel
theorem dX6_loud_40 : decode cX6_loud 40 = .ok (.istore_n 3, 1) := by decide +kernel
theorem dX6_loud_41 : decode cX6_loud 41 = .ok (.iload_n 2, 1) := by decide +kernel
theorem dX6_loud_42 : decode cX6_loud 42 = .ok (.iconst 2, 1) := by decide +kernel
theorem dX6_loud_43 : decode cX6_loud 43 = .ok (.if_icmp .ne 12, 3) := by decide +kernel
theorem dX6_loud_46 : decode cX6_loud 46 = .ok (.iload_n 3, 1) := by decide +kernel
theorem dX6_loud_47 : decode cX6_loud 47 = .ok (.iconst 5, 1) := by decide +kernel
theorem dX6_loud_48 : decode cX6_loud 48 = .ok (.aload_n 0, 1) := by decide +kernel
theorem dX6_loud_49 : decode cX6_loud 49 = .ok (.getfield 105, 3) := by decide +kernel
theorem dX6_loud_52 : decode cX6_loud 52 = .ok (.imul, 1) := by decide +kernel
theorem dX6_loud_53 : decode cX6_loud 53 = .ok (.isub, 1) := by decide +kernel
theorem dX6_loud_54 : decode cX6_loud 54 = .ok (.istore_n 3, 1) := by decide +kernel
theorem dX6_loud_55 : decode cX6_loud 55 = .ok (.iload_n 2, 1) := by decide +kernel
theorem dX6_loud_56 : decode cX6_loud 56 = .ok (.iconst 1, 1) := by decide +kernel
theorem dX6_loud_57 : decode cX6_loud 57 = .ok (.if_icmp .ne 6, 3) := by decide +kernel
theorem dX6_loud_60 : decode cX6_loud 60 = .ok (.iinc 3 8, 3) := by decide +kernel
theorem dX6_loud_63 : decode cX6_loud 63 = .ok (.iload_n 2, 1) := by decide +kernel
theorem dX6_loud_64 : decode cX6_loud 64 = .ok (.iconst 3, 1) := by decide +kernel
theorem dX6_loud_65 : decode cX6_loud 65 = .ok (.if_icmp .ne 10, 3) := by decide +kernel
theorem dX6_loud_68 : decode cX6_loud 68 = .ok (.iload_n 3, 1) := by decide +kernel
theorem dX6_loud_69 : decode cX6_loud 69 = .ok (.bipush 8, 2) := by decide +kernel
theorem dX6_loud_71 : decode cX6_loud 71 = .ok (.iadd, 1) := by decide +kernel
theorem dX6_loud_72 : decode cX6_loud 72 = .ok (.iconst 2, 1) := by decide +kernel
theorem dX6_loud_73 : decode cX6_loud 73 = .ok (.idiv, 1) := by decide +kernel
theorem dX6_loud_74 : decode cX6_loud 74 = .ok (.istore_n 3, 1) := by decide +kernel
theorem dX6_loud_75 : decode cX6_loud 75 = .ok (.iload_n 2, 1) := by decide +kernel
theorem dX6_loud_76 : decode cX6_loud 76 = .ok (.iconst 5, 1) := by decide +kernel
theorem dX6_loud_77 : decode cX6_loud 77 = .ok (.if_icmp .ne 10, 3) := by decide +kernel
theorem dX6_loud_80 : decode cX6_loud 80 = .ok (.iconst 2, 1) := by decide +kernel
theorem dX6_loud_81 : decode cX6_loud 81 = .ok (.iload_n 3, 1) := by decide +kernel
theorem dX6_loud_82 : decode cX6_loud 82 = .ok (.bipush 8, 2) := by decide +kernel
theorem dX6_loud_84 : decode cX6_loud 84 = .ok (.iadd, 1) := by decide +kernel
theorem dX6_loud_85 : decode cX6_loud 85 = .ok (.imul, 1) := by decide +kernel
theorem dX6_loud_86 : decode cX6_loud 86 = .ok (.istore_n 3, 1) := by decide +kernel
theorem dX6_loud_87 : decode cX6_loud 87 = .ok (.iload_n 3, 1) := by decide +kernel
theorem dX6_loud_88 : decode cX6_loud 88 = .ok (.ifCond .ge 7, 3) := by decide +kernel
theorem dX6_loud_91 : decode cX6_loud 91 = .ok (.iconst 0, 1) := by decide +kernel
theorem dX6_loud_92 : decode cX6_loud 92 = .ok (.goto 4, 3) := by decide +kernel
theorem dX6_loud_95 : decode cX6_loud 95 = .ok (.iload_n 3, 1) := by decide +kernel
theorem dX6_loud_96 : decode cX6_loud 96 = .ok (.ireturn, 1) := by decide +kernel
theorem dX6_dragsAt_0 : decode cX6_dragsAt 0 = .ok (.iload_n 0, 1) := by decide +kernel
theorem dX6_dragsAt_1 : decode cX6_dragsAt 1 = .ok (.iconst 2, 1) := by decide +kernel
theorem dX6_dragsAt_2 : decode cX6_dragsAt 2 = .ok (.if_icmp .ne 5, 3) := by decide +kernel
theorem dX6_dragsAt_5 : decode cX6_dragsAt 5 = .ok (.iconst 0, 1) := by decide +kernel
theorem dX6_dragsAt_6 : decode cX6_dragsAt 6 = .ok (.ireturn, 1) := by decide +kernel
theorem dX6_dragsAt_7 : decode cX6_dragsAt 7 = .ok (.iload_n 0, 1) := by decide +kernel
theorem dX6_dragsAt_8 : decode cX6_dragsAt 8 = .ok (.iconst 4, 1) := by decide +kernel
theorem dX6_dragsAt_9 : decode cX6_dragsAt 9 = .ok (.if_icmp .ne 14, 3) := by decide +kernel
theorem dX6_dragsAt_12 : decode cX6_dragsAt 12 = .ok (.iload_n 1, 1) := by decide +kernel
theorem dX6_dragsAt_13 : decode cX6_dragsAt 13 = .ok (.iconst 5, 1) := by decide +kernel
theorem dX6_dragsAt_14 : decode cX6_dragsAt 14 = .ok (.if_icmp .ge 7, 3) := by decide +kernel
theorem dX6_dragsAt_17 : decode cX6_dragsAt 17 = .ok (.iconst 1, 1) := by decide +kernel
theorem dX6_dragsAt_18 : decode cX6_dragsAt 18 = .ok (.goto 4, 3) := by decide +kernel
theorem dX6_dragsAt_21 : decode cX6_dragsAt 21 = .ok (.iconst 0, 1) := by decide +kernel
theorem dX6_dragsAt_22 : decode cX6_dragsAt 22 = .ok (.ireturn, 1) := by decide +kernel
theorem dX6_dragsAt_23 : decode cX6_dragsAt 23 = .ok (.iload_n 0, 1) := by decide +kernel
theorem dX6_dragsAt_24 : decode cX6_dragsAt 24 = .ok (.iconst 5, 1) := by decide +kernel
theorem dX6_dragsAt_25 : decode cX6_dragsAt 25 = .ok (.if_icmp .ne 15, 3) := by decide +kernel
theorem dX6_dragsAt_28 : decode cX6_dragsAt 28 = .ok (.iload_n 2, 1) := by decide +kernel
theorem dX6_dragsAt_29 : decode cX6_dragsAt 29 = .ok (.bipush 10, 2) := by decide +kernel
theorem dX6_dragsAt_31 : decode cX6_dragsAt 31 = .ok (.if_icmp .ge 7, 3) := by decide +kernel
theorem dX6_dragsAt_34 : decode cX6_dragsAt 34 = .ok (.iconst 1, 1) := by decide +kernel
theorem dX6_dragsAt_35 : decode cX6_dragsAt 35 = .ok (.goto 4, 3) := by decide +kernel
theorem dX6_dragsAt_38 : decode cX6_dragsAt 38 = .ok (.iconst 0, 1) := by decide +kernel
theorem dX6_dragsAt_39 : decode cX6_dragsAt 39 = .ok (.ireturn, 1) := by decide +kernel
theorem dX6_dragsAt_40 : decode cX6_dragsAt 40 = .ok (.iload_n 0, 1) := by decide +kernel
theorem dX6_dragsAt_41 : decode cX6_dragsAt 41 = .ok (.iconst 3, 1) := by decide +kernel
theorem dX6_dragsAt_42 : decode cX6_dragsAt 42 = .ok (.if_icmp .ne 7, 3) := by decide +kernel
theorem dX6_dragsAt_45 : decode cX6_dragsAt 45 = .ok (.iconst 2, 1) := by decide +kernel
theorem dX6_dragsAt_46 : decode cX6_dragsAt 46 = .ok (.goto 4, 3) := by decide +kernel
theorem dX6_dragsAt_49 : decode cX6_dragsAt 49 = .ok (.iconst 1, 1) := by decide +kernel
theorem dX6_dragsAt_50 : decode cX6_dragsAt 50 = .ok (.ireturn, 1) := by decide +kernel
theorem dX6_heard_0 : decode cX6_heard 0 = .ok (.aload_n 0, 1) := by decide +kernel
theorem dX6_heard_1 : decode cX6_heard 1 = .ok (.iload_n 1, 1) := by decide +kernel
theorem dX6_heard_2 : decode cX6_heard 2 = .ok (.invokevirtual 108, 3) := by decide +kernel
theorem dX6_heard_5 : decode cX6_heard 5 = .ok (.istore_n 2, 1) := by decide +kernel
theorem dX6_heard_6 : decode cX6_heard 6 = .ok (.iconst 0, 1) := by decide +kernel
theorem dX6_heard_7 : decode cX6_heard 7 = .ok (.istore_n 3, 1) := by decide +kernel
theorem dX6_heard_8 : decode cX6_heard 8 = .ok (.iload_n 3, 1) := by decide +kernel
theorem dX6_heard_9 : decode cX6_heard 9 = .ok (.aload_n 0, 1) := by decide +kernel
theorem dX6_heard_10 : decode cX6_heard 10 = .ok (.getfield 73, 3) := by decide +kernel
theorem dX6_heard_13 : decode cX6_heard 13 = .ok (.if_icmp .ge 50, 3) := by decide +kernel
theorem dX6_heard_16 : decode cX6_heard 16 = .ok (.iload_n 3, 1) := by decide +kernel
theorem dX6_heard_17 : decode cX6_heard 17 = .ok (.iload_n 1, 1) := by decide +kernel
theorem dX6_heard_18 : decode cX6_heard 18 = .ok (.if_icmp .eq 39, 3) := by decide +kernel
theorem dX6_heard_21 : decode cX6_heard 21 = .ok (.aload_n 0, 1) := by decide +kernel
theorem dX6_heard_22 : decode cX6_heard 22 = .ok (.getfield 23, 3) := by decide +kernel
theorem dX6_heard_25 : decode cX6_heard 25 = .ok (.iload_n 3, 1) := by decide +kernel
theorem dX6_heard_26 : decode cX6_heard 26 = .ok (.iaload, 1) := by decide +kernel
theorem dX6_heard_27 : decode cX6_heard 27 = .ok (.iconst 2, 1) := by decide +kernel
theorem dX6_heard_28 : decode cX6_heard 28 = .ok (.if_icmp .ne 29, 3) := by decide +kernel
theorem dX6_heard_31 : decode cX6_heard 31 = .ok (.aload_n 0, 1) := by decide +kernel
theorem dX6_heard_32 : decode cX6_heard 32 = .ok (.iload_n 3, 1) := by decide +kernel
theorem dX6_heard_33 : decode cX6_heard 33 = .ok (.invokevirtual 102, 3) := by decide +kernel
theorem dX6_heard_36 : decode cX6_heard 36 = .ok (.ifCond .eq 21, 3) := by decide +kernel
theorem dX6_heard_39 : decode cX6_heard 39 = .ok (.aload_n 0, 1) := by decide +kernel
theorem dX6_heard_40 : decode cX6_heard 40 = .ok (.getfield 26, 3) := by decide +kernel
theorem dX6_heard_43 : decode cX6_heard 43 = .ok (.iload_n 3, 1) := by decide +kernel
theorem dX6_heard_44 : decode cX6_heard 44 = .ok (.iaload, 1) := by decide +kernel
theorem dX6_heard_45 : decode cX6_heard 45 = .ok (.aload_n 0, 1) := by decide +kernel
theorem dX6_heard_46 : decode cX6_heard 46 = .ok (.getfield 26, 3) := by decide +kernel
theorem dX6_heard_49 : decode cX6_heard 49 = .ok (.iload_n 1, 1) := by decide +kernel
theorem dX6_heard_50 : decode cX6_heard 50 = .ok (.iaload, 1) := by decide +kernel
theorem dX6_heard_51 : decode cX6_heard 51 = .ok (.if_icmp .ne 6, 3) := by decide +kernel
theorem dX6_heard_54 : decode cX6_heard 54 = .ok (.iinc 2 (-10), 3) := by decide +kernel
theorem dX6_heard_57 : decode cX6_heard 57 = .ok (.iinc 3 1, 3) := by decide +kernel
theorem dX6_heard_60 : decode cX6_heard 60 = .ok (.goto (-52), 3) := by decide +kernel
theorem dX6_heard_63 : decode cX6_heard 63 = .ok (.iload_n 2, 1) := by decide +kernel
theorem dX6_heard_64 : decode cX6_heard 64 = .ok (.ifCond .ge 7, 3) := by decide +kernel
theorem dX6_heard_67 : decode cX6_heard 67 = .ok (.iconst 0, 1) := by decide +kernel
theorem dX6_heard_68 : decode cX6_heard 68 = .ok (.goto 4, 3) := by decide +kernel
theorem dX6_heard_71 : decode cX6_heard 71 = .ok (.iload_n 2, 1) := by decide +kernel
theorem dX6_heard_72 : decode cX6_heard 72 = .ok (.ireturn, 1) := by decide +kernel
theorem dX6_told_0 : decode cX6_told 0 = .ok (.aload_n 0, 1) := by decide +kernel
theorem dX6_told_1 : decode cX6_told 1 = .ok (.iload_n 1, 1) := by decide +kernel
theorem dX6_told_2 : decode cX6_told 2 = .ok (.invokevirtual 95, 3) := by decide +kernel
theorem dX6_told_5 : decode cX6_told 5 = .ok (.ifCond .eq 15, 3) := by decide +kernel
theorem dX6_told_8 : decode cX6_told 8 = .ok (.iload_n 2, 1) := by decide +kernel
theorem dX6_told_9 : decode cX6_told 9 = .ok (.i2l, 1) := by decide +kernel
theorem dX6_told_10 : decode cX6_told 10 = .ok (.lconst 0, 1) := by decide +kernel
theorem dX6_told_11 : decode cX6_told 11 = .ok (.ldc2_w 100, 3) := by decide +kernel
theorem dX6_told_14 : decode cX6_told 14 = .ok (.invokestatic 76, 3) := by decide +kernel
theorem dX6_told_17 : decode cX6_told 17 = .ok (.ifCond .ne 6, 3) := by decide +kernel
theorem dX6_told_20 : decode cX6_told 20 = .ok (.bipush (-2), 2) := by decide +kernel
theorem dX6_told_22 : decode cX6_told 22 = .ok (.ireturn, 1) := by decide +kernel
theorem dX6_told_23 : decode cX6_told 23 = .ok (.iload_n 2, 1) := by decide +kernel
theorem dX6_told_24 : decode cX6_told 24 = .ok (.iconst 4, 1) := by decide +kernel
theorem dX6_told_25 : decode cX6_told 25 = .ok (.if_icmp .ge 51, 3) := by decide +kernel
theorem dX6_told_28 : decode cX6_told 28 = .ok (.iload_n 2, 1) := by decide +kernel
theorem dX6_told_29 : decode cX6_told 29 = .ok (.ifCond .ne 12, 3) := by decide +kernel
theorem dX6_told_32 : decode cX6_told 32 = .ok (.aload_n 0, 1) := by decide +kernel
theorem dX6_told_33 : decode cX6_told 33 = .ok (.getfield 23, 3) := by decide +kernel
theorem dX6_told_36 : decode cX6_told 36 = .ok (.iload_n 1, 1) := by decide +kernel
theorem dX6_told_37 : decode cX6_told 37 = .ok (.iaload, 1) := by decide +kernel
theorem dX6_told_38 : decode cX6_told 38 = .ok (.goto 37, 3) := by decide +kernel
theorem dX6_told_41 : decode cX6_told 41 = .ok (.iload_n 2, 1) := by decide +kernel
theorem dX6_told_42 : decode cX6_told 42 = .ok (.iconst 1, 1) := by decide +kernel
theorem dX6_told_43 : decode cX6_told 43 = .ok (.if_icmp .ne 12, 3) := by decide +kernel
theorem dX6_told_46 : decode cX6_told 46 = .ok (.aload_n 0, 1) := by decide +kernel
theorem dX6_told_47 : decode cX6_told 47 = .ok (.getfield 26, 3) := by decide +kernel
theorem dX6_told_50 : decode cX6_told 50 = .ok (.iload_n 1, 1) := by decide +kernel
theorem dX6_told_51 : decode cX6_told 51 = .ok (.iaload, 1) := by decide +kernel
theorem dX6_told_52 : decode cX6_told 52 = .ok (.goto 23, 3) := by decide +kernel
theorem dX6_told_55 : decode cX6_told 55 = .ok (.iload_n 2, 1) := by decide +kernel
theorem dX6_told_56 : decode cX6_told 56 = .ok (.iconst 2, 1) := by decide +kernel
theorem dX6_told_57 : decode cX6_told 57 = .ok (.if_icmp .ne 12, 3) := by decide +kernel
theorem dX6_told_60 : decode cX6_told 60 = .ok (.aload_n 0, 1) := by decide +kernel
theorem dX6_told_61 : decode cX6_told 61 = .ok (.getfield 29, 3) := by decide +kernel
theorem dX6_told_64 : decode cX6_told 64 = .ok (.iload_n 1, 1) := by decide +kernel
theorem dX6_told_65 : decode cX6_told 65 = .ok (.iaload, 1) := by decide +kernel
theorem dX6_told_66 : decode cX6_told 66 = .ok (.goto 9, 3) := by decide +kernel
theorem dX6_told_69 : decode cX6_told 69 = .ok (.aload_n 0, 1) := by decide +kernel
theorem dX6_told_70 : decode cX6_told 70 = .ok (.getfield 32, 3) := by decide +kernel
theorem dX6_told_73 : decode cX6_told 73 = .ok (.iload_n 1, 1) := by decide +kernel
theorem dX6_told_74 : decode cX6_told 74 = .ok (.iaload, 1) := by decide +kernel
theorem dX6_told_75 : decode cX6_told 75 = .ok (.ireturn, 1) := by decide +kernel
theorem dX6_told_76 : decode cX6_told 76 = .ok (.iload_n 2, 1) := by decide +kernel
theorem dX6_told_77 : decode cX6_told 77 = .ok (.bipush 6, 2) := by decide +kernel
theorem dX6_told_79 : decode cX6_told 79 = .ok (.if_icmp .ge 25, 3) := by decide +kernel
theorem dX6_told_82 : decode cX6_told 82 = .ok (.iload_n 2, 1) := by decide +kernel
theorem dX6_told_83 : decode cX6_told 83 = .ok (.iconst 4, 1) := by decide +kernel
theorem dX6_told_84 : decode cX6_told 84 = .ok (.if_icmp .ne 14, 3) := by decide +kernel
theorem dX6_told_87 : decode cX6_told 87 = .ok (.aload_n 0, 1) := by decide +kernel
theorem dX6_told_88 : decode cX6_told 88 = .ok (.getfield 80, 3) := by decide +kernel
theorem dX6_told_91 : decode cX6_told 91 = .ok (.iload_n 1, 1) := by decide +kernel
theorem dX6_told_92 : decode cX6_told 92 = .ok (.ishr, 1) := by decide +kernel
theorem dX6_told_93 : decode cX6_told 93 = .ok (.iconst 1, 1) := by decide +kernel
theorem dX6_told_94 : decode cX6_told 94 = .ok (.iand, 1) := by decide +kernel
theorem dX6_told_95 : decode cX6_told 95 = .ok (.goto 8, 3) := by decide +kernel
theorem dX6_told_98 : decode cX6_told 98 = .ok (.aload_n 0, 1) := by decide +kernel
theorem dX6_told_99 : decode cX6_told 99 = .ok (.iload_n 1, 1) := by decide +kernel
theorem dX6_told_100 : decode cX6_told 100 = .ok (.invokevirtual 112, 3) := by decide +kernel
theorem dX6_told_103 : decode cX6_told 103 = .ok (.ireturn, 1) := by decide +kernel
theorem dX6_told_104 : decode cX6_told 104 = .ok (.iload_n 2, 1) := by decide +kernel
theorem dX6_told_105 : decode cX6_told 105 = .ok (.bipush 8, 2) := by decide +kernel
theorem dX6_told_107 : decode cX6_told 107 = .ok (.if_icmp .ge 35, 3) := by decide +kernel
theorem dX6_told_110 : decode cX6_told 110 = .ok (.iload_n 2, 1) := by decide +kernel
theorem dX6_told_111 : decode cX6_told 111 = .ok (.bipush 6, 2) := by decide +kernel
theorem dX6_told_113 : decode cX6_told 113 = .ok (.if_icmp .ne 11, 3) := by decide +kernel
theorem dX6_told_116 : decode cX6_told 116 = .ok (.aload_n 0, 1) := by decide +kernel
theorem dX6_told_117 : decode cX6_told 117 = .ok (.iload_n 1, 1) := by decide +kernel
theorem dX6_told_118 : decode cX6_told 118 = .ok (.invokevirtual 108, 3) := by decide +kernel
theorem dX6_told_121 : decode cX6_told 121 = .ok (.goto 20, 3) := by decide +kernel
theorem dX6_told_124 : decode cX6_told 124 = .ok (.aload_n 0, 1) := by decide +kernel
theorem dX6_told_125 : decode cX6_told 125 = .ok (.iload_n 1, 1) := by decide +kernel
theorem dX6_told_126 : decode cX6_told 126 = .ok (.invokevirtual 102, 3) := by decide +kernel
theorem dX6_told_129 : decode cX6_told 129 = .ok (.ifCond .eq 11, 3) := by decide +kernel
theorem dX6_told_132 : decode cX6_told 132 = .ok (.aload_n 0, 1) := by decide +kernel
theorem dX6_told_133 : decode cX6_told 133 = .ok (.iload_n 1, 1) := by decide +kernel
theorem dX6_told_134 : decode cX6_told 134 = .ok (.invokevirtual 115, 3) := by decide +kernel
theorem dX6_told_137 : decode cX6_told 137 = .ok (.goto 4, 3) := by decide +kernel
theorem dX6_told_140 : decode cX6_told 140 = .ok (.iconst 0, 1) := by decide +kernel
theorem dX6_told_141 : decode cX6_told 141 = .ok (.ireturn, 1) := by decide +kernel
theorem dX6_told_142 : decode cX6_told 142 = .ok (.iload_n 2, 1) := by decide +kernel
theorem dX6_told_143 : decode cX6_told 143 = .ok (.bipush 8, 2) := by decide +kernel
theorem dX6_told_145 : decode cX6_told 145 = .ok (.if_icmp .ne 27, 3) := by decide +kernel
theorem dX6_told_148 : decode cX6_told 148 = .ok (.aload_n 0, 1) := by decide +kernel
theorem dX6_told_149 : decode cX6_told 149 = .ok (.getfield 23, 3) := by decide +kernel
theorem dX6_told_152 : decode cX6_told 152 = .ok (.iload_n 1, 1) := by decide +kernel
theorem dX6_told_153 : decode cX6_told 153 = .ok (.iaload, 1) := by decide +kernel
theorem dX6_told_154 : decode cX6_told 154 = .ok (.aload_n 0, 1) := by decide +kernel
theorem dX6_told_155 : decode cX6_told 155 = .ok (.getfield 32, 3) := by decide +kernel
theorem dX6_told_158 : decode cX6_told 158 = .ok (.iload_n 1, 1) := by decide +kernel
theorem dX6_told_159 : decode cX6_told 159 = .ok (.iaload, 1) := by decide +kernel
theorem dX6_told_160 : decode cX6_told 160 = .ok (.aload_n 0, 1) := by decide +kernel
theorem dX6_told_161 : decode cX6_told 161 = .ok (.getfield 29, 3) := by decide +kernel
theorem dX6_told_164 : decode cX6_told 164 = .ok (.iload_n 1, 1) := by decide +kernel
theorem dX6_told_165 : decode cX6_told 165 = .ok (.iaload, 1) := by decide +kernel
theorem dX6_told_166 : decode cX6_told 166 = .ok (.invokestatic 118, 3) := by decide +kernel
theorem dX6_told_169 : decode cX6_told 169 = .ok (.goto 13, 3) := by decide +kernel
theorem dX6_told_172 : decode cX6_told 172 = .ok (.aload_n 0, 1) := by decide +kernel
theorem dX6_told_173 : decode cX6_told 173 = .ok (.iload_n 1, 1) := by decide +kernel
theorem dX6_told_174 : decode cX6_told 174 = .ok (.aload_n 0, 1) := by decide +kernel
theorem dX6_told_175 : decode cX6_told 175 = .ok (.iload_n 1, 1) := by decide +kernel
theorem dX6_told_176 : decode cX6_told 176 = .ok (.invokevirtual 108, 3) := by decide +kernel
theorem dX6_told_179 : decode cX6_told 179 = .ok (.invokevirtual 122, 3) := by decide +kernel
theorem dX6_told_182 : decode cX6_told 182 = .ok (.ireturn, 1) := by decide +kernel
theorem dX6_feed_0 : decode cX6_feed 0 = .ok (.iload_n 1, 1) := by decide +kernel
theorem dX6_feed_1 : decode cX6_feed 1 = .ok (.i2l, 1) := by decide +kernel
theorem dX6_feed_2 : decode cX6_feed 2 = .ok (.lconst 0, 1) := by decide +kernel
theorem dX6_feed_3 : decode cX6_feed 3 = .ok (.ldc2_w 126, 3) := by decide +kernel
theorem dX6_feed_6 : decode cX6_feed 6 = .ok (.invokestatic 76, 3) := by decide +kernel
theorem dX6_feed_9 : decode cX6_feed 9 = .ok (.ifCond .ne 6, 3) := by decide +kernel
theorem dX6_feed_12 : decode cX6_feed 12 = .ok (.bipush (-2), 2) := by decide +kernel
theorem dX6_feed_14 : decode cX6_feed 14 = .ok (.ireturn, 1) := by decide +kernel
theorem dX6_feed_15 : decode cX6_feed 15 = .ok (.aload_n 0, 1) := by decide +kernel
theorem dX6_feed_16 : decode cX6_feed 16 = .ok (.getfield 128, 3) := by decide +kernel
theorem dX6_feed_19 : decode cX6_feed 19 = .ok (.sipush 160, 3) := by decide +kernel
theorem dX6_feed_22 : decode cX6_feed 22 = .ok (.if_icmp .ne 6, 3) := by decide +kernel
theorem dX6_feed_25 : decode cX6_feed 25 = .ok (.bipush (-4), 2) := by decide +kernel
theorem dX6_feed_27 : decode cX6_feed 27 = .ok (.ireturn, 1) := by decide +kernel
theorem dX6_feed_28 : decode cX6_feed 28 = .ok (.aload_n 0, 1) := by decide +kernel
theorem dX6_feed_29 : decode cX6_feed 29 = .ok (.getfield 20, 3) := by decide +kernel
theorem dX6_feed_32 : decode cX6_feed 32 = .ok (.aload_n 0, 1) := by decide +kernel
theorem dX6_feed_33 : decode cX6_feed 33 = .ok (.getfield 128, 3) := by decide +kernel
theorem dX6_feed_36 : decode cX6_feed 36 = .ok (.iload_n 1, 1) := by decide +kernel
theorem dX6_feed_37 : decode cX6_feed 37 = .ok (.iastore, 1) := by decide +kernel
theorem dX6_feed_38 : decode cX6_feed 38 = .ok (.aload_n 0, 1) := by decide +kernel
theorem dX6_feed_39 : decode cX6_feed 39 = .ok (.dup, 1) := by decide +kernel
theorem dX6_feed_40 : decode cX6_feed 40 = .ok (.getfield 128, 3) := by decide +kernel
theorem dX6_feed_43 : decode cX6_feed 43 = .ok (.iconst 1, 1) := by decide +kernel
theorem dX6_feed_44 : decode cX6_feed 44 = .ok (.iadd, 1) := by decide +kernel
theorem dX6_feed_45 : decode cX6_feed 45 = .ok (.putfield 128, 3) := by decide +kernel
theorem dX6_feed_48 : decode cX6_feed 48 = .ok (.aload_n 0, 1) := by decide +kernel
theorem dX6_feed_49 : decode cX6_feed 49 = .ok (.getfield 128, 3) := by decide +kernel
theorem dX6_feed_52 : decode cX6_feed 52 = .ok (.ireturn, 1) := by decide +kernel
theorem dX6_byteAt_0 : decode cX6_byteAt 0 = .ok (.iload_n 1, 1) := by decide +kernel
theorem dX6_byteAt_1 : decode cX6_byteAt 1 = .ok (.aload_n 0, 1) := by decide +kernel
theorem dX6_byteAt_2 : decode cX6_byteAt 2 = .ok (.getfield 131, 3) := by decide +kernel
theorem dX6_byteAt_5 : decode cX6_byteAt 5 = .ok (.if_icmp .ge 17, 3) := by decide +kernel
theorem dX6_byteAt_8 : decode cX6_byteAt 8 = .ok (.aload_n 0, 1) := by decide +kernel
theorem dX6_byteAt_9 : decode cX6_byteAt 9 = .ok (.getfield 13, 3) := by decide +kernel
theorem dX6_byteAt_12 : decode cX6_byteAt 12 = .ok (.aload_n 0, 1) := by decide +kernel
theorem dX6_byteAt_13 : decode cX6_byteAt 13 = .ok (.getfield 134, 3) := by decide +kernel
theorem dX6_byteAt_16 : decode cX6_byteAt 16 = .ok (.iload_n 1, 1) := by decide +kernel
theorem dX6_byteAt_17 : decode cX6_byteAt 17 = .ok (.iadd, 1) := by decide +kernel
theorem dX6_byteAt_18 : decode cX6_byteAt 18 = .ok (.iaload, 1) := by decide +kernel
theorem dX6_byteAt_19 : decode cX6_byteAt 19 = .ok (.goto 4, 3) := by decide +kernel
theorem dX6_byteAt_22 : decode cX6_byteAt 22 = .ok (.iconst (-1), 1) := by decide +kernel
theorem dX6_byteAt_23 : decode cX6_byteAt 23 = .ok (.ireturn, 1) := by decide +kernel
theorem dX6_next_0 : decode cX6_next 0 = .ok (.aload_n 0, 1) := by decide +kernel
theorem dX6_next_1 : decode cX6_next 1 = .ok (.aload_n 0, 1) := by decide +kernel
theorem dX6_next_2 : decode cX6_next 2 = .ok (.getfield 137, 3) := by decide +kernel
theorem dX6_next_5 : decode cX6_next 5 = .ok (.invokevirtual 140, 3) := by decide +kernel
theorem dX6_next_8 : decode cX6_next 8 = .ok (.bipush 32, 2) := by decide +kernel
theorem dX6_next_10 : decode cX6_next 10 = .ok (.if_icmp .eq 16, 3) := by decide +kernel
theorem dX6_next_13 : decode cX6_next 13 = .ok (.aload_n 0, 1) := by decide +kernel
theorem dX6_next_14 : decode cX6_next 14 = .ok (.aload_n 0, 1) := by decide +kernel
theorem dX6_next_15 : decode cX6_next 15 = .ok (.getfield 137, 3) := by decide +kernel
theorem dX6_next_18 : decode cX6_next 18 = .ok (.invokevirtual 140, 3) := by decide +kernel
theorem dX6_next_21 : decode cX6_next 21 = .ok (.bipush 10, 2) := by decide +kernel
theorem dX6_next_23 : decode cX6_next 23 = .ok (.if_icmp .ne 16, 3) := by decide +kernel
theorem dX6_next_26 : decode cX6_next 26 = .ok (.aload_n 0, 1) := by decide +kernel
theorem dX6_next_27 : decode cX6_next 27 = .ok (.dup, 1) := by decide +kernel
theorem dX6_next_28 : decode cX6_next 28 = .ok (.getfield 137, 3) := by decide +kernel
theorem dX6_next_31 : decode cX6_next 31 = .ok (.iconst 1, 1) := by decide +kernel
theorem dX6_next_32 : decode cX6_next 32 = .ok (.iadd, 1) := by decide +kernel
theorem dX6_next_33 : decode cX6_next 33 = .ok (.putfield 137, 3) := by decide +kernel
theorem dX6_next_36 : decode cX6_next 36 = .ok (.goto (-36), 3) := by decide +kernel
theorem dX6_next_39 : decode cX6_next 39 = .ok (.aload_n 0, 1) := by decide +kernel
theorem dX6_next_40 : decode cX6_next 40 = .ok (.aload_n 0, 1) := by decide +kernel
theorem dX6_next_41 : decode cX6_next 41 = .ok (.getfield 137, 3) := by decide +kernel
theorem dX6_next_44 : decode cX6_next 44 = .ok (.putfield 143, 3) := by decide +kernel
theorem dX6_next_47 : decode cX6_next 47 = .ok (.aload_n 0, 1) := by decide +kernel
theorem dX6_next_48 : decode cX6_next 48 = .ok (.aload_n 0, 1) := by decide +kernel
theorem dX6_next_49 : decode cX6_next 49 = .ok (.getfield 137, 3) := by decide +kernel
theorem dX6_next_52 : decode cX6_next 52 = .ok (.invokevirtual 140, 3) := by decide +kernel
theorem dX6_next_55 : decode cX6_next 55 = .ok (.istore_n 1, 1) := by decide +kernel
theorem dX6_next_56 : decode cX6_next 56 = .ok (.aload_n 0, 1) := by decide +kernel
theorem dX6_next_57 : decode cX6_next 57 = .ok (.iconst 4, 1) := by decide +kernel
theorem dX6_next_58 : decode cX6_next 58 = .ok (.putfield 146, 3) := by decide +kernel
theorem dX6_next_61 : decode cX6_next 61 = .ok (.iload_n 1, 1) := by decide +kernel
theorem dX6_next_62 : decode cX6_next 62 = .ok (.ifCond .ge 19, 3) := by decide +kernel
theorem dX6_next_65 : decode cX6_next 65 = .ok (.aload_n 0, 1) := by decide +kernel
theorem dX6_next_66 : decode cX6_next 66 = .ok (.iconst 0, 1) := by decide +kernel
theorem dX6_next_67 : decode cX6_next 67 = .ok (.putfield 146, 3) := by decide +kernel
theorem dX6_next_70 : decode cX6_next 70 = .ok (.aload_n 0, 1) := by decide +kernel
theorem dX6_next_71 : decode cX6_next 71 = .ok (.aload_n 0, 1) := by decide +kernel
theorem dX6_next_72 : decode cX6_next 72 = .ok (.getfield 131, 3) := by decide +kernel
theorem dX6_next_75 : decode cX6_next 75 = .ok (.putfield 143, 3) := by decide +kernel
theorem dX6_next_78 : decode cX6_next 78 = .ok (.goto 243, 3) := by decide +kernel
theorem dX6_next_81 : decode cX6_next 81 = .ok (.iload_n 1, 1) := by decide +kernel
theorem dX6_next_82 : decode cX6_next 82 = .ok (.i2l, 1) := by decide +kernel
theorem dX6_next_83 : decode cX6_next 83 = .ok (.ldc2_w 149, 3) := by decide +kernel
theorem dX6_next_86 : decode cX6_next 86 = .ok (.ldc2_w 151, 3) := by decide +kernel
theorem dX6_next_89 : decode cX6_next 89 = .ok (.invokestatic 76, 3) := by decide +kernel
theorem dX6_next_92 : decode cX6_next 92 = .ok (.ifCond .eq 42, 3) := by decide +kernel
theorem dX6_next_95 : decode cX6_next 95 = .ok (.aload_n 0, 1) := by decide +kernel
theorem dX6_next_96 : decode cX6_next 96 = .ok (.iconst 1, 1) := by decide +kernel
theorem dX6_next_97 : decode cX6_next 97 = .ok (.putfield 146, 3) := by decide +kernel
theorem dX6_next_100 : decode cX6_next 100 = .ok (.aload_n 0, 1) := by decide +kernel
theorem dX6_next_101 : decode cX6_next 101 = .ok (.aload_n 0, 1) := by decide +kernel
theorem dX6_next_102 : decode cX6_next 102 = .ok (.getfield 137, 3) := by decide +kernel
theorem dX6_next_105 : decode cX6_next 105 = .ok (.invokevirtual 140, 3) := by decide +kernel
theorem dX6_next_108 : decode cX6_next 108 = .ok (.i2l, 1) := by decide +kernel
theorem dX6_next_109 : decode cX6_next 109 = .ok (.ldc2_w 149, 3) := by decide +kernel
theorem dX6_next_112 : decode cX6_next 112 = .ok (.ldc2_w 151, 3) := by decide +kernel
theorem dX6_next_115 : decode cX6_next 115 = .ok (.invokestatic 76, 3) := by decide +kernel
theorem dX6_next_118 : decode cX6_next 118 = .ok (.ifCond .eq 203, 3) := by decide +kernel
theorem dX6_next_121 : decode cX6_next 121 = .ok (.aload_n 0, 1) := by decide +kernel
theorem dX6_next_122 : decode cX6_next 122 = .ok (.dup, 1) := by decide +kernel
theorem dX6_next_123 : decode cX6_next 123 = .ok (.getfield 137, 3) := by decide +kernel
theorem dX6_next_126 : decode cX6_next 126 = .ok (.iconst 1, 1) := by decide +kernel
theorem dX6_next_127 : decode cX6_next 127 = .ok (.iadd, 1) := by decide +kernel
theorem dX6_next_128 : decode cX6_next 128 = .ok (.putfield 137, 3) := by decide +kernel
theorem dX6_next_131 : decode cX6_next 131 = .ok (.goto (-31), 3) := by decide +kernel
theorem dX6_next_134 : decode cX6_next 134 = .ok (.iload_n 1, 1) := by decide +kernel
theorem dX6_next_135 : decode cX6_next 135 = .ok (.i2l, 1) := by decide +kernel
theorem dX6_next_136 : decode cX6_next 136 = .ok (.ldc2_w 153, 3) := by decide +kernel
theorem dX6_next_139 : decode cX6_next 139 = .ok (.ldc2_w 155, 3) := by decide +kernel
theorem dX6_next_142 : decode cX6_next 142 = .ok (.invokestatic 76, 3) := by decide +kernel
theorem dX6_next_145 : decode cX6_next 145 = .ok (.ifCond .eq 107, 3) := by decide +kernel
theorem dX6_next_148 : decode cX6_next 148 = .ok (.aload_n 0, 1) := by decide +kernel
theorem dX6_next_149 : decode cX6_next 149 = .ok (.iconst 2, 1) := by decide +kernel
theorem dX6_next_150 : decode cX6_next 150 = .ok (.putfield 146, 3) := by decide +kernel
theorem dX6_next_153 : decode cX6_next 153 = .ok (.aload_n 0, 1) := by decide +kernel
theorem dX6_next_154 : decode cX6_next 154 = .ok (.lconst 0, 1) := by decide +kernel
theorem dX6_next_155 : decode cX6_next 155 = .ok (.putfield 157, 3) := by decide +kernel
theorem dX6_next_158 : decode cX6_next 158 = .ok (.iconst 0, 1) := by decide +kernel
theorem dX6_next_159 : decode cX6_next 159 = .ok (.istore_n 2, 1) := by decide +kernel
theorem dX6_next_160 : decode cX6_next 160 = .ok (.aload_n 0, 1) := by decide +kernel
theorem dX6_next_161 : decode cX6_next 161 = .ok (.aload_n 0, 1) := by decide +kernel
theorem dX6_next_162 : decode cX6_next 162 = .ok (.getfield 137, 3) := by decide +kernel
theorem dX6_next_165 : decode cX6_next 165 = .ok (.invokevirtual 140, 3) := by decide +kernel
theorem dX6_next_168 : decode cX6_next 168 = .ok (.i2l, 1) := by decide +kernel
theorem dX6_next_169 : decode cX6_next 169 = .ok (.ldc2_w 153, 3) := by decide +kernel
theorem dX6_next_172 : decode cX6_next 172 = .ok (.ldc2_w 155, 3) := by decide +kernel
theorem dX6_next_175 : decode cX6_next 175 = .ok (.invokestatic 76, 3) := by decide +kernel
theorem dX6_next_178 : decode cX6_next 178 = .ok (.ifCond .eq 57, 3) := by decide +kernel
theorem dX6_next_181 : decode cX6_next 181 = .ok (.aload_n 0, 1) := by decide +kernel
theorem dX6_next_182 : decode cX6_next 182 = .ok (.iload_n 2, 1) := by decide +kernel
theorem dX6_next_183 : decode cX6_next 183 = .ok (.iconst 4, 1) := by decide +kernel
theorem dX6_next_184 : decode cX6_next 184 = .ok (.if_icmp .ge 28, 3) := by decide +kernel
theorem dX6_next_187 : decode cX6_next 187 = .ok (.ldc2_w 161, 3) := by decide +kernel
theorem dX6_next_190 : decode cX6_next 190 = .ok (.aload_n 0, 1) := by decide +kernel
theorem dX6_next_191 : decode cX6_next 191 = .ok (.getfield 157, 3) := by decide +kernel
theorem dX6_next_194 : decode cX6_next 194 = .ok (.lmul, 1) := by decide +kernel
theorem dX6_next_195 : decode cX6_next 195 = .ok (.aload_n 0, 1) := by decide +kernel
theorem dX6_next_196 : decode cX6_next 196 = .ok (.aload_n 0, 1) := by decide +kernel
theorem dX6_next_197 : decode cX6_next 197 = .ok (.getfield 137, 3) := by decide +kernel
theorem dX6_next_200 : decode cX6_next 200 = .ok (.invokevirtual 140, 3) := by decide +kernel
theorem dX6_next_203 : decode cX6_next 203 = .ok (.i2l, 1) := by decide +kernel
theorem dX6_next_204 : decode cX6_next 204 = .ok (.ladd, 1) := by decide +kernel
theorem dX6_next_205 : decode cX6_next 205 = .ok (.ldc2_w 153, 3) := by decide +kernel
theorem dX6_next_208 : decode cX6_next 208 = .ok (.lsub, 1) := by decide +kernel
theorem dX6_next_209 : decode cX6_next 209 = .ok (.goto 7, 3) := by decide +kernel
theorem dX6_next_212 : decode cX6_next 212 = .ok (.aload_n 0, 1) := by decide +kernel
theorem dX6_next_213 : decode cX6_next 213 = .ok (.getfield 157, 3) := by decide +kernel
theorem dX6_next_216 : decode cX6_next 216 = .ok (.putfield 157, 3) := by decide +kernel
theorem dX6_next_219 : decode cX6_next 219 = .ok (.iinc 2 1, 3) := by decide +kernel
theorem dX6_next_222 : decode cX6_next 222 = .ok (.aload_n 0, 1) := by decide +kernel
theorem dX6_next_223 : decode cX6_next 223 = .ok (.dup, 1) := by decide +kernel
theorem dX6_next_224 : decode cX6_next 224 = .ok (.getfield 137, 3) := by decide +kernel
theorem dX6_next_227 : decode cX6_next 227 = .ok (.iconst 1, 1) := by decide +kernel
theorem dX6_next_228 : decode cX6_next 228 = .ok (.iadd, 1) := by decide +kernel
theorem dX6_next_229 : decode cX6_next 229 = .ok (.putfield 137, 3) := by decide +kernel
theorem dX6_next_232 : decode cX6_next 232 = .ok (.goto (-72), 3) := by decide +kernel
theorem dX6_next_235 : decode cX6_next 235 = .ok (.aload_n 0, 1) := by decide +kernel
theorem dX6_next_236 : decode cX6_next 236 = .ok (.iload_n 2, 1) := by decide +kernel
theorem dX6_next_237 : decode cX6_next 237 = .ok (.iconst 4, 1) := by decide +kernel
theorem dX6_next_238 : decode cX6_next 238 = .ok (.if_icmp .le 7, 3) := by decide +kernel
theorem dX6_next_241 : decode cX6_next 241 = .ok (.iconst 4, 1) := by decide +kernel
theorem dX6_next_242 : decode cX6_next 242 = .ok (.goto 4, 3) := by decide +kernel
theorem dX6_next_245 : decode cX6_next 245 = .ok (.iconst 2, 1) := by decide +kernel
theorem dX6_next_246 : decode cX6_next 246 = .ok (.putfield 146, 3) := by decide +kernel
theorem dX6_next_249 : decode cX6_next 249 = .ok (.goto 72, 3) := by decide +kernel
theorem dX6_next_252 : decode cX6_next 252 = .ok (.iload_n 1, 1) := by decide +kernel
theorem dX6_next_253 : decode cX6_next 253 = .ok (.bipush 40, 2) := by decide +kernel
theorem dX6_next_255 : decode cX6_next 255 = .ok (.if_icmp .eq 45, 3) := by decide +kernel
theorem dX6_next_258 : decode cX6_next 258 = .ok (.iload_n 1, 1) := by decide +kernel
theorem dX6_next_259 : decode cX6_next 259 = .ok (.bipush 41, 2) := by decide +kernel
theorem dX6_next_261 : decode cX6_next 261 = .ok (.if_icmp .eq 39, 3) := by decide +kernel
theorem dX6_next_264 : decode cX6_next 264 = .ok (.iload_n 1, 1) := by decide +kernel
theorem dX6_next_265 : decode cX6_next 265 = .ok (.bipush 59, 2) := by decide +kernel
theorem dX6_next_267 : decode cX6_next 267 = .ok (.if_icmp .eq 33, 3) := by decide +kernel
theorem dX6_next_270 : decode cX6_next 270 = .ok (.iload_n 1, 1) := by decide +kernel
theorem dX6_next_271 : decode cX6_next 271 = .ok (.bipush 43, 2) := by decide +kernel
theorem dX6_next_273 : decode cX6_next 273 = .ok (.if_icmp .eq 27, 3) := by decide +kernel
theorem dX6_next_276 : decode cX6_next 276 = .ok (.iload_n 1, 1) := by decide +kernel
theorem dX6_next_277 : decode cX6_next 277 = .ok (.bipush 45, 2) := by decide +kernel
theorem dX6_next_279 : decode cX6_next 279 = .ok (.if_icmp .eq 21, 3) := by decide +kernel
theorem dX6_next_282 : decode cX6_next 282 = .ok (.iload_n 1, 1) := by decide +kernel
theorem dX6_next_283 : decode cX6_next 283 = .ok (.bipush 42, 2) := by decide +kernel
theorem dX6_next_285 : decode cX6_next 285 = .ok (.if_icmp .eq 15, 3) := by decide +kernel
theorem dX6_next_288 : decode cX6_next 288 = .ok (.iload_n 1, 1) := by decide +kernel
theorem dX6_next_289 : decode cX6_next 289 = .ok (.bipush 60, 2) := by decide +kernel
theorem dX6_next_291 : decode cX6_next 291 = .ok (.if_icmp .eq 9, 3) := by decide +kernel
theorem dX6_next_294 : decode cX6_next 294 = .ok (.iload_n 1, 1) := by decide +kernel
theorem dX6_next_295 : decode cX6_next 295 = .ok (.bipush 61, 2) := by decide +kernel
theorem dX6_next_297 : decode cX6_next 297 = .ok (.if_icmp .ne 24, 3) := by decide +kernel
theorem dX6_next_300 : decode cX6_next 300 = .ok (.aload_n 0, 1) := by decide +kernel
theorem dX6_next_301 : decode cX6_next 301 = .ok (.iconst 3, 1) := by decide +kernel
theorem dX6_next_302 : decode cX6_next 302 = .ok (.putfield 146, 3) := by decide +kernel
theorem dX6_next_305 : decode cX6_next 305 = .ok (.aload_n 0, 1) := by decide +kernel
theorem dX6_next_306 : decode cX6_next 306 = .ok (.iload_n 1, 1) := by decide +kernel
theorem dX6_next_307 : decode cX6_next 307 = .ok (.i2l, 1) := by decide +kernel
theorem dX6_next_308 : decode cX6_next 308 = .ok (.putfield 157, 3) := by decide +kernel
theorem dX6_next_311 : decode cX6_next 311 = .ok (.aload_n 0, 1) := by decide +kernel
theorem dX6_next_312 : decode cX6_next 312 = .ok (.dup, 1) := by decide +kernel
theorem dX6_next_313 : decode cX6_next 313 = .ok (.getfield 137, 3) := by decide +kernel
theorem dX6_next_316 : decode cX6_next 316 = .ok (.iconst 1, 1) := by decide +kernel
theorem dX6_next_317 : decode cX6_next 317 = .ok (.iadd, 1) := by decide +kernel
theorem dX6_next_318 : decode cX6_next 318 = .ok (.putfield 137, 3) := by decide +kernel
theorem dX6_next_321 : decode cX6_next 321 = .ok (.return_, 1) := by decide +kernel
theorem dX6_fail_0 : decode cX6_fail 0 = .ok (.aload_n 0, 1) := by decide +kernel
theorem dX6_fail_1 : decode cX6_fail 1 = .ok (.getfield 163, 3) := by decide +kernel
theorem dX6_fail_4 : decode cX6_fail 4 = .ok (.ifCond .ne 16, 3) := by decide +kernel
theorem dX6_fail_7 : decode cX6_fail 7 = .ok (.aload_n 0, 1) := by decide +kernel
theorem dX6_fail_8 : decode cX6_fail 8 = .ok (.iconst 1, 1) := by decide +kernel
theorem dX6_fail_9 : decode cX6_fail 9 = .ok (.putfield 163, 3) := by decide +kernel
theorem dX6_fail_12 : decode cX6_fail 12 = .ok (.aload_n 0, 1) := by decide +kernel
theorem dX6_fail_13 : decode cX6_fail 13 = .ok (.aload_n 0, 1) := by decide +kernel
theorem dX6_fail_14 : decode cX6_fail 14 = .ok (.getfield 143, 3) := by decide +kernel
theorem dX6_fail_17 : decode cX6_fail 17 = .ok (.putfield 167, 3) := by decide +kernel
theorem dX6_fail_20 : decode cX6_fail 20 = .ok (.return_, 1) := by decide +kernel
theorem dX6_isLetter_0 : decode cX6_isLetter 0 = .ok (.aload_n 0, 1) := by decide +kernel
theorem dX6_isLetter_1 : decode cX6_isLetter 1 = .ok (.getfield 143, 3) := by decide +kernel
theorem dX6_isLetter_4 : decode cX6_isLetter 4 = .ok (.iload_n 1, 1) := by decide +kernel
theorem dX6_isLetter_5 : decode cX6_isLetter 5 = .ok (.iadd, 1) := by decide +kernel
theorem dX6_isLetter_6 : decode cX6_isLetter 6 = .ok (.aload_n 0, 1) := by decide +kernel
theorem dX6_isLetter_7 : decode cX6_isLetter 7 = .ok (.getfield 137, 3) := by decide +kernel
theorem dX6_isLetter_10 : decode cX6_isLetter 10 = .ok (.if_icmp .ge 25, 3) := by decide +kernel
theorem dX6_isLetter_13 : decode cX6_isLetter 13 = .ok (.aload_n 0, 1) := by decide +kernel
theorem dX6_isLetter_14 : decode cX6_isLetter 14 = .ok (.aload_n 0, 1) := by decide +kernel
theorem dX6_isLetter_15 : decode cX6_isLetter 15 = .ok (.getfield 143, 3) := by decide +kernel
theorem dX6_isLetter_18 : decode cX6_isLetter 18 = .ok (.iload_n 1, 1) := by decide +kernel
theorem dX6_isLetter_19 : decode cX6_isLetter 19 = .ok (.iadd, 1) := by decide +kernel
theorem dX6_isLetter_20 : decode cX6_isLetter 20 = .ok (.invokevirtual 140, 3) := by decide +kernel
theorem dX6_isLetter_23 : decode cX6_isLetter 23 = .ok (.iload_n 2, 1) := by decide +kernel
theorem dX6_isLetter_24 : decode cX6_isLetter 24 = .ok (.if_icmp .ne 7, 3) := by decide +kernel
theorem dX6_isLetter_27 : decode cX6_isLetter 27 = .ok (.iconst 1, 1) := by decide +kernel
theorem dX6_isLetter_28 : decode cX6_isLetter 28 = .ok (.goto 16, 3) := by decide +kernel
theorem dX6_isLetter_31 : decode cX6_isLetter 31 = .ok (.iconst 0, 1) := by decide +kernel
theorem dX6_isLetter_32 : decode cX6_isLetter 32 = .ok (.goto 12, 3) := by decide +kernel
theorem dX6_isLetter_35 : decode cX6_isLetter 35 = .ok (.iload_n 2, 1) := by decide +kernel
theorem dX6_isLetter_36 : decode cX6_isLetter 36 = .ok (.ifCond .ne 7, 3) := by decide +kernel
theorem dX6_isLetter_39 : decode cX6_isLetter 39 = .ok (.iconst 1, 1) := by decide +kernel
theorem dX6_isLetter_40 : decode cX6_isLetter 40 = .ok (.goto 4, 3) := by decide +kernel
theorem dX6_isLetter_43 : decode cX6_isLetter 43 = .ok (.iconst 0, 1) := by decide +kernel
theorem dX6_isLetter_44 : decode cX6_isLetter 44 = .ok (.ireturn, 1) := by decide +kernel
theorem dX6_isWord_0 : decode cX6_isWord 0 = .ok (.aload_n 0, 1) := by decide +kernel
theorem dX6_isWord_1 : decode cX6_isWord 1 = .ok (.getfield 163, 3) := by decide +kernel
theorem dX6_isWord_4 : decode cX6_isWord 4 = .ok (.ifCond .ne 108, 3) := by decide +kernel
theorem dX6_isWord_7 : decode cX6_isWord 7 = .ok (.aload_n 0, 1) := by decide +kernel
theorem dX6_isWord_8 : decode cX6_isWord 8 = .ok (.getfield 146, 3) := by decide +kernel
theorem dX6_isWord_11 : decode cX6_isWord 11 = .ok (.iconst 1, 1) := by decide +kernel
theorem dX6_isWord_12 : decode cX6_isWord 12 = .ok (.if_icmp .ne 100, 3) := by decide +kernel
theorem dX6_isWord_15 : decode cX6_isWord 15 = .ok (.aload_n 0, 1) := by decide +kernel
theorem dX6_isWord_16 : decode cX6_isWord 16 = .ok (.getfield 137, 3) := by decide +kernel
theorem dX6_isWord_19 : decode cX6_isWord 19 = .ok (.aload_n 0, 1) := by decide +kernel
theorem dX6_isWord_20 : decode cX6_isWord 20 = .ok (.getfield 143, 3) := by decide +kernel
theorem dX6_isWord_23 : decode cX6_isWord 23 = .ok (.bipush 8, 2) := by decide +kernel
theorem dX6_isWord_25 : decode cX6_isWord 25 = .ok (.iadd, 1) := by decide +kernel
theorem dX6_isWord_26 : decode cX6_isWord 26 = .ok (.if_icmp .gt 86, 3) := by decide +kernel
theorem dX6_isWord_29 : decode cX6_isWord 29 = .ok (.aload_n 0, 1) := by decide +kernel
theorem dX6_isWord_30 : decode cX6_isWord 30 = .ok (.iconst 0, 1) := by decide +kernel
theorem dX6_isWord_31 : decode cX6_isWord 31 = .ok (.iload_n 1, 1) := by decide +kernel
theorem dX6_isWord_32 : decode cX6_isWord 32 = .ok (.invokevirtual 170, 3) := by decide +kernel
theorem dX6_isWord_35 : decode cX6_isWord 35 = .ok (.ifCond .eq 77, 3) := by decide +kernel
theorem dX6_isWord_38 : decode cX6_isWord 38 = .ok (.aload_n 0, 1) := by decide +kernel
theorem dX6_isWord_39 : decode cX6_isWord 39 = .ok (.iconst 1, 1) := by decide +kernel
theorem dX6_isWord_40 : decode cX6_isWord 40 = .ok (.iload_n 2, 1) := by decide +kernel
theorem dX6_isWord_41 : decode cX6_isWord 41 = .ok (.invokevirtual 170, 3) := by decide +kernel
theorem dX6_isWord_44 : decode cX6_isWord 44 = .ok (.ifCond .eq 68, 3) := by decide +kernel
theorem dX6_isWord_47 : decode cX6_isWord 47 = .ok (.aload_n 0, 1) := by decide +kernel
theorem dX6_isWord_48 : decode cX6_isWord 48 = .ok (.iconst 2, 1) := by decide +kernel
theorem dX6_isWord_49 : decode cX6_isWord 49 = .ok (.iload_n 3, 1) := by decide +kernel
theorem dX6_isWord_50 : decode cX6_isWord 50 = .ok (.invokevirtual 170, 3) := by decide +kernel
theorem dX6_isWord_53 : decode cX6_isWord 53 = .ok (.ifCond .eq 59, 3) := by decide +kernel
theorem dX6_isWord_56 : decode cX6_isWord 56 = .ok (.aload_n 0, 1) := by decide +kernel
theorem dX6_isWord_57 : decode cX6_isWord 57 = .ok (.iconst 3, 1) := by decide +kernel
theorem dX6_isWord_58 : decode cX6_isWord 58 = .ok (.iload 4, 2) := by decide +kernel
theorem dX6_isWord_60 : decode cX6_isWord 60 = .ok (.invokevirtual 170, 3) := by decide +kernel
theorem dX6_isWord_63 : decode cX6_isWord 63 = .ok (.ifCond .eq 49, 3) := by decide +kernel
theorem dX6_isWord_66 : decode cX6_isWord 66 = .ok (.aload_n 0, 1) := by decide +kernel
theorem dX6_isWord_67 : decode cX6_isWord 67 = .ok (.iconst 4, 1) := by decide +kernel
theorem dX6_isWord_68 : decode cX6_isWord 68 = .ok (.iload 5, 2) := by decide +kernel
theorem dX6_isWord_70 : decode cX6_isWord 70 = .ok (.invokevirtual 170, 3) := by decide +kernel
theorem dX6_isWord_73 : decode cX6_isWord 73 = .ok (.ifCond .eq 39, 3) := by decide +kernel
theorem dX6_isWord_76 : decode cX6_isWord 76 = .ok (.aload_n 0, 1) := by decide +kernel
theorem dX6_isWord_77 : decode cX6_isWord 77 = .ok (.iconst 5, 1) := by decide +kernel
theorem dX6_isWord_78 : decode cX6_isWord 78 = .ok (.iload 6, 2) := by decide +kernel
theorem dX6_isWord_80 : decode cX6_isWord 80 = .ok (.invokevirtual 170, 3) := by decide +kernel
theorem dX6_isWord_83 : decode cX6_isWord 83 = .ok (.ifCond .eq 29, 3) := by decide +kernel
theorem dX6_isWord_86 : decode cX6_isWord 86 = .ok (.aload_n 0, 1) := by decide +kernel
theorem dX6_isWord_87 : decode cX6_isWord 87 = .ok (.bipush 6, 2) := by decide +kernel
theorem dX6_isWord_89 : decode cX6_isWord 89 = .ok (.iload 7, 2) := by decide +kernel
theorem dX6_isWord_91 : decode cX6_isWord 91 = .ok (.invokevirtual 170, 3) := by decide +kernel
theorem dX6_isWord_94 : decode cX6_isWord 94 = .ok (.ifCond .eq 18, 3) := by decide +kernel
theorem dX6_isWord_97 : decode cX6_isWord 97 = .ok (.aload_n 0, 1) := by decide +kernel
theorem dX6_isWord_98 : decode cX6_isWord 98 = .ok (.bipush 7, 2) := by decide +kernel
theorem dX6_isWord_100 : decode cX6_isWord 100 = .ok (.iload 8, 2) := by decide +kernel
theorem dX6_isWord_102 : decode cX6_isWord 102 = .ok (.invokevirtual 170, 3) := by decide +kernel
theorem dX6_isWord_105 : decode cX6_isWord 105 = .ok (.ifCond .eq 7, 3) := by decide +kernel
theorem dX6_isWord_108 : decode cX6_isWord 108 = .ok (.iconst 1, 1) := by decide +kernel
theorem dX6_isWord_109 : decode cX6_isWord 109 = .ok (.goto 4, 3) := by decide +kernel
theorem dX6_isWord_112 : decode cX6_isWord 112 = .ok (.iconst 0, 1) := by decide +kernel
theorem dX6_isWord_113 : decode cX6_isWord 113 = .ok (.ireturn, 1) := by decide +kernel
theorem dX6_isSign_0 : decode cX6_isSign 0 = .ok (.aload_n 0, 1) := by decide +kernel
theorem dX6_isSign_1 : decode cX6_isSign 1 = .ok (.getfield 163, 3) := by decide +kernel
theorem dX6_isSign_4 : decode cX6_isSign 4 = .ok (.ifCond .ne 25, 3) := by decide +kernel
theorem dX6_isSign_7 : decode cX6_isSign 7 = .ok (.aload_n 0, 1) := by decide +kernel
theorem dX6_isSign_8 : decode cX6_isSign 8 = .ok (.getfield 146, 3) := by decide +kernel
theorem dX6_isSign_11 : decode cX6_isSign 11 = .ok (.iconst 3, 1) := by decide +kernel
theorem dX6_isSign_12 : decode cX6_isSign 12 = .ok (.if_icmp .ne 17, 3) := by decide +kernel
theorem dX6_isSign_15 : decode cX6_isSign 15 = .ok (.aload_n 0, 1) := by decide +kernel
theorem dX6_isSign_16 : decode cX6_isSign 16 = .ok (.getfield 157, 3) := by decide +kernel
theorem dX6_isSign_19 : decode cX6_isSign 19 = .ok (.iload_n 1, 1) := by decide +kernel
theorem dX6_isSign_20 : decode cX6_isSign 20 = .ok (.i2l, 1) := by decide +kernel
theorem dX6_isSign_21 : decode cX6_isSign 21 = .ok (.lcmp, 1) := by decide +kernel
theorem dX6_isSign_22 : decode cX6_isSign 22 = .ok (.ifCond .ne 7, 3) := by decide +kernel
theorem dX6_isSign_25 : decode cX6_isSign 25 = .ok (.iconst 1, 1) := by decide +kernel
theorem dX6_isSign_26 : decode cX6_isSign 26 = .ok (.goto 4, 3) := by decide +kernel
theorem dX6_isSign_29 : decode cX6_isSign 29 = .ok (.iconst 0, 1) := by decide +kernel
theorem dX6_isSign_30 : decode cX6_isSign 30 = .ok (.ireturn, 1) := by decide +kernel
theorem dX6_opens_0 : decode cX6_opens 0 = .ok (.aload_n 0, 1) := by decide +kernel
theorem dX6_opens_1 : decode cX6_opens 1 = .ok (.getfield 174, 3) := by decide +kernel
theorem dX6_opens_4 : decode cX6_opens 4 = .ok (.iconst 5, 1) := by decide +kernel
theorem dX6_opens_5 : decode cX6_opens 5 = .ok (.if_icmp .ne 9, 3) := by decide +kernel
theorem dX6_opens_8 : decode cX6_opens 8 = .ok (.aload_n 0, 1) := by decide +kernel
theorem dX6_opens_9 : decode cX6_opens 9 = .ok (.invokevirtual 177, 3) := by decide +kernel
theorem dX6_opens_12 : decode cX6_opens 12 = .ok (.iconst 0, 1) := by decide +kernel
theorem dX6_opens_13 : decode cX6_opens 13 = .ok (.ireturn, 1) := by decide +kernel
theorem dX6_opens_14 : decode cX6_opens 14 = .ok (.aload_n 0, 1) := by decide +kernel
theorem dX6_opens_15 : decode cX6_opens 15 = .ok (.dup, 1) := by decide +kernel
theorem dX6_opens_16 : decode cX6_opens 16 = .ok (.getfield 174, 3) := by decide +kernel
theorem dX6_opens_19 : decode cX6_opens 19 = .ok (.iconst 1, 1) := by decide +kernel
theorem dX6_opens_20 : decode cX6_opens 20 = .ok (.iadd, 1) := by decide +kernel
theorem dX6_opens_21 : decode cX6_opens 21 = .ok (.putfield 174, 3) := by decide +kernel
theorem dX6_opens_24 : decode cX6_opens 24 = .ok (.aload_n 0, 1) := by decide +kernel
theorem dX6_opens_25 : decode cX6_opens 25 = .ok (.invokevirtual 180, 3) := by decide +kernel
theorem dX6_opens_28 : decode cX6_opens 28 = .ok (.iconst 1, 1) := by decide +kernel
theorem dX6_opens_29 : decode cX6_opens 29 = .ok (.ireturn, 1) := by decide +kernel
theorem dX6_name_0 : decode cX6_name 0 = .ok (.aload_n 0, 1) := by decide +kernel
theorem dX6_name_1 : decode cX6_name 1 = .ok (.bipush 116, 2) := by decide +kernel
theorem dX6_name_3 : decode cX6_name 3 = .ok (.bipush 111, 2) := by decide +kernel
theorem dX6_name_5 : decode cX6_name 5 = .ok (.bipush 110, 2) := by decide +kernel
theorem dX6_name_7 : decode cX6_name 7 = .ok (.bipush 101, 2) := by decide +kernel
theorem dX6_name_9 : decode cX6_name 9 = .ok (.iconst 0, 1) := by decide +kernel
theorem dX6_name_10 : decode cX6_name 10 = .ok (.iconst 0, 1) := by decide +kernel
theorem dX6_name_11 : decode cX6_name 11 = .ok (.iconst 0, 1) := by decide +kernel
theorem dX6_name_12 : decode cX6_name 12 = .ok (.iconst 0, 1) := by decide +kernel
theorem dX6_name_13 : decode cX6_name 13 = .ok (.invokevirtual 183, 3) := by decide +kernel
theorem dX6_name_16 : decode cX6_name 16 = .ok (.ifCond .eq 8, 3) := by decide +kernel
theorem dX6_name_19 : decode cX6_name 19 = .ok (.aload_n 0, 1) := by decide +kernel
theorem dX6_name_20 : decode cX6_name 20 = .ok (.getfield 187, 3) := by decide +kernel
theorem dX6_name_23 : decode cX6_name 23 = .ok (.ireturn, 1) := by decide +kernel
theorem dX6_name_24 : decode cX6_name 24 = .ok (.aload_n 0, 1) := by decide +kernel
theorem dX6_name_25 : decode cX6_name 25 = .ok (.bipush 108, 2) := by decide +kernel
theorem dX6_name_27 : decode cX6_name 27 = .ok (.bipush 111, 2) := by decide +kernel
theorem dX6_name_29 : decode cX6_name 29 = .ok (.bipush 117, 2) := by decide +kernel
theorem dX6_name_31 : decode cX6_name 31 = .ok (.bipush 100, 2) := by decide +kernel
theorem dX6_name_33 : decode cX6_name 33 = .ok (.iconst 0, 1) := by decide +kernel
theorem dX6_name_34 : decode cX6_name 34 = .ok (.iconst 0, 1) := by decide +kernel
theorem dX6_name_35 : decode cX6_name 35 = .ok (.iconst 0, 1) := by decide +kernel
theorem dX6_name_36 : decode cX6_name 36 = .ok (.iconst 0, 1) := by decide +kernel
theorem dX6_name_37 : decode cX6_name 37 = .ok (.invokevirtual 183, 3) := by decide +kernel
theorem dX6_name_40 : decode cX6_name 40 = .ok (.ifCond .eq 8, 3) := by decide +kernel
theorem dX6_name_43 : decode cX6_name 43 = .ok (.aload_n 0, 1) := by decide +kernel
theorem dX6_name_44 : decode cX6_name 44 = .ok (.getfield 190, 3) := by decide +kernel
theorem dX6_name_47 : decode cX6_name 47 = .ok (.ireturn, 1) := by decide +kernel
theorem dX6_name_48 : decode cX6_name 48 = .ok (.aload_n 0, 1) := by decide +kernel
theorem dX6_name_49 : decode cX6_name 49 = .ok (.bipush 119, 2) := by decide +kernel
theorem dX6_name_51 : decode cX6_name 51 = .ok (.bipush 101, 2) := by decide +kernel
theorem dX6_name_53 : decode cX6_name 53 = .ok (.bipush 116, 2) := by decide +kernel
theorem dX6_name_55 : decode cX6_name 55 = .ok (.iconst 0, 1) := by decide +kernel
theorem dX6_name_56 : decode cX6_name 56 = .ok (.iconst 0, 1) := by decide +kernel
theorem dX6_name_57 : decode cX6_name 57 = .ok (.iconst 0, 1) := by decide +kernel
theorem dX6_name_58 : decode cX6_name 58 = .ok (.iconst 0, 1) := by decide +kernel
theorem dX6_name_59 : decode cX6_name 59 = .ok (.iconst 0, 1) := by decide +kernel
theorem dX6_name_60 : decode cX6_name 60 = .ok (.invokevirtual 183, 3) := by decide +kernel
theorem dX6_name_63 : decode cX6_name 63 = .ok (.ifCond .eq 8, 3) := by decide +kernel
theorem dX6_name_66 : decode cX6_name 66 = .ok (.aload_n 0, 1) := by decide +kernel
theorem dX6_name_67 : decode cX6_name 67 = .ok (.getfield 193, 3) := by decide +kernel
theorem dX6_name_70 : decode cX6_name 70 = .ok (.ireturn, 1) := by decide +kernel
theorem dX6_name_71 : decode cX6_name 71 = .ok (.aload_n 0, 1) := by decide +kernel
theorem dX6_name_72 : decode cX6_name 72 = .ok (.bipush 112, 2) := by decide +kernel
theorem dX6_name_74 : decode cX6_name 74 = .ok (.bipush 108, 2) := by decide +kernel
theorem dX6_name_76 : decode cX6_name 76 = .ok (.bipush 97, 2) := by decide +kernel
theorem dX6_name_78 : decode cX6_name 78 = .ok (.bipush 116, 2) := by decide +kernel
theorem dX6_name_80 : decode cX6_name 80 = .ok (.bipush 101, 2) := by decide +kernel
theorem dX6_name_82 : decode cX6_name 82 = .ok (.iconst 0, 1) := by decide +kernel
theorem dX6_name_83 : decode cX6_name 83 = .ok (.iconst 0, 1) := by decide +kernel
theorem dX6_name_84 : decode cX6_name 84 = .ok (.iconst 0, 1) := by decide +kernel
theorem dX6_name_85 : decode cX6_name 85 = .ok (.invokevirtual 183, 3) := by decide +kernel
theorem dX6_name_88 : decode cX6_name 88 = .ok (.ifCond .eq 8, 3) := by decide +kernel
theorem dX6_name_91 : decode cX6_name 91 = .ok (.aload_n 0, 1) := by decide +kernel
theorem dX6_name_92 : decode cX6_name 92 = .ok (.getfield 196, 3) := by decide +kernel
theorem dX6_name_95 : decode cX6_name 95 = .ok (.ireturn, 1) := by decide +kernel
theorem dX6_name_96 : decode cX6_name 96 = .ok (.aload_n 0, 1) := by decide +kernel
theorem dX6_name_97 : decode cX6_name 97 = .ok (.bipush 121, 2) := by decide +kernel
theorem dX6_name_99 : decode cX6_name 99 = .ok (.iconst 0, 1) := by decide +kernel
theorem dX6_name_100 : decode cX6_name 100 = .ok (.iconst 0, 1) := by decide +kernel
theorem dX6_name_101 : decode cX6_name 101 = .ok (.iconst 0, 1) := by decide +kernel
theorem dX6_name_102 : decode cX6_name 102 = .ok (.iconst 0, 1) := by decide +kernel
theorem dX6_name_103 : decode cX6_name 103 = .ok (.iconst 0, 1) := by decide +kernel
theorem dX6_name_104 : decode cX6_name 104 = .ok (.iconst 0, 1) := by decide +kernel
theorem dX6_name_105 : decode cX6_name 105 = .ok (.iconst 0, 1) := by decide +kernel
theorem dX6_name_106 : decode cX6_name 106 = .ok (.invokevirtual 183, 3) := by decide +kernel
theorem dX6_name_109 : decode cX6_name 109 = .ok (.ifCond .eq 8, 3) := by decide +kernel
theorem dX6_name_112 : decode cX6_name 112 = .ok (.aload_n 0, 1) := by decide +kernel
theorem dX6_name_113 : decode cX6_name 113 = .ok (.getfield 199, 3) := by decide +kernel
theorem dX6_name_116 : decode cX6_name 116 = .ok (.ireturn, 1) := by decide +kernel
theorem dX6_name_117 : decode cX6_name 117 = .ok (.aload_n 0, 1) := by decide +kernel
theorem dX6_name_118 : decode cX6_name 118 = .ok (.bipush 120, 2) := by decide +kernel
theorem dX6_name_120 : decode cX6_name 120 = .ok (.iconst 0, 1) := by decide +kernel
theorem dX6_name_121 : decode cX6_name 121 = .ok (.iconst 0, 1) := by decide +kernel
theorem dX6_name_122 : decode cX6_name 122 = .ok (.iconst 0, 1) := by decide +kernel
theorem dX6_name_123 : decode cX6_name 123 = .ok (.iconst 0, 1) := by decide +kernel
theorem dX6_name_124 : decode cX6_name 124 = .ok (.iconst 0, 1) := by decide +kernel
theorem dX6_name_125 : decode cX6_name 125 = .ok (.iconst 0, 1) := by decide +kernel
theorem dX6_name_126 : decode cX6_name 126 = .ok (.iconst 0, 1) := by decide +kernel
theorem dX6_name_127 : decode cX6_name 127 = .ok (.invokevirtual 183, 3) := by decide +kernel
theorem dX6_name_130 : decode cX6_name 130 = .ok (.ifCond .eq 8, 3) := by decide +kernel
theorem dX6_name_133 : decode cX6_name 133 = .ok (.aload_n 0, 1) := by decide +kernel
theorem dX6_name_134 : decode cX6_name 134 = .ok (.getfield 202, 3) := by decide +kernel
theorem dX6_name_137 : decode cX6_name 137 = .ok (.ireturn, 1) := by decide +kernel
theorem dX6_name_138 : decode cX6_name 138 = .ok (.aload_n 0, 1) := by decide +kernel
theorem dX6_name_139 : decode cX6_name 139 = .ok (.invokevirtual 177, 3) := by decide +kernel
theorem dX6_name_142 : decode cX6_name 142 = .ok (.iconst 0, 1) := by decide +kernel
theorem dX6_name_143 : decode cX6_name 143 = .ok (.ireturn, 1) := by decide +kernel
theorem dX6_atom_0 : decode cX6_atom 0 = .ok (.iconst 0, 1) := by decide +kernel
theorem dX6_atom_1 : decode cX6_atom 1 = .ok (.istore_n 1, 1) := by decide +kernel
theorem dX6_atom_2 : decode cX6_atom 2 = .ok (.aload_n 0, 1) := by decide +kernel
theorem dX6_atom_3 : decode cX6_atom 3 = .ok (.bipush 45, 2) := by decide +kernel
theorem dX6_atom_5 : decode cX6_atom 5 = .ok (.invokevirtual 205, 3) := by decide +kernel
theorem dX6_atom_8 : decode cX6_atom 8 = .ok (.ifCond .eq 29, 3) := by decide +kernel
theorem dX6_atom_11 : decode cX6_atom 11 = .ok (.aload_n 0, 1) := by decide +kernel
theorem dX6_atom_12 : decode cX6_atom 12 = .ok (.invokevirtual 208, 3) := by decide +kernel
