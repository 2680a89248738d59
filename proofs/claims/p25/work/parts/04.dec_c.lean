theorem dX10_init_0 : decode cX10_init 0 = .ok (.aload_n 0, 1) := by decide +kernel
theorem dX10_init_1 : decode cX10_init 1 = .ok (.invokespecial 1, 3) := by decide +kernel
theorem dX10_init_4 : decode cX10_init 4 = .ok (.aload_n 0, 1) := by decide +kernel
theorem dX10_init_5 : decode cX10_init 5 = .ok (.iconst 4, 1) := by decide +kernel
theorem dX10_init_6 : decode cX10_init 6 = .ok (.newarray .int, 2) := by decide +kernel
theorem dX10_init_8 : decode cX10_init 8 = .ok (.putfield 7, 3) := by decide +kernel
theorem dX10_init_11 : decode cX10_init 11 = .ok (.aload_n 0, 1) := by decide +kernel
theorem dX10_init_12 : decode cX10_init 12 = .ok (.iconst 4, 1) := by decide +kernel
theorem dX10_init_13 : decode cX10_init 13 = .ok (.newarray .int, 2) := by decide +kernel
theorem dX10_init_15 : decode cX10_init 15 = .ok (.putfield 13, 3) := by decide +kernel
theorem dX10_init_18 : decode cX10_init 18 = .ok (.aload_n 0, 1) := by decide +kernel
theorem dX10_init_19 : decode cX10_init 19 = .ok (.sipush 240, 3) := by decide +kernel
theorem dX10_init_22 : decode cX10_init 22 = .ok (.newarray .int, 2) := by decide +kernel
theorem dX10_init_24 : decode cX10_init 24 = .ok (.putfield 16, 3) := by decide +kernel
theorem dX10_init_27 : decode cX10_init 27 = .ok (.aload_n 0, 1) := by decide +kernel
theorem dX10_init_28 : decode cX10_init 28 = .ok (.bipush 60, 2) := by decide +kernel
theorem dX10_init_30 : decode cX10_init 30 = .ok (.newarray .int, 2) := by decide +kernel
theorem dX10_init_32 : decode cX10_init 32 = .ok (.putfield 19, 3) := by decide +kernel
theorem dX10_init_35 : decode cX10_init 35 = .ok (.aload_n 0, 1) := by decide +kernel
theorem dX10_init_36 : decode cX10_init 36 = .ok (.bipush 96, 2) := by decide +kernel
theorem dX10_init_38 : decode cX10_init 38 = .ok (.newarray .int, 2) := by decide +kernel
theorem dX10_init_40 : decode cX10_init 40 = .ok (.putfield 22, 3) := by decide +kernel
theorem dX10_init_43 : decode cX10_init 43 = .ok (.aload_n 0, 1) := by decide +kernel
theorem dX10_init_44 : decode cX10_init 44 = .ok (.bipush 8, 2) := by decide +kernel
theorem dX10_init_46 : decode cX10_init 46 = .ok (.newarray .int, 2) := by decide +kernel
theorem dX10_init_48 : decode cX10_init 48 = .ok (.putfield 25, 3) := by decide +kernel
theorem dX10_init_51 : decode cX10_init 51 = .ok (.aload_n 0, 1) := by decide +kernel
theorem dX10_init_52 : decode cX10_init 52 = .ok (.bipush 8, 2) := by decide +kernel
theorem dX10_init_54 : decode cX10_init 54 = .ok (.newarray .int, 2) := by decide +kernel
theorem dX10_init_56 : decode cX10_init 56 = .ok (.putfield 28, 3) := by decide +kernel
theorem dX10_init_59 : decode cX10_init 59 = .ok (.aload_n 0, 1) := by decide +kernel
theorem dX10_init_60 : decode cX10_init 60 = .ok (.bipush 8, 2) := by decide +kernel
theorem dX10_init_62 : decode cX10_init 62 = .ok (.newarray .int, 2) := by decide +kernel
theorem dX10_init_64 : decode cX10_init 64 = .ok (.putfield 31, 3) := by decide +kernel
theorem dX10_init_67 : decode cX10_init 67 = .ok (.aload_n 0, 1) := by decide +kernel
theorem dX10_init_68 : decode cX10_init 68 = .ok (.bipush 8, 2) := by decide +kernel
theorem dX10_init_70 : decode cX10_init 70 = .ok (.newarray .int, 2) := by decide +kernel
theorem dX10_init_72 : decode cX10_init 72 = .ok (.putfield 34, 3) := by decide +kernel
theorem dX10_init_75 : decode cX10_init 75 = .ok (.aload_n 0, 1) := by decide +kernel
theorem dX10_init_76 : decode cX10_init 76 = .ok (.bipush 24, 2) := by decide +kernel
theorem dX10_init_78 : decode cX10_init 78 = .ok (.newarray .int, 2) := by decide +kernel
theorem dX10_init_80 : decode cX10_init 80 = .ok (.putfield 37, 3) := by decide +kernel
theorem dX10_init_83 : decode cX10_init 83 = .ok (.aload_n 0, 1) := by decide +kernel
theorem dX10_init_84 : decode cX10_init 84 = .ok (.bipush 24, 2) := by decide +kernel
theorem dX10_init_86 : decode cX10_init 86 = .ok (.newarray .int, 2) := by decide +kernel
theorem dX10_init_88 : decode cX10_init 88 = .ok (.putfield 40, 3) := by decide +kernel
theorem dX10_init_91 : decode cX10_init 91 = .ok (.aload_n 0, 1) := by decide +kernel
theorem dX10_init_92 : decode cX10_init 92 = .ok (.bipush 8, 2) := by decide +kernel
theorem dX10_init_94 : decode cX10_init 94 = .ok (.newarray .int, 2) := by decide +kernel
theorem dX10_init_96 : decode cX10_init 96 = .ok (.putfield 43, 3) := by decide +kernel
theorem dX10_init_99 : decode cX10_init 99 = .ok (.aload_n 0, 1) := by decide +kernel
theorem dX10_init_100 : decode cX10_init 100 = .ok (.bipush 8, 2) := by decide +kernel
theorem dX10_init_102 : decode cX10_init 102 = .ok (.newarray .int, 2) := by decide +kernel
theorem dX10_init_104 : decode cX10_init 104 = .ok (.putfield 46, 3) := by decide +kernel
theorem dX10_init_107 : decode cX10_init 107 = .ok (.aload_n 0, 1) := by decide +kernel
theorem dX10_init_108 : decode cX10_init 108 = .ok (.bipush 8, 2) := by decide +kernel
theorem dX10_init_110 : decode cX10_init 110 = .ok (.newarray .int, 2) := by decide +kernel
theorem dX10_init_112 : decode cX10_init 112 = .ok (.putfield 49, 3) := by decide +kernel
theorem dX10_init_115 : decode cX10_init 115 = .ok (.aload_n 0, 1) := by decide +kernel
theorem dX10_init_116 : decode cX10_init 116 = .ok (.bipush 8, 2) := by decide +kernel
theorem dX10_init_118 : decode cX10_init 118 = .ok (.newarray .int, 2) := by decide +kernel
theorem dX10_init_120 : decode cX10_init 120 = .ok (.putfield 52, 3) := by decide +kernel
theorem dX10_init_123 : decode cX10_init 123 = .ok (.aload_n 0, 1) := by decide +kernel
theorem dX10_init_124 : decode cX10_init 124 = .ok (.bipush 8, 2) := by decide +kernel
theorem dX10_init_126 : decode cX10_init 126 = .ok (.newarray .int, 2) := by decide +kernel
theorem dX10_init_128 : decode cX10_init 128 = .ok (.putfield 55, 3) := by decide +kernel
theorem dX10_init_131 : decode cX10_init 131 = .ok (.aload_n 0, 1) := by decide +kernel
theorem dX10_init_132 : decode cX10_init 132 = .ok (.sipush 144, 3) := by decide +kernel
theorem dX10_init_135 : decode cX10_init 135 = .ok (.newarray .int, 2) := by decide +kernel
theorem dX10_init_137 : decode cX10_init 137 = .ok (.putfield 58, 3) := by decide +kernel
theorem dX10_init_140 : decode cX10_init 140 = .ok (.aload_n 0, 1) := by decide +kernel
theorem dX10_init_141 : decode cX10_init 141 = .ok (.sipush 144, 3) := by decide +kernel
theorem dX10_init_144 : decode cX10_init 144 = .ok (.newarray .int, 2) := by decide +kernel
theorem dX10_init_146 : decode cX10_init 146 = .ok (.putfield 61, 3) := by decide +kernel
theorem dX10_init_149 : decode cX10_init 149 = .ok (.aload_n 0, 1) := by decide +kernel
theorem dX10_init_150 : decode cX10_init 150 = .ok (.sipush 144, 3) := by decide +kernel
theorem dX10_init_153 : decode cX10_init 153 = .ok (.newarray .int, 2) := by decide +kernel
theorem dX10_init_155 : decode cX10_init 155 = .ok (.putfield 64, 3) := by decide +kernel
theorem dX10_init_158 : decode cX10_init 158 = .ok (.aload_n 0, 1) := by decide +kernel
theorem dX10_init_159 : decode cX10_init 159 = .ok (.sipush 144, 3) := by decide +kernel
theorem dX10_init_162 : decode cX10_init 162 = .ok (.newarray .int, 2) := by decide +kernel
theorem dX10_init_164 : decode cX10_init 164 = .ok (.putfield 67, 3) := by decide +kernel
theorem dX10_init_167 : decode cX10_init 167 = .ok (.aload_n 0, 1) := by decide +kernel
theorem dX10_init_168 : decode cX10_init 168 = .ok (.sipush 144, 3) := by decide +kernel
theorem dX10_init_171 : decode cX10_init 171 = .ok (.newarray .int, 2) := by decide +kernel
theorem dX10_init_173 : decode cX10_init 173 = .ok (.putfield 70, 3) := by decide +kernel
theorem dX10_init_176 : decode cX10_init 176 = .ok (.aload_n 0, 1) := by decide +kernel
theorem dX10_init_177 : decode cX10_init 177 = .ok (.sipush 144, 3) := by decide +kernel
theorem dX10_init_180 : decode cX10_init 180 = .ok (.newarray .int, 2) := by decide +kernel
theorem dX10_init_182 : decode cX10_init 182 = .ok (.putfield 73, 3) := by decide +kernel
theorem dX10_init_185 : decode cX10_init 185 = .ok (.aload_n 0, 1) := by decide +kernel
theorem dX10_init_186 : decode cX10_init 186 = .ok (.bipush 16, 2) := by decide +kernel
theorem dX10_init_188 : decode cX10_init 188 = .ok (.newarray .int, 2) := by decide +kernel
theorem dX10_init_190 : decode cX10_init 190 = .ok (.putfield 76, 3) := by decide +kernel
theorem dX10_init_193 : decode cX10_init 193 = .ok (.iconst 0, 1) := by decide +kernel
theorem dX10_init_194 : decode cX10_init 194 = .ok (.istore_n 1, 1) := by decide +kernel
theorem dX10_init_195 : decode cX10_init 195 = .ok (.iload_n 1, 1) := by decide +kernel
theorem dX10_init_196 : decode cX10_init 196 = .ok (.iconst 4, 1) := by decide +kernel
theorem dX10_init_197 : decode cX10_init 197 = .ok (.if_icmp .ge 16, 3) := by decide +kernel
theorem dX10_init_200 : decode cX10_init 200 = .ok (.aload_n 0, 1) := by decide +kernel
theorem dX10_init_201 : decode cX10_init 201 = .ok (.getfield 7, 3) := by decide +kernel
theorem dX10_init_204 : decode cX10_init 204 = .ok (.iload_n 1, 1) := by decide +kernel
theorem dX10_init_205 : decode cX10_init 205 = .ok (.iconst (-1), 1) := by decide +kernel
theorem dX10_init_206 : decode cX10_init 206 = .ok (.iastore, 1) := by decide +kernel
theorem dX10_init_207 : decode cX10_init 207 = .ok (.iinc 1 1, 3) := by decide +kernel
theorem dX10_init_210 : decode cX10_init 210 = .ok (.goto (-15), 3) := by decide +kernel
theorem dX10_init_213 : decode cX10_init 213 = .ok (.aload_n 0, 1) := by decide +kernel
theorem dX10_init_214 : decode cX10_init 214 = .ok (.sipush 200, 3) := by decide +kernel
theorem dX10_init_217 : decode cX10_init 217 = .ok (.putfield 79, 3) := by decide +kernel
theorem dX10_init_220 : decode cX10_init 220 = .ok (.aload_n 0, 1) := by decide +kernel
theorem dX10_init_221 : decode cX10_init 221 = .ok (.iconst 3, 1) := by decide +kernel
theorem dX10_init_222 : decode cX10_init 222 = .ok (.putfield 83, 3) := by decide +kernel
theorem dX10_init_225 : decode cX10_init 225 = .ok (.return_, 1) := by decide +kernel
theorem dX10_in_0 : decode cX10_in 0 = .ok (.lload_n 0, 1) := by decide +kernel
theorem dX10_in_1 : decode cX10_in 1 = .ok (.lload_n 2, 1) := by decide +kernel
theorem dX10_in_2 : decode cX10_in 2 = .ok (.lcmp, 1) := by decide +kernel
theorem dX10_in_3 : decode cX10_in 3 = .ok (.ifCond .lt 14, 3) := by decide +kernel
theorem dX10_in_6 : decode cX10_in 6 = .ok (.lload_n 0, 1) := by decide +kernel
theorem dX10_in_7 : decode cX10_in 7 = .ok (.lload 4, 2) := by decide +kernel
theorem dX10_in_9 : decode cX10_in 9 = .ok (.lcmp, 1) := by decide +kernel
theorem dX10_in_10 : decode cX10_in 10 = .ok (.ifCond .gt 7, 3) := by decide +kernel
theorem dX10_in_13 : decode cX10_in 13 = .ok (.iconst 1, 1) := by decide +kernel
theorem dX10_in_14 : decode cX10_in 14 = .ok (.goto 4, 3) := by decide +kernel
theorem dX10_in_17 : decode cX10_in 17 = .ok (.iconst 0, 1) := by decide +kernel
theorem dX10_in_18 : decode cX10_in 18 = .ok (.ireturn, 1) := by decide +kernel
theorem dX10_isTwo_0 : decode cX10_isTwo 0 = .ok (.iload_n 0, 1) := by decide +kernel
theorem dX10_isTwo_1 : decode cX10_isTwo 1 = .ok (.i2l, 1) := by decide +kernel
theorem dX10_isTwo_2 : decode cX10_isTwo 2 = .ok (.lconst 0, 1) := by decide +kernel
theorem dX10_isTwo_3 : decode cX10_isTwo 3 = .ok (.lconst 1, 1) := by decide +kernel
theorem dX10_isTwo_4 : decode cX10_isTwo 4 = .ok (.invokestatic 86, 3) := by decide +kernel
theorem dX10_isTwo_7 : decode cX10_isTwo 7 = .ok (.ireturn, 1) := by decide +kernel
theorem dX10_isIn_0 : decode cX10_isIn 0 = .ok (.iload_n 0, 1) := by decide +kernel
theorem dX10_isIn_1 : decode cX10_isIn 1 = .ok (.iload_n 1, 1) := by decide +kernel
theorem dX10_isIn_2 : decode cX10_isIn 2 = .ok (.ishr, 1) := by decide +kernel
theorem dX10_isIn_3 : decode cX10_isIn 3 = .ok (.iconst 1, 1) := by decide +kernel
theorem dX10_isIn_4 : decode cX10_isIn 4 = .ok (.iand, 1) := by decide +kernel
theorem dX10_isIn_5 : decode cX10_isIn 5 = .ok (.iconst 1, 1) := by decide +kernel
theorem dX10_isIn_6 : decode cX10_isIn 6 = .ok (.if_icmp .ne 7, 3) := by decide +kernel
theorem dX10_isIn_9 : decode cX10_isIn 9 = .ok (.iconst 1, 1) := by decide +kernel
theorem dX10_isIn_10 : decode cX10_isIn 10 = .ok (.goto 4, 3) := by decide +kernel
theorem dX10_isIn_13 : decode cX10_isIn 13 = .ok (.iconst 0, 1) := by decide +kernel
theorem dX10_isIn_14 : decode cX10_isIn 14 = .ok (.ireturn, 1) := by decide +kernel
theorem dX10_lesser_0 : decode cX10_lesser 0 = .ok (.iload_n 0, 1) := by decide +kernel
theorem dX10_lesser_1 : decode cX10_lesser 1 = .ok (.iload_n 1, 1) := by decide +kernel
theorem dX10_lesser_2 : decode cX10_lesser 2 = .ok (.if_icmp .ge 7, 3) := by decide +kernel
theorem dX10_lesser_5 : decode cX10_lesser 5 = .ok (.iload_n 0, 1) := by decide +kernel
theorem dX10_lesser_6 : decode cX10_lesser 6 = .ok (.goto 4, 3) := by decide +kernel
theorem dX10_lesser_9 : decode cX10_lesser 9 = .ok (.iload_n 1, 1) := by decide +kernel
theorem dX10_lesser_10 : decode cX10_lesser 10 = .ok (.ireturn, 1) := by decide +kernel
theorem dX10_greater_0 : decode cX10_greater 0 = .ok (.iload_n 0, 1) := by decide +kernel
theorem dX10_greater_1 : decode cX10_greater 1 = .ok (.iload_n 1, 1) := by decide +kernel
theorem dX10_greater_2 : decode cX10_greater 2 = .ok (.if_icmp .le 7, 3) := by decide +kernel
theorem dX10_greater_5 : decode cX10_greater 5 = .ok (.iload_n 0, 1) := by decide +kernel
theorem dX10_greater_6 : decode cX10_greater 6 = .ok (.goto 4, 3) := by decide +kernel
theorem dX10_greater_9 : decode cX10_greater 9 = .ok (.iload_n 1, 1) := by decide +kernel
theorem dX10_greater_10 : decode cX10_greater 10 = .ok (.ireturn, 1) := by decide +kernel
theorem dX10_finds_0 : decode cX10_finds 0 = .ok (.aload_n 0, 1) := by decide +kernel
theorem dX10_finds_1 : decode cX10_finds 1 = .ok (.iload_n 1, 1) := by decide +kernel
theorem dX10_finds_2 : decode cX10_finds 2 = .ok (.putfield 90, 3) := by decide +kernel
theorem dX10_finds_5 : decode cX10_finds 5 = .ok (.bipush (-10), 2) := by decide +kernel
theorem dX10_finds_7 : decode cX10_finds 7 = .ok (.iload_n 1, 1) := by decide +kernel
theorem dX10_finds_8 : decode cX10_finds 8 = .ok (.isub, 1) := by decide +kernel
theorem dX10_finds_9 : decode cX10_finds 9 = .ok (.ireturn, 1) := by decide +kernel
theorem dX10_isSheet_0 : decode cX10_isSheet 0 = .ok (.iload_n 0, 1) := by decide +kernel
theorem dX10_isSheet_1 : decode cX10_isSheet 1 = .ok (.i2l, 1) := by decide +kernel
theorem dX10_isSheet_2 : decode cX10_isSheet 2 = .ok (.lconst 0, 1) := by decide +kernel
theorem dX10_isSheet_3 : decode cX10_isSheet 3 = .ok (.ldc2_w 93, 3) := by decide +kernel
theorem dX10_isSheet_6 : decode cX10_isSheet 6 = .ok (.invokestatic 86, 3) := by decide +kernel
theorem dX10_isSheet_9 : decode cX10_isSheet 9 = .ok (.ireturn, 1) := by decide +kernel
theorem dX10_sheet_0 : decode cX10_sheet 0 = .ok (.iload_n 1, 1) := by decide +kernel
theorem dX10_sheet_1 : decode cX10_sheet 1 = .ok (.invokestatic 95, 3) := by decide +kernel
theorem dX10_sheet_4 : decode cX10_sheet 4 = .ok (.ifCond .eq 21, 3) := by decide +kernel
theorem dX10_sheet_7 : decode cX10_sheet 7 = .ok (.iload_n 2, 1) := by decide +kernel
theorem dX10_sheet_8 : decode cX10_sheet 8 = .ok (.i2l, 1) := by decide +kernel
theorem dX10_sheet_9 : decode cX10_sheet 9 = .ok (.lconst 0, 1) := by decide +kernel
theorem dX10_sheet_10 : decode cX10_sheet 10 = .ok (.ldc2_w 99, 3) := by decide +kernel
theorem dX10_sheet_13 : decode cX10_sheet 13 = .ok (.invokestatic 86, 3) := by decide +kernel
theorem dX10_sheet_16 : decode cX10_sheet 16 = .ok (.ifCond .eq 9, 3) := by decide +kernel
theorem dX10_sheet_19 : decode cX10_sheet 19 = .ok (.iload_n 3, 1) := by decide +kernel
theorem dX10_sheet_20 : decode cX10_sheet 20 = .ok (.bipush 60, 2) := by decide +kernel
theorem dX10_sheet_22 : decode cX10_sheet 22 = .ok (.if_icmp .le 6, 3) := by decide +kernel
theorem dX10_sheet_25 : decode cX10_sheet 25 = .ok (.bipush (-2), 2) := by decide +kernel
theorem dX10_sheet_27 : decode cX10_sheet 27 = .ok (.ireturn, 1) := by decide +kernel
theorem dX10_sheet_28 : decode cX10_sheet 28 = .ok (.iload_n 3, 1) := by decide +kernel
theorem dX10_sheet_29 : decode cX10_sheet 29 = .ok (.ifCond .ge 9, 3) := by decide +kernel
theorem dX10_sheet_32 : decode cX10_sheet 32 = .ok (.aload_n 0, 1) := by decide +kernel
theorem dX10_sheet_33 : decode cX10_sheet 33 = .ok (.iconst 5, 1) := by decide +kernel
theorem dX10_sheet_34 : decode cX10_sheet 34 = .ok (.invokevirtual 101, 3) := by decide +kernel
theorem dX10_sheet_37 : decode cX10_sheet 37 = .ok (.ireturn, 1) := by decide +kernel
theorem dX10_sheet_38 : decode cX10_sheet 38 = .ok (.aload_n 0, 1) := by decide +kernel
theorem dX10_sheet_39 : decode cX10_sheet 39 = .ok (.getfield 7, 3) := by decide +kernel
theorem dX10_sheet_42 : decode cX10_sheet 42 = .ok (.iload_n 1, 1) := by decide +kernel
theorem dX10_sheet_43 : decode cX10_sheet 43 = .ok (.iload_n 2, 1) := by decide +kernel
theorem dX10_sheet_44 : decode cX10_sheet 44 = .ok (.iastore, 1) := by decide +kernel
theorem dX10_sheet_45 : decode cX10_sheet 45 = .ok (.aload_n 0, 1) := by decide +kernel
theorem dX10_sheet_46 : decode cX10_sheet 46 = .ok (.getfield 13, 3) := by decide +kernel
theorem dX10_sheet_49 : decode cX10_sheet 49 = .ok (.iload_n 1, 1) := by decide +kernel
theorem dX10_sheet_50 : decode cX10_sheet 50 = .ok (.iload_n 3, 1) := by decide +kernel
theorem dX10_sheet_51 : decode cX10_sheet 51 = .ok (.iastore, 1) := by decide +kernel
theorem dX10_sheet_52 : decode cX10_sheet 52 = .ok (.iconst 0, 1) := by decide +kernel
theorem dX10_sheet_53 : decode cX10_sheet 53 = .ok (.istore 4, 2) := by decide +kernel
theorem dX10_sheet_55 : decode cX10_sheet 55 = .ok (.iload 4, 2) := by decide +kernel
theorem dX10_sheet_57 : decode cX10_sheet 57 = .ok (.iload_n 3, 1) := by decide +kernel
theorem dX10_sheet_58 : decode cX10_sheet 58 = .ok (.if_icmp .ge 22, 3) := by decide +kernel
theorem dX10_sheet_61 : decode cX10_sheet 61 = .ok (.aload_n 0, 1) := by decide +kernel
theorem dX10_sheet_62 : decode cX10_sheet 62 = .ok (.getfield 16, 3) := by decide +kernel
theorem dX10_sheet_65 : decode cX10_sheet 65 = .ok (.bipush 60, 2) := by decide +kernel
theorem dX10_sheet_67 : decode cX10_sheet 67 = .ok (.iload_n 1, 1) := by decide +kernel
theorem dX10_sheet_68 : decode cX10_sheet 68 = .ok (.imul, 1) := by decide +kernel
theorem dX10_sheet_69 : decode cX10_sheet 69 = .ok (.iload 4, 2) := by decide +kernel
theorem dX10_sheet_71 : decode cX10_sheet 71 = .ok (.iadd, 1) := by decide +kernel
theorem dX10_sheet_72 : decode cX10_sheet 72 = .ok (.iconst 0, 1) := by decide +kernel
theorem dX10_sheet_73 : decode cX10_sheet 73 = .ok (.iastore, 1) := by decide +kernel
theorem dX10_sheet_74 : decode cX10_sheet 74 = .ok (.iinc 4 1, 3) := by decide +kernel
theorem dX10_sheet_77 : decode cX10_sheet 77 = .ok (.goto (-22), 3) := by decide +kernel
theorem dX10_sheet_80 : decode cX10_sheet 80 = .ok (.iload_n 3, 1) := by decide +kernel
theorem dX10_sheet_81 : decode cX10_sheet 81 = .ok (.ireturn, 1) := by decide +kernel
theorem dX10_lose_0 : decode cX10_lose 0 = .ok (.iload_n 1, 1) := by decide +kernel
theorem dX10_lose_1 : decode cX10_lose 1 = .ok (.invokestatic 95, 3) := by decide +kernel
theorem dX10_lose_4 : decode cX10_lose 4 = .ok (.ifCond .ne 6, 3) := by decide +kernel
theorem dX10_lose_7 : decode cX10_lose 7 = .ok (.bipush (-2), 2) := by decide +kernel
theorem dX10_lose_9 : decode cX10_lose 9 = .ok (.ireturn, 1) := by decide +kernel
theorem dX10_lose_10 : decode cX10_lose 10 = .ok (.aload_n 0, 1) := by decide +kernel
theorem dX10_lose_11 : decode cX10_lose 11 = .ok (.getfield 7, 3) := by decide +kernel
theorem dX10_lose_14 : decode cX10_lose 14 = .ok (.iload_n 1, 1) := by decide +kernel
theorem dX10_lose_15 : decode cX10_lose 15 = .ok (.iaload, 1) := by decide +kernel
theorem dX10_lose_16 : decode cX10_lose 16 = .ok (.ifCond .ge 9, 3) := by decide +kernel
theorem dX10_lose_19 : decode cX10_lose 19 = .ok (.aload_n 0, 1) := by decide +kernel
theorem dX10_lose_20 : decode cX10_lose 20 = .ok (.iconst 1, 1) := by decide +kernel
theorem dX10_lose_21 : decode cX10_lose 21 = .ok (.invokevirtual 101, 3) := by decide +kernel
theorem dX10_lose_24 : decode cX10_lose 24 = .ok (.ireturn, 1) := by decide +kernel
theorem dX10_lose_25 : decode cX10_lose 25 = .ok (.aload_n 0, 1) := by decide +kernel
theorem dX10_lose_26 : decode cX10_lose 26 = .ok (.getfield 7, 3) := by decide +kernel
theorem dX10_lose_29 : decode cX10_lose 29 = .ok (.iload_n 1, 1) := by decide +kernel
theorem dX10_lose_30 : decode cX10_lose 30 = .ok (.iconst (-1), 1) := by decide +kernel
theorem dX10_lose_31 : decode cX10_lose 31 = .ok (.iastore, 1) := by decide +kernel
theorem dX10_lose_32 : decode cX10_lose 32 = .ok (.aload_n 0, 1) := by decide +kernel
theorem dX10_lose_33 : decode cX10_lose 33 = .ok (.getfield 13, 3) := by decide +kernel
theorem dX10_lose_36 : decode cX10_lose 36 = .ok (.iload_n 1, 1) := by decide +kernel
theorem dX10_lose_37 : decode cX10_lose 37 = .ok (.iaload, 1) := by decide +kernel
theorem dX10_lose_38 : decode cX10_lose 38 = .ok (.ireturn, 1) := by decide +kernel
theorem dX10_lacks_0 : decode cX10_lacks 0 = .ok (.aload_n 0, 1) := by decide +kernel
theorem dX10_lacks_1 : decode cX10_lacks 1 = .ok (.getfield 7, 3) := by decide +kernel
theorem dX10_lacks_4 : decode cX10_lacks 4 = .ok (.iload_n 1, 1) := by decide +kernel
theorem dX10_lacks_5 : decode cX10_lacks 5 = .ok (.iaload, 1) := by decide +kernel
theorem dX10_lacks_6 : decode cX10_lacks 6 = .ok (.ifCond .ge 9, 3) := by decide +kernel
theorem dX10_lacks_9 : decode cX10_lacks 9 = .ok (.aload_n 0, 1) := by decide +kernel
theorem dX10_lacks_10 : decode cX10_lacks 10 = .ok (.iconst 1, 1) := by decide +kernel
theorem dX10_lacks_11 : decode cX10_lacks 11 = .ok (.invokevirtual 101, 3) := by decide +kernel
theorem dX10_lacks_14 : decode cX10_lacks 14 = .ok (.ireturn, 1) := by decide +kernel
theorem dX10_lacks_15 : decode cX10_lacks 15 = .ok (.aload_n 0, 1) := by decide +kernel
theorem dX10_lacks_16 : decode cX10_lacks 16 = .ok (.getfield 7, 3) := by decide +kernel
theorem dX10_lacks_19 : decode cX10_lacks 19 = .ok (.iload_n 1, 1) := by decide +kernel
theorem dX10_lacks_20 : decode cX10_lacks 20 = .ok (.iaload, 1) := by decide +kernel
theorem dX10_lacks_21 : decode cX10_lacks 21 = .ok (.iload_n 2, 1) := by decide +kernel
theorem dX10_lacks_22 : decode cX10_lacks 22 = .ok (.if_icmp .eq 9, 3) := by decide +kernel
theorem dX10_lacks_25 : decode cX10_lacks 25 = .ok (.aload_n 0, 1) := by decide +kernel
theorem dX10_lacks_26 : decode cX10_lacks 26 = .ok (.iconst 3, 1) := by decide +kernel
theorem dX10_lacks_27 : decode cX10_lacks 27 = .ok (.invokevirtual 101, 3) := by decide +kernel
theorem dX10_lacks_30 : decode cX10_lacks 30 = .ok (.ireturn, 1) := by decide +kernel
theorem dX10_lacks_31 : decode cX10_lacks 31 = .ok (.iload_n 3, 1) := by decide +kernel
theorem dX10_lacks_32 : decode cX10_lacks 32 = .ok (.i2l, 1) := by decide +kernel
theorem dX10_lacks_33 : decode cX10_lacks 33 = .ok (.lconst 0, 1) := by decide +kernel
theorem dX10_lacks_34 : decode cX10_lacks 34 = .ok (.aload_n 0, 1) := by decide +kernel
theorem dX10_lacks_35 : decode cX10_lacks 35 = .ok (.getfield 13, 3) := by decide +kernel
theorem dX10_lacks_38 : decode cX10_lacks 38 = .ok (.iload_n 1, 1) := by decide +kernel
theorem dX10_lacks_39 : decode cX10_lacks 39 = .ok (.iaload, 1) := by decide +kernel
theorem dX10_lacks_40 : decode cX10_lacks 40 = .ok (.iconst 1, 1) := by decide +kernel
theorem dX10_lacks_41 : decode cX10_lacks 41 = .ok (.isub, 1) := by decide +kernel
theorem dX10_lacks_42 : decode cX10_lacks 42 = .ok (.i2l, 1) := by decide +kernel
theorem dX10_lacks_43 : decode cX10_lacks 43 = .ok (.invokestatic 86, 3) := by decide +kernel
theorem dX10_lacks_46 : decode cX10_lacks 46 = .ok (.ifCond .eq 7, 3) := by decide +kernel
theorem dX10_lacks_49 : decode cX10_lacks 49 = .ok (.iconst 0, 1) := by decide +kernel
theorem dX10_lacks_50 : decode cX10_lacks 50 = .ok (.goto 8, 3) := by decide +kernel
theorem dX10_lacks_53 : decode cX10_lacks 53 = .ok (.aload_n 0, 1) := by decide +kernel
theorem dX10_lacks_54 : decode cX10_lacks 54 = .ok (.iconst 2, 1) := by decide +kernel
theorem dX10_lacks_55 : decode cX10_lacks 55 = .ok (.invokevirtual 101, 3) := by decide +kernel
theorem dX10_lacks_58 : decode cX10_lacks 58 = .ok (.ireturn, 1) := by decide +kernel
theorem dX10_cut_0 : decode cX10_cut 0 = .ok (.iload_n 0, 1) := by decide +kernel
theorem dX10_cut_1 : decode cX10_cut 1 = .ok (.ifCond .ne 8, 3) := by decide +kernel
theorem dX10_cut_4 : decode cX10_cut 4 = .ok (.iload_n 1, 1) := by decide +kernel
theorem dX10_cut_5 : decode cX10_cut 5 = .ok (.i2b, 1) := by decide +kernel
theorem dX10_cut_6 : decode cX10_cut 6 = .ok (.goto 14, 3) := by decide +kernel
theorem dX10_cut_9 : decode cX10_cut 9 = .ok (.iload_n 0, 1) := by decide +kernel
theorem dX10_cut_10 : decode cX10_cut 10 = .ok (.iconst 1, 1) := by decide +kernel
theorem dX10_cut_11 : decode cX10_cut 11 = .ok (.if_icmp .ne 8, 3) := by decide +kernel
theorem dX10_cut_14 : decode cX10_cut 14 = .ok (.iload_n 1, 1) := by decide +kernel
theorem dX10_cut_15 : decode cX10_cut 15 = .ok (.i2s, 1) := by decide +kernel
theorem dX10_cut_16 : decode cX10_cut 16 = .ok (.goto 4, 3) := by decide +kernel
theorem dX10_cut_19 : decode cX10_cut 19 = .ok (.iload_n 1, 1) := by decide +kernel
theorem dX10_cut_20 : decode cX10_cut 20 = .ok (.ireturn, 1) := by decide +kernel
theorem dX10_lay_0 : decode cX10_lay 0 = .ok (.iload_n 1, 1) := by decide +kernel
theorem dX10_lay_1 : decode cX10_lay 1 = .ok (.invokestatic 95, 3) := by decide +kernel
theorem dX10_lay_4 : decode cX10_lay 4 = .ok (.ifCond .eq 15, 3) := by decide +kernel
theorem dX10_lay_7 : decode cX10_lay 7 = .ok (.iload_n 2, 1) := by decide +kernel
theorem dX10_lay_8 : decode cX10_lay 8 = .ok (.i2l, 1) := by decide +kernel
theorem dX10_lay_9 : decode cX10_lay 9 = .ok (.lconst 0, 1) := by decide +kernel
theorem dX10_lay_10 : decode cX10_lay 10 = .ok (.ldc2_w 99, 3) := by decide +kernel
theorem dX10_lay_13 : decode cX10_lay 13 = .ok (.invokestatic 86, 3) := by decide +kernel
theorem dX10_lay_16 : decode cX10_lay 16 = .ok (.ifCond .ne 6, 3) := by decide +kernel
theorem dX10_lay_19 : decode cX10_lay 19 = .ok (.bipush (-2), 2) := by decide +kernel
theorem dX10_lay_21 : decode cX10_lay 21 = .ok (.ireturn, 1) := by decide +kernel
theorem dX10_lay_22 : decode cX10_lay 22 = .ok (.aload_n 0, 1) := by decide +kernel
theorem dX10_lay_23 : decode cX10_lay 23 = .ok (.iload_n 1, 1) := by decide +kernel
theorem dX10_lay_24 : decode cX10_lay 24 = .ok (.iload_n 2, 1) := by decide +kernel
theorem dX10_lay_25 : decode cX10_lay 25 = .ok (.iload_n 3, 1) := by decide +kernel
theorem dX10_lay_26 : decode cX10_lay 26 = .ok (.invokevirtual 105, 3) := by decide +kernel
theorem dX10_lay_29 : decode cX10_lay 29 = .ok (.istore 5, 2) := by decide +kernel
theorem dX10_lay_31 : decode cX10_lay 31 = .ok (.iload 5, 2) := by decide +kernel
theorem dX10_lay_33 : decode cX10_lay 33 = .ok (.ifCond .eq 6, 3) := by decide +kernel
theorem dX10_lay_36 : decode cX10_lay 36 = .ok (.iload 5, 2) := by decide +kernel
theorem dX10_lay_38 : decode cX10_lay 38 = .ok (.ireturn, 1) := by decide +kernel
theorem dX10_lay_39 : decode cX10_lay 39 = .ok (.aload_n 0, 1) := by decide +kernel
theorem dX10_lay_40 : decode cX10_lay 40 = .ok (.getfield 16, 3) := by decide +kernel
theorem dX10_lay_43 : decode cX10_lay 43 = .ok (.bipush 60, 2) := by decide +kernel
theorem dX10_lay_45 : decode cX10_lay 45 = .ok (.iload_n 1, 1) := by decide +kernel
theorem dX10_lay_46 : decode cX10_lay 46 = .ok (.imul, 1) := by decide +kernel
theorem dX10_lay_47 : decode cX10_lay 47 = .ok (.iload_n 3, 1) := by decide +kernel
theorem dX10_lay_48 : decode cX10_lay 48 = .ok (.iadd, 1) := by decide +kernel
theorem dX10_lay_49 : decode cX10_lay 49 = .ok (.iload_n 2, 1) := by decide +kernel
theorem dX10_lay_50 : decode cX10_lay 50 = .ok (.iload 4, 2) := by decide +kernel
theorem dX10_lay_52 : decode cX10_lay 52 = .ok (.invokestatic 109, 3) := by decide +kernel
theorem dX10_lay_55 : decode cX10_lay 55 = .ok (.iastore, 1) := by decide +kernel
theorem dX10_lay_56 : decode cX10_lay 56 = .ok (.iconst 1, 1) := by decide +kernel
theorem dX10_lay_57 : decode cX10_lay 57 = .ok (.ireturn, 1) := by decide +kernel
theorem dX10_get_0 : decode cX10_get 0 = .ok (.iload_n 1, 1) := by decide +kernel
theorem dX10_get_1 : decode cX10_get 1 = .ok (.invokestatic 95, 3) := by decide +kernel
theorem dX10_get_4 : decode cX10_get 4 = .ok (.ifCond .eq 25, 3) := by decide +kernel
theorem dX10_get_7 : decode cX10_get 7 = .ok (.iload_n 2, 1) := by decide +kernel
theorem dX10_get_8 : decode cX10_get 8 = .ok (.i2l, 1) := by decide +kernel
theorem dX10_get_9 : decode cX10_get 9 = .ok (.lconst 0, 1) := by decide +kernel
theorem dX10_get_10 : decode cX10_get 10 = .ok (.ldc2_w 99, 3) := by decide +kernel
theorem dX10_get_13 : decode cX10_get 13 = .ok (.invokestatic 86, 3) := by decide +kernel
theorem dX10_get_16 : decode cX10_get 16 = .ok (.ifCond .eq 13, 3) := by decide +kernel
theorem dX10_get_19 : decode cX10_get 19 = .ok (.aload_n 0, 1) := by decide +kernel
theorem dX10_get_20 : decode cX10_get 20 = .ok (.iload_n 1, 1) := by decide +kernel
theorem dX10_get_21 : decode cX10_get 21 = .ok (.iload_n 2, 1) := by decide +kernel
theorem dX10_get_22 : decode cX10_get 22 = .ok (.iload_n 3, 1) := by decide +kernel
theorem dX10_get_23 : decode cX10_get 23 = .ok (.invokevirtual 105, 3) := by decide +kernel
theorem dX10_get_26 : decode cX10_get 26 = .ok (.ifCond .eq 6, 3) := by decide +kernel
theorem dX10_get_29 : decode cX10_get 29 = .ok (.ldc 113, 2) := by decide +kernel
theorem dX10_get_31 : decode cX10_get 31 = .ok (.ireturn, 1) := by decide +kernel
theorem dX10_get_32 : decode cX10_get 32 = .ok (.aload_n 0, 1) := by decide +kernel
theorem dX10_get_33 : decode cX10_get 33 = .ok (.getfield 16, 3) := by decide +kernel
theorem dX10_get_36 : decode cX10_get 36 = .ok (.bipush 60, 2) := by decide +kernel
theorem dX10_get_38 : decode cX10_get 38 = .ok (.iload_n 1, 1) := by decide +kernel
theorem dX10_get_39 : decode cX10_get 39 = .ok (.imul, 1) := by decide +kernel
theorem dX10_get_40 : decode cX10_get 40 = .ok (.iload_n 3, 1) := by decide +kernel
theorem dX10_get_41 : decode cX10_get 41 = .ok (.iadd, 1) := by decide +kernel
theorem dX10_get_42 : decode cX10_get 42 = .ok (.iaload, 1) := by decide +kernel
theorem dX10_get_43 : decode cX10_get 43 = .ok (.ireturn, 1) := by decide +kernel
theorem dX10_copy_0 : decode cX10_copy 0 = .ok (.iload_n 1, 1) := by decide +kernel
theorem dX10_copy_1 : decode cX10_copy 1 = .ok (.invokestatic 95, 3) := by decide +kernel
theorem dX10_copy_4 : decode cX10_copy 4 = .ok (.ifCond .eq 10, 3) := by decide +kernel
theorem dX10_copy_7 : decode cX10_copy 7 = .ok (.iload_n 3, 1) := by decide +kernel
theorem dX10_copy_8 : decode cX10_copy 8 = .ok (.invokestatic 95, 3) := by decide +kernel
theorem dX10_copy_11 : decode cX10_copy 11 = .ok (.ifCond .ne 6, 3) := by decide +kernel
theorem dX10_copy_14 : decode cX10_copy 14 = .ok (.bipush (-2), 2) := by decide +kernel
theorem dX10_copy_16 : decode cX10_copy 16 = .ok (.ireturn, 1) := by decide +kernel
theorem dX10_copy_17 : decode cX10_copy 17 = .ok (.aload_n 0, 1) := by decide +kernel
theorem dX10_copy_18 : decode cX10_copy 18 = .ok (.getfield 7, 3) := by decide +kernel
theorem dX10_copy_21 : decode cX10_copy 21 = .ok (.iload_n 1, 1) := by decide +kernel
theorem dX10_copy_22 : decode cX10_copy 22 = .ok (.iaload, 1) := by decide +kernel
theorem dX10_copy_23 : decode cX10_copy 23 = .ok (.ifCond .lt 12, 3) := by decide +kernel
theorem dX10_copy_26 : decode cX10_copy 26 = .ok (.aload_n 0, 1) := by decide +kernel
theorem dX10_copy_27 : decode cX10_copy 27 = .ok (.getfield 7, 3) := by decide +kernel
theorem dX10_copy_30 : decode cX10_copy 30 = .ok (.iload_n 3, 1) := by decide +kernel
theorem dX10_copy_31 : decode cX10_copy 31 = .ok (.iaload, 1) := by decide +kernel
theorem dX10_copy_32 : decode cX10_copy 32 = .ok (.ifCond .ge 9, 3) := by decide +kernel
theorem dX10_copy_35 : decode cX10_copy 35 = .ok (.aload_n 0, 1) := by decide +kernel
theorem dX10_copy_36 : decode cX10_copy 36 = .ok (.iconst 1, 1) := by decide +kernel
theorem dX10_copy_37 : decode cX10_copy 37 = .ok (.invokevirtual 101, 3) := by decide +kernel
theorem dX10_copy_40 : decode cX10_copy 40 = .ok (.ireturn, 1) := by decide +kernel
theorem dX10_copy_41 : decode cX10_copy 41 = .ok (.aload_n 0, 1) := by decide +kernel
theorem dX10_copy_42 : decode cX10_copy 42 = .ok (.getfield 7, 3) := by decide +kernel
theorem dX10_copy_45 : decode cX10_copy 45 = .ok (.iload_n 1, 1) := by decide +kernel
theorem dX10_copy_46 : decode cX10_copy 46 = .ok (.iaload, 1) := by decide +kernel
theorem dX10_copy_47 : decode cX10_copy 47 = .ok (.aload_n 0, 1) := by decide +kernel
theorem dX10_copy_48 : decode cX10_copy 48 = .ok (.getfield 7, 3) := by decide +kernel
theorem dX10_copy_51 : decode cX10_copy 51 = .ok (.iload_n 3, 1) := by decide +kernel
theorem dX10_copy_52 : decode cX10_copy 52 = .ok (.iaload, 1) := by decide +kernel
theorem dX10_copy_53 : decode cX10_copy 53 = .ok (.if_icmp .eq 9, 3) := by decide +kernel
theorem dX10_copy_56 : decode cX10_copy 56 = .ok (.aload_n 0, 1) := by decide +kernel
theorem dX10_copy_57 : decode cX10_copy 57 = .ok (.iconst 4, 1) := by decide +kernel
theorem dX10_copy_58 : decode cX10_copy 58 = .ok (.invokevirtual 101, 3) := by decide +kernel
theorem dX10_copy_61 : decode cX10_copy 61 = .ok (.ireturn, 1) := by decide +kernel
theorem dX10_copy_62 : decode cX10_copy 62 = .ok (.iload_n 2, 1) := by decide +kernel
theorem dX10_copy_63 : decode cX10_copy 63 = .ok (.ifCond .lt 48, 3) := by decide +kernel
theorem dX10_copy_66 : decode cX10_copy 66 = .ok (.iload 4, 2) := by decide +kernel
theorem dX10_copy_68 : decode cX10_copy 68 = .ok (.ifCond .lt 43, 3) := by decide +kernel
theorem dX10_copy_71 : decode cX10_copy 71 = .ok (.iload 5, 2) := by decide +kernel
theorem dX10_copy_73 : decode cX10_copy 73 = .ok (.ifCond .lt 38, 3) := by decide +kernel
theorem dX10_copy_76 : decode cX10_copy 76 = .ok (.iload_n 2, 1) := by decide +kernel
theorem dX10_copy_77 : decode cX10_copy 77 = .ok (.i2l, 1) := by decide +kernel
theorem dX10_copy_78 : decode cX10_copy 78 = .ok (.iload 5, 2) := by decide +kernel
theorem dX10_copy_80 : decode cX10_copy 80 = .ok (.i2l, 1) := by decide +kernel
theorem dX10_copy_81 : decode cX10_copy 81 = .ok (.ladd, 1) := by decide +kernel
theorem dX10_copy_82 : decode cX10_copy 82 = .ok (.aload_n 0, 1) := by decide +kernel
theorem dX10_copy_83 : decode cX10_copy 83 = .ok (.getfield 13, 3) := by decide +kernel
theorem dX10_copy_86 : decode cX10_copy 86 = .ok (.iload_n 1, 1) := by decide +kernel
theorem dX10_copy_87 : decode cX10_copy 87 = .ok (.iaload, 1) := by decide +kernel
theorem dX10_copy_88 : decode cX10_copy 88 = .ok (.i2l, 1) := by decide +kernel
theorem dX10_copy_89 : decode cX10_copy 89 = .ok (.lcmp, 1) := by decide +kernel
theorem dX10_copy_90 : decode cX10_copy 90 = .ok (.ifCond .gt 21, 3) := by decide +kernel
theorem dX10_copy_93 : decode cX10_copy 93 = .ok (.iload 4, 2) := by decide +kernel
theorem dX10_copy_95 : decode cX10_copy 95 = .ok (.i2l, 1) := by decide +kernel
theorem dX10_copy_96 : decode cX10_copy 96 = .ok (.iload 5, 2) := by decide +kernel
theorem dX10_copy_98 : decode cX10_copy 98 = .ok (.i2l, 1) := by decide +kernel
theorem dX10_copy_99 : decode cX10_copy 99 = .ok (.ladd, 1) := by decide +kernel
theorem dX10_copy_100 : decode cX10_copy 100 = .ok (.aload_n 0, 1) := by decide +kernel
theorem dX10_copy_101 : decode cX10_copy 101 = .ok (.getfield 13, 3) := by decide +kernel
theorem dX10_copy_104 : decode cX10_copy 104 = .ok (.iload_n 3, 1) := by decide +kernel
theorem dX10_copy_105 : decode cX10_copy 105 = .ok (.iaload, 1) := by decide +kernel
theorem dX10_copy_106 : decode cX10_copy 106 = .ok (.i2l, 1) := by decide +kernel
theorem dX10_copy_107 : decode cX10_copy 107 = .ok (.lcmp, 1) := by decide +kernel
theorem dX10_copy_108 : decode cX10_copy 108 = .ok (.ifCond .le 9, 3) := by decide +kernel
theorem dX10_copy_111 : decode cX10_copy 111 = .ok (.aload_n 0, 1) := by decide +kernel
theorem dX10_copy_112 : decode cX10_copy 112 = .ok (.iconst 2, 1) := by decide +kernel
theorem dX10_copy_113 : decode cX10_copy 113 = .ok (.invokevirtual 101, 3) := by decide +kernel
theorem dX10_copy_116 : decode cX10_copy 116 = .ok (.ireturn, 1) := by decide +kernel
theorem dX10_copy_117 : decode cX10_copy 117 = .ok (.iconst 0, 1) := by decide +kernel
theorem dX10_copy_118 : decode cX10_copy 118 = .ok (.istore 6, 2) := by decide +kernel
theorem dX10_copy_120 : decode cX10_copy 120 = .ok (.iload 6, 2) := by decide +kernel
theorem dX10_copy_122 : decode cX10_copy 122 = .ok (.iload 5, 2) := by decide +kernel
theorem dX10_copy_124 : decode cX10_copy 124 = .ok (.if_icmp .ge 30, 3) := by decide +kernel
theorem dX10_copy_127 : decode cX10_copy 127 = .ok (.aload_n 0, 1) := by decide +kernel
theorem dX10_copy_128 : decode cX10_copy 128 = .ok (.getfield 19, 3) := by decide +kernel
theorem dX10_copy_131 : decode cX10_copy 131 = .ok (.iload 6, 2) := by decide +kernel
theorem dX10_copy_133 : decode cX10_copy 133 = .ok (.aload_n 0, 1) := by decide +kernel
theorem dX10_copy_134 : decode cX10_copy 134 = .ok (.getfield 16, 3) := by decide +kernel
theorem dX10_copy_137 : decode cX10_copy 137 = .ok (.bipush 60, 2) := by decide +kernel
theorem dX10_copy_139 : decode cX10_copy 139 = .ok (.iload_n 1, 1) := by decide +kernel
theorem dX10_copy_140 : decode cX10_copy 140 = .ok (.imul, 1) := by decide +kernel
theorem dX10_copy_141 : decode cX10_copy 141 = .ok (.iload_n 2, 1) := by decide +kernel
theorem dX10_copy_142 : decode cX10_copy 142 = .ok (.iadd, 1) := by decide +kernel
theorem dX10_copy_143 : decode cX10_copy 143 = .ok (.iload 6, 2) := by decide +kernel
theorem dX10_copy_145 : decode cX10_copy 145 = .ok (.iadd, 1) := by decide +kernel
theorem dX10_copy_146 : decode cX10_copy 146 = .ok (.iaload, 1) := by decide +kernel
theorem dX10_copy_147 : decode cX10_copy 147 = .ok (.iastore, 1) := by decide +kernel
theorem dX10_copy_148 : decode cX10_copy 148 = .ok (.iinc 6 1, 3) := by decide +kernel
theorem dX10_copy_151 : decode cX10_copy 151 = .ok (.goto (-31), 3) := by decide +kernel
theorem dX10_copy_154 : decode cX10_copy 154 = .ok (.iconst 0, 1) := by decide +kernel
theorem dX10_copy_155 : decode cX10_copy 155 = .ok (.istore 6, 2) := by decide +kernel
theorem dX10_copy_157 : decode cX10_copy 157 = .ok (.iload 6, 2) := by decide +kernel
theorem dX10_copy_159 : decode cX10_copy 159 = .ok (.iload 5, 2) := by decide +kernel
theorem dX10_copy_161 : decode cX10_copy 161 = .ok (.if_icmp .ge 31, 3) := by decide +kernel
theorem dX10_copy_164 : decode cX10_copy 164 = .ok (.aload_n 0, 1) := by decide +kernel
theorem dX10_copy_165 : decode cX10_copy 165 = .ok (.getfield 16, 3) := by decide +kernel
theorem dX10_copy_168 : decode cX10_copy 168 = .ok (.bipush 60, 2) := by decide +kernel
theorem dX10_copy_170 : decode cX10_copy 170 = .ok (.iload_n 3, 1) := by decide +kernel
theorem dX10_copy_171 : decode cX10_copy 171 = .ok (.imul, 1) := by decide +kernel
theorem dX10_copy_172 : decode cX10_copy 172 = .ok (.iload 4, 2) := by decide +kernel
theorem dX10_copy_174 : decode cX10_copy 174 = .ok (.iadd, 1) := by decide +kernel
theorem dX10_copy_175 : decode cX10_copy 175 = .ok (.iload 6, 2) := by decide +kernel
theorem dX10_copy_177 : decode cX10_copy 177 = .ok (.iadd, 1) := by decide +kernel
theorem dX10_copy_178 : decode cX10_copy 178 = .ok (.aload_n 0, 1) := by decide +kernel
theorem dX10_copy_179 : decode cX10_copy 179 = .ok (.getfield 19, 3) := by decide +kernel
theorem dX10_copy_182 : decode cX10_copy 182 = .ok (.iload 6, 2) := by decide +kernel
theorem dX10_copy_184 : decode cX10_copy 184 = .ok (.iaload, 1) := by decide +kernel
theorem dX10_copy_185 : decode cX10_copy 185 = .ok (.iastore, 1) := by decide +kernel
theorem dX10_copy_186 : decode cX10_copy 186 = .ok (.iinc 6 1, 3) := by decide +kernel
theorem dX10_copy_189 : decode cX10_copy 189 = .ok (.goto (-32), 3) := by decide +kernel
theorem dX10_copy_192 : decode cX10_copy 192 = .ok (.iconst 1, 1) := by decide +kernel
theorem dX10_copy_193 : decode cX10_copy 193 = .ok (.ireturn, 1) := by decide +kernel
theorem dX10_lengthOf_0 : decode cX10_lengthOf 0 = .ok (.iconst 0, 1) := by decide +kernel
theorem dX10_lengthOf_1 : decode cX10_lengthOf 1 = .ok (.istore_n 2, 1) := by decide +kernel
theorem dX10_lengthOf_2 : decode cX10_lengthOf 2 = .ok (.lload_n 0, 1) := by decide +kernel
theorem dX10_lengthOf_3 : decode cX10_lengthOf 3 = .ok (.lstore_n 3, 1) := by decide +kernel
theorem dX10_lengthOf_4 : decode cX10_lengthOf 4 = .ok (.lload_n 3, 1) := by decide +kernel
theorem dX10_lengthOf_5 : decode cX10_lengthOf 5 = .ok (.lconst 0, 1) := by decide +kernel
theorem dX10_lengthOf_6 : decode cX10_lengthOf 6 = .ok (.lcmp, 1) := by decide +kernel
theorem dX10_lengthOf_7 : decode cX10_lengthOf 7 = .ok (.ifCond .eq 13, 3) := by decide +kernel
theorem dX10_lengthOf_10 : decode cX10_lengthOf 10 = .ok (.iinc 2 1, 3) := by decide +kernel
theorem dX10_lengthOf_13 : decode cX10_lengthOf 13 = .ok (.lload_n 3, 1) := by decide +kernel
theorem dX10_lengthOf_14 : decode cX10_lengthOf 14 = .ok (.iconst 1, 1) := by decide +kernel
theorem dX10_lengthOf_15 : decode cX10_lengthOf 15 = .ok (.lshr, 1) := by decide +kernel
theorem dX10_lengthOf_16 : decode cX10_lengthOf 16 = .ok (.lstore_n 3, 1) := by decide +kernel
theorem dX10_lengthOf_17 : decode cX10_lengthOf 17 = .ok (.goto (-13), 3) := by decide +kernel
theorem dX10_lengthOf_20 : decode cX10_lengthOf 20 = .ok (.iload_n 2, 1) := by decide +kernel
theorem dX10_lengthOf_21 : decode cX10_lengthOf 21 = .ok (.ireturn, 1) := by decide +kernel
theorem dX10_nearest_0 : decode cX10_nearest 0 = .ok (.iload_n 0, 1) := by decide +kernel
theorem dX10_nearest_1 : decode cX10_nearest 1 = .ok (.ifCond .eq 8, 3) := by decide +kernel
theorem dX10_nearest_4 : decode cX10_nearest 4 = .ok (.ldc 113, 2) := by decide +kernel
theorem dX10_nearest_6 : decode cX10_nearest 6 = .ok (.goto 4, 3) := by decide +kernel
theorem dX10_nearest_9 : decode cX10_nearest 9 = .ok (.iconst 0, 1) := by decide +kernel
theorem dX10_nearest_10 : decode cX10_nearest 10 = .ok (.istore 4, 2) := by decide +kernel
theorem dX10_nearest_12 : decode cX10_nearest 12 = .ok (.lload_n 1, 1) := by decide +kernel
theorem dX10_nearest_13 : decode cX10_nearest 13 = .ok (.lconst 0, 1) := by decide +kernel
theorem dX10_nearest_14 : decode cX10_nearest 14 = .ok (.lcmp, 1) := by decide +kernel
theorem dX10_nearest_15 : decode cX10_nearest 15 = .ok (.ifCond .ne 6, 3) := by decide +kernel
theorem dX10_nearest_18 : decode cX10_nearest 18 = .ok (.iload 4, 2) := by decide +kernel
theorem dX10_nearest_20 : decode cX10_nearest 20 = .ok (.ireturn, 1) := by decide +kernel
theorem dX10_nearest_21 : decode cX10_nearest 21 = .ok (.lload_n 1, 1) := by decide +kernel
theorem dX10_nearest_22 : decode cX10_nearest 22 = .ok (.invokestatic 114, 3) := by decide +kernel
theorem dX10_nearest_25 : decode cX10_nearest 25 = .ok (.bipush 24, 2) := by decide +kernel
theorem dX10_nearest_27 : decode cX10_nearest 27 = .ok (.isub, 1) := by decide +kernel
theorem dX10_nearest_28 : decode cX10_nearest 28 = .ok (.istore 5, 2) := by decide +kernel
theorem dX10_nearest_30 : decode cX10_nearest 30 = .ok (.iload_n 3, 1) := by decide +kernel
theorem dX10_nearest_31 : decode cX10_nearest 31 = .ok (.iload 5, 2) := by decide +kernel
theorem dX10_nearest_33 : decode cX10_nearest 33 = .ok (.iadd, 1) := by decide +kernel
theorem dX10_nearest_34 : decode cX10_nearest 34 = .ok (.sipush (-149), 3) := by decide +kernel
theorem dX10_nearest_37 : decode cX10_nearest 37 = .ok (.if_icmp .ge 11, 3) := by decide +kernel
theorem dX10_nearest_40 : decode cX10_nearest 40 = .ok (.sipush (-149), 3) := by decide +kernel
theorem dX10_nearest_43 : decode cX10_nearest 43 = .ok (.iload_n 3, 1) := by decide +kernel
theorem dX10_nearest_44 : decode cX10_nearest 44 = .ok (.isub, 1) := by decide +kernel
theorem dX10_nearest_45 : decode cX10_nearest 45 = .ok (.goto 5, 3) := by decide +kernel
theorem dX10_nearest_48 : decode cX10_nearest 48 = .ok (.iload 5, 2) := by decide +kernel
theorem dX10_nearest_50 : decode cX10_nearest 50 = .ok (.istore 6, 2) := by decide +kernel
theorem dX10_nearest_52 : decode cX10_nearest 52 = .ok (.iload 6, 2) := by decide +kernel
theorem dX10_nearest_54 : decode cX10_nearest 54 = .ok (.ifCond .gt 11, 3) := by decide +kernel
theorem dX10_nearest_57 : decode cX10_nearest 57 = .ok (.lload_n 1, 1) := by decide +kernel
theorem dX10_nearest_58 : decode cX10_nearest 58 = .ok (.iload 6, 2) := by decide +kernel
theorem dX10_nearest_60 : decode cX10_nearest 60 = .ok (.ineg, 1) := by decide +kernel
theorem dX10_nearest_61 : decode cX10_nearest 61 = .ok (.lshl, 1) := by decide +kernel
theorem dX10_nearest_62 : decode cX10_nearest 62 = .ok (.goto 18, 3) := by decide +kernel
theorem dX10_nearest_65 : decode cX10_nearest 65 = .ok (.iload 6, 2) := by decide +kernel
theorem dX10_nearest_67 : decode cX10_nearest 67 = .ok (.bipush 62, 2) := by decide +kernel
theorem dX10_nearest_69 : decode cX10_nearest 69 = .ok (.if_icmp .le 7, 3) := by decide +kernel
theorem dX10_nearest_72 : decode cX10_nearest 72 = .ok (.lconst 0, 1) := by decide +kernel
theorem dX10_nearest_73 : decode cX10_nearest 73 = .ok (.goto 7, 3) := by decide +kernel
theorem dX10_nearest_76 : decode cX10_nearest 76 = .ok (.lload_n 1, 1) := by decide +kernel
theorem dX10_nearest_77 : decode cX10_nearest 77 = .ok (.iload 6, 2) := by decide +kernel
theorem dX10_nearest_79 : decode cX10_nearest 79 = .ok (.lshr, 1) := by decide +kernel
theorem dX10_nearest_80 : decode cX10_nearest 80 = .ok (.lstore 7, 2) := by decide +kernel
theorem dX10_nearest_82 : decode cX10_nearest 82 = .ok (.iload 6, 2) := by decide +kernel
theorem dX10_nearest_84 : decode cX10_nearest 84 = .ok (.ifCond .gt 7, 3) := by decide +kernel
theorem dX10_nearest_87 : decode cX10_nearest 87 = .ok (.lconst 0, 1) := by decide +kernel
theorem dX10_nearest_88 : decode cX10_nearest 88 = .ok (.goto 22, 3) := by decide +kernel
theorem dX10_nearest_91 : decode cX10_nearest 91 = .ok (.iload 6, 2) := by decide +kernel
theorem dX10_nearest_93 : decode cX10_nearest 93 = .ok (.bipush 62, 2) := by decide +kernel
theorem dX10_nearest_95 : decode cX10_nearest 95 = .ok (.if_icmp .le 7, 3) := by decide +kernel
theorem dX10_nearest_98 : decode cX10_nearest 98 = .ok (.lconst 1, 1) := by decide +kernel
theorem dX10_nearest_99 : decode cX10_nearest 99 = .ok (.goto 11, 3) := by decide +kernel
theorem dX10_nearest_102 : decode cX10_nearest 102 = .ok (.lload_n 1, 1) := by decide +kernel
theorem dX10_nearest_103 : decode cX10_nearest 103 = .ok (.lconst 1, 1) := by decide +kernel
theorem dX10_nearest_104 : decode cX10_nearest 104 = .ok (.iload 6, 2) := by decide +kernel
theorem dX10_nearest_106 : decode cX10_nearest 106 = .ok (.lshl, 1) := by decide +kernel
theorem dX10_nearest_107 : decode cX10_nearest 107 = .ok (.lconst 1, 1) := by decide +kernel
theorem dX10_nearest_108 : decode cX10_nearest 108 = .ok (.lsub, 1) := by decide +kernel
theorem dX10_nearest_109 : decode cX10_nearest 109 = .ok (.land, 1) := by decide +kernel
theorem dX10_nearest_110 : decode cX10_nearest 110 = .ok (.lstore 9, 2) := by decide +kernel
theorem dX10_nearest_112 : decode cX10_nearest 112 = .ok (.iload 6, 2) := by decide +kernel
theorem dX10_nearest_114 : decode cX10_nearest 114 = .ok (.ifCond .gt 7, 3) := by decide +kernel
theorem dX10_nearest_117 : decode cX10_nearest 117 = .ok (.lconst 1, 1) := by decide +kernel
theorem dX10_nearest_118 : decode cX10_nearest 118 = .ok (.goto 22, 3) := by decide +kernel
theorem dX10_nearest_121 : decode cX10_nearest 121 = .ok (.iload 6, 2) := by decide +kernel
theorem dX10_nearest_123 : decode cX10_nearest 123 = .ok (.bipush 62, 2) := by decide +kernel
theorem dX10_nearest_125 : decode cX10_nearest 125 = .ok (.if_icmp .le 9, 3) := by decide +kernel
theorem dX10_nearest_128 : decode cX10_nearest 128 = .ok (.ldc2_w 99, 3) := by decide +kernel
theorem dX10_nearest_131 : decode cX10_nearest 131 = .ok (.goto 9, 3) := by decide +kernel
theorem dX10_nearest_134 : decode cX10_nearest 134 = .ok (.lconst 1, 1) := by decide +kernel
theorem dX10_nearest_135 : decode cX10_nearest 135 = .ok (.iload 6, 2) := by decide +kernel
theorem dX10_nearest_137 : decode cX10_nearest 137 = .ok (.iconst 1, 1) := by decide +kernel
theorem dX10_nearest_138 : decode cX10_nearest 138 = .ok (.isub, 1) := by decide +kernel
theorem dX10_nearest_139 : decode cX10_nearest 139 = .ok (.lshl, 1) := by decide +kernel
theorem dX10_nearest_140 : decode cX10_nearest 140 = .ok (.lstore 11, 2) := by decide +kernel
theorem dX10_nearest_142 : decode cX10_nearest 142 = .ok (.lload 9, 2) := by decide +kernel
theorem dX10_nearest_144 : decode cX10_nearest 144 = .ok (.lload 11, 2) := by decide +kernel
theorem dX10_nearest_146 : decode cX10_nearest 146 = .ok (.lcmp, 1) := by decide +kernel
theorem dX10_nearest_147 : decode cX10_nearest 147 = .ok (.ifCond .gt 25, 3) := by decide +kernel
theorem dX10_nearest_150 : decode cX10_nearest 150 = .ok (.lload 9, 2) := by decide +kernel
theorem dX10_nearest_152 : decode cX10_nearest 152 = .ok (.lload 11, 2) := by decide +kernel
theorem dX10_nearest_154 : decode cX10_nearest 154 = .ok (.lcmp, 1) := by decide +kernel
theorem dX10_nearest_155 : decode cX10_nearest 155 = .ok (.ifCond .ne 21, 3) := by decide +kernel
theorem dX10_nearest_158 : decode cX10_nearest 158 = .ok (.iload 6, 2) := by decide +kernel
theorem dX10_nearest_160 : decode cX10_nearest 160 = .ok (.ifCond .le 16, 3) := by decide +kernel
theorem dX10_nearest_163 : decode cX10_nearest 163 = .ok (.lload 7, 2) := by decide +kernel
theorem dX10_nearest_165 : decode cX10_nearest 165 = .ok (.lconst 1, 1) := by decide +kernel
theorem dX10_nearest_166 : decode cX10_nearest 166 = .ok (.land, 1) := by decide +kernel
theorem dX10_nearest_167 : decode cX10_nearest 167 = .ok (.lconst 1, 1) := by decide +kernel
theorem dX10_nearest_168 : decode cX10_nearest 168 = .ok (.lcmp, 1) := by decide +kernel
theorem dX10_nearest_169 : decode cX10_nearest 169 = .ok (.ifCond .ne 7, 3) := by decide +kernel
theorem dX10_nearest_172 : decode cX10_nearest 172 = .ok (.iconst 1, 1) := by decide +kernel
theorem dX10_nearest_173 : decode cX10_nearest 173 = .ok (.goto 4, 3) := by decide +kernel
theorem dX10_nearest_176 : decode cX10_nearest 176 = .ok (.iconst 0, 1) := by decide +kernel
theorem dX10_nearest_177 : decode cX10_nearest 177 = .ok (.istore 13, 2) := by decide +kernel
theorem dX10_nearest_179 : decode cX10_nearest 179 = .ok (.lload 7, 2) := by decide +kernel
theorem dX10_nearest_181 : decode cX10_nearest 181 = .ok (.iload 13, 2) := by decide +kernel
theorem dX10_nearest_183 : decode cX10_nearest 183 = .ok (.ifCond .eq 7, 3) := by decide +kernel
theorem dX10_nearest_186 : decode cX10_nearest 186 = .ok (.lconst 1, 1) := by decide +kernel
theorem dX10_nearest_187 : decode cX10_nearest 187 = .ok (.goto 4, 3) := by decide +kernel
theorem dX10_nearest_190 : decode cX10_nearest 190 = .ok (.lconst 0, 1) := by decide +kernel
theorem dX10_nearest_191 : decode cX10_nearest 191 = .ok (.ladd, 1) := by decide +kernel
theorem dX10_nearest_192 : decode cX10_nearest 192 = .ok (.lstore 7, 2) := by decide +kernel
theorem dX10_nearest_194 : decode cX10_nearest 194 = .ok (.iload_n 3, 1) := by decide +kernel
theorem dX10_nearest_195 : decode cX10_nearest 195 = .ok (.iload 6, 2) := by decide +kernel
theorem dX10_nearest_197 : decode cX10_nearest 197 = .ok (.iadd, 1) := by decide +kernel
theorem dX10_nearest_198 : decode cX10_nearest 198 = .ok (.istore 14, 2) := by decide +kernel
theorem dX10_nearest_200 : decode cX10_nearest 200 = .ok (.lload 7, 2) := by decide +kernel
theorem dX10_nearest_202 : decode cX10_nearest 202 = .ok (.ldc2_w 118, 3) := by decide +kernel
theorem dX10_nearest_205 : decode cX10_nearest 205 = .ok (.lcmp, 1) := by decide +kernel
theorem dX10_nearest_206 : decode cX10_nearest 206 = .ok (.ifCond .ne 11, 3) := by decide +kernel
theorem dX10_nearest_209 : decode cX10_nearest 209 = .ok (.ldc2_w 120, 3) := by decide +kernel
theorem dX10_nearest_212 : decode cX10_nearest 212 = .ok (.lstore 7, 2) := by decide +kernel
theorem dX10_nearest_214 : decode cX10_nearest 214 = .ok (.iinc 14 1, 3) := by decide +kernel
theorem dX10_nearest_217 : decode cX10_nearest 217 = .ok (.lload 7, 2) := by decide +kernel
theorem dX10_nearest_219 : decode cX10_nearest 219 = .ok (.ldc2_w 120, 3) := by decide +kernel
theorem dX10_nearest_222 : decode cX10_nearest 222 = .ok (.lcmp, 1) := by decide +kernel
theorem dX10_nearest_223 : decode cX10_nearest 223 = .ok (.ifCond .ge 10, 3) := by decide +kernel
theorem dX10_nearest_226 : decode cX10_nearest 226 = .ok (.iload 4, 2) := by decide +kernel
theorem dX10_nearest_228 : decode cX10_nearest 228 = .ok (.lload 7, 2) := by decide +kernel
theorem dX10_nearest_230 : decode cX10_nearest 230 = .ok (.l2i, 1) := by decide +kernel
theorem dX10_nearest_231 : decode cX10_nearest 231 = .ok (.ior, 1) := by decide +kernel
theorem dX10_nearest_232 : decode cX10_nearest 232 = .ok (.ireturn, 1) := by decide +kernel
theorem dX10_nearest_233 : decode cX10_nearest 233 = .ok (.iload 14, 2) := by decide +kernel
theorem dX10_nearest_235 : decode cX10_nearest 235 = .ok (.sipush 150, 3) := by decide +kernel
theorem dX10_nearest_238 : decode cX10_nearest 238 = .ok (.iadd, 1) := by decide +kernel
theorem dX10_nearest_239 : decode cX10_nearest 239 = .ok (.istore 15, 2) := by decide +kernel
theorem dX10_nearest_241 : decode cX10_nearest 241 = .ok (.iload 15, 2) := by decide +kernel
theorem dX10_nearest_243 : decode cX10_nearest 243 = .ok (.sipush 255, 3) := by decide +kernel
theorem dX10_nearest_246 : decode cX10_nearest 246 = .ok (.if_icmp .lt 11, 3) := by decide +kernel
theorem dX10_nearest_249 : decode cX10_nearest 249 = .ok (.iload 4, 2) := by decide +kernel
theorem dX10_nearest_251 : decode cX10_nearest 251 = .ok (.ldc 122, 2) := by decide +kernel
theorem dX10_nearest_253 : decode cX10_nearest 253 = .ok (.ior, 1) := by decide +kernel
theorem dX10_nearest_254 : decode cX10_nearest 254 = .ok (.goto 18, 3) := by decide +kernel
theorem dX10_nearest_257 : decode cX10_nearest 257 = .ok (.iload 4, 2) := by decide +kernel
theorem dX10_nearest_259 : decode cX10_nearest 259 = .ok (.iload 15, 2) := by decide +kernel
theorem dX10_nearest_261 : decode cX10_nearest 261 = .ok (.bipush 23, 2) := by decide +kernel
theorem dX10_nearest_263 : decode cX10_nearest 263 = .ok (.ishl, 1) := by decide +kernel
theorem dX10_nearest_264 : decode cX10_nearest 264 = .ok (.ior, 1) := by decide +kernel
theorem dX10_nearest_265 : decode cX10_nearest 265 = .ok (.lload 7, 2) := by decide +kernel
theorem dX10_nearest_267 : decode cX10_nearest 267 = .ok (.l2i, 1) := by decide +kernel
theorem dX10_nearest_268 : decode cX10_nearest 268 = .ok (.ldc 123, 2) := by decide +kernel
theorem dX10_nearest_270 : decode cX10_nearest 270 = .ok (.iand, 1) := by decide +kernel
theorem dX10_nearest_271 : decode cX10_nearest 271 = .ok (.ior, 1) := by decide +kernel
theorem dX10_nearest_272 : decode cX10_nearest 272 = .ok (.ireturn, 1) := by decide +kernel
theorem dX10_isNan_0 : decode cX10_isNan 0 = .ok (.iload_n 0, 1) := by decide +kernel
theorem dX10_isNan_1 : decode cX10_isNan 1 = .ok (.ldc 124, 2) := by decide +kernel
theorem dX10_isNan_3 : decode cX10_isNan 3 = .ok (.iand, 1) := by decide +kernel
theorem dX10_isNan_4 : decode cX10_isNan 4 = .ok (.ldc 122, 2) := by decide +kernel
theorem dX10_isNan_6 : decode cX10_isNan 6 = .ok (.if_icmp .le 7, 3) := by decide +kernel
theorem dX10_isNan_9 : decode cX10_isNan 9 = .ok (.iconst 1, 1) := by decide +kernel
theorem dX10_isNan_10 : decode cX10_isNan 10 = .ok (.goto 4, 3) := by decide +kernel
theorem dX10_isNan_13 : decode cX10_isNan 13 = .ok (.iconst 0, 1) := by decide +kernel
theorem dX10_isNan_14 : decode cX10_isNan 14 = .ok (.ireturn, 1) := by decide +kernel
theorem dX10_isEndless_0 : decode cX10_isEndless 0 = .ok (.iload_n 0, 1) := by decide +kernel
theorem dX10_isEndless_1 : decode cX10_isEndless 1 = .ok (.ldc 124, 2) := by decide +kernel
theorem dX10_isEndless_3 : decode cX10_isEndless 3 = .ok (.iand, 1) := by decide +kernel
theorem dX10_isEndless_4 : decode cX10_isEndless 4 = .ok (.ldc 122, 2) := by decide +kernel
theorem dX10_isEndless_6 : decode cX10_isEndless 6 = .ok (.if_icmp .ne 7, 3) := by decide +kernel
theorem dX10_isEndless_9 : decode cX10_isEndless 9 = .ok (.iconst 1, 1) := by decide +kernel
theorem dX10_isEndless_10 : decode cX10_isEndless 10 = .ok (.goto 4, 3) := by decide +kernel
theorem dX10_isEndless_13 : decode cX10_isEndless 13 = .ok (.iconst 0, 1) := by decide +kernel
theorem dX10_isEndless_14 : decode cX10_isEndless 14 = .ok (.ireturn, 1) := by decide +kernel
theorem dX10_powerOf_0 : decode cX10_powerOf 0 = .ok (.iload_n 0, 1) := by decide +kernel
theorem dX10_powerOf_1 : decode cX10_powerOf 1 = .ok (.bipush 23, 2) := by decide +kernel
theorem dX10_powerOf_3 : decode cX10_powerOf 3 = .ok (.ishr, 1) := by decide +kernel
theorem dX10_powerOf_4 : decode cX10_powerOf 4 = .ok (.sipush 255, 3) := by decide +kernel
theorem dX10_powerOf_7 : decode cX10_powerOf 7 = .ok (.iand, 1) := by decide +kernel
theorem dX10_powerOf_8 : decode cX10_powerOf 8 = .ok (.istore_n 1, 1) := by decide +kernel
theorem dX10_powerOf_9 : decode cX10_powerOf 9 = .ok (.iload_n 1, 1) := by decide +kernel
theorem dX10_powerOf_10 : decode cX10_powerOf 10 = .ok (.ifCond .ne 7, 3) := by decide +kernel
theorem dX10_powerOf_13 : decode cX10_powerOf 13 = .ok (.iconst 1, 1) := by decide +kernel
theorem dX10_powerOf_14 : decode cX10_powerOf 14 = .ok (.goto 4, 3) := by decide +kernel
theorem dX10_powerOf_17 : decode cX10_powerOf 17 = .ok (.iload_n 1, 1) := by decide +kernel
theorem dX10_powerOf_18 : decode cX10_powerOf 18 = .ok (.sipush 150, 3) := by decide +kernel
theorem dX10_powerOf_21 : decode cX10_powerOf 21 = .ok (.isub, 1) := by decide +kernel
theorem dX10_powerOf_22 : decode cX10_powerOf 22 = .ok (.ireturn, 1) := by decide +kernel
theorem dX10_placesOf_0 : decode cX10_placesOf 0 = .ok (.iload_n 0, 1) := by decide +kernel
theorem dX10_placesOf_1 : decode cX10_placesOf 1 = .ok (.bipush 23, 2) := by decide +kernel
theorem dX10_placesOf_3 : decode cX10_placesOf 3 = .ok (.ishr, 1) := by decide +kernel
theorem dX10_placesOf_4 : decode cX10_placesOf 4 = .ok (.sipush 255, 3) := by decide +kernel
theorem dX10_placesOf_7 : decode cX10_placesOf 7 = .ok (.iand, 1) := by decide +kernel
theorem dX10_placesOf_8 : decode cX10_placesOf 8 = .ok (.istore_n 1, 1) := by decide +kernel
theorem dX10_placesOf_9 : decode cX10_placesOf 9 = .ok (.iload_n 1, 1) := by decide +kernel
theorem dX10_placesOf_10 : decode cX10_placesOf 10 = .ok (.ifCond .ne 11, 3) := by decide +kernel
theorem dX10_placesOf_13 : decode cX10_placesOf 13 = .ok (.iload_n 0, 1) := by decide +kernel
theorem dX10_placesOf_14 : decode cX10_placesOf 14 = .ok (.ldc 123, 2) := by decide +kernel
theorem dX10_placesOf_16 : decode cX10_placesOf 16 = .ok (.iand, 1) := by decide +kernel
theorem dX10_placesOf_17 : decode cX10_placesOf 17 = .ok (.i2l, 1) := by decide +kernel
theorem dX10_placesOf_18 : decode cX10_placesOf 18 = .ok (.goto 11, 3) := by decide +kernel
theorem dX10_placesOf_21 : decode cX10_placesOf 21 = .ok (.iload_n 0, 1) := by decide +kernel
theorem dX10_placesOf_22 : decode cX10_placesOf 22 = .ok (.ldc 123, 2) := by decide +kernel
theorem dX10_placesOf_24 : decode cX10_placesOf 24 = .ok (.iand, 1) := by decide +kernel
theorem dX10_placesOf_25 : decode cX10_placesOf 25 = .ok (.ldc 125, 2) := by decide +kernel
theorem dX10_placesOf_27 : decode cX10_placesOf 27 = .ok (.ior, 1) := by decide +kernel
theorem dX10_placesOf_28 : decode cX10_placesOf 28 = .ok (.i2l, 1) := by decide +kernel
theorem dX10_placesOf_29 : decode cX10_placesOf 29 = .ok (.lreturn, 1) := by decide +kernel
theorem dX10_plus_0 : decode cX10_plus 0 = .ok (.iload_n 0, 1) := by decide +kernel
theorem dX10_plus_1 : decode cX10_plus 1 = .ok (.invokestatic 126, 3) := by decide +kernel
theorem dX10_plus_4 : decode cX10_plus 4 = .ok (.ifCond .ne 10, 3) := by decide +kernel
theorem dX10_plus_7 : decode cX10_plus 7 = .ok (.iload_n 1, 1) := by decide +kernel
theorem dX10_plus_8 : decode cX10_plus 8 = .ok (.invokestatic 126, 3) := by decide +kernel
theorem dX10_plus_11 : decode cX10_plus 11 = .ok (.ifCond .eq 6, 3) := by decide +kernel
theorem dX10_plus_14 : decode cX10_plus 14 = .ok (.ldc 129, 2) := by decide +kernel
theorem dX10_plus_16 : decode cX10_plus 16 = .ok (.ireturn, 1) := by decide +kernel
theorem dX10_plus_17 : decode cX10_plus 17 = .ok (.iload_n 0, 1) := by decide +kernel
theorem dX10_plus_18 : decode cX10_plus 18 = .ok (.invokestatic 130, 3) := by decide +kernel
theorem dX10_plus_21 : decode cX10_plus 21 = .ok (.ifCond .eq 22, 3) := by decide +kernel
theorem dX10_plus_24 : decode cX10_plus 24 = .ok (.iload_n 1, 1) := by decide +kernel
theorem dX10_plus_25 : decode cX10_plus 25 = .ok (.invokestatic 130, 3) := by decide +kernel
theorem dX10_plus_28 : decode cX10_plus 28 = .ok (.ifCond .eq 13, 3) := by decide +kernel
theorem dX10_plus_31 : decode cX10_plus 31 = .ok (.iload_n 0, 1) := by decide +kernel
theorem dX10_plus_32 : decode cX10_plus 32 = .ok (.iload_n 1, 1) := by decide +kernel
theorem dX10_plus_33 : decode cX10_plus 33 = .ok (.if_icmp .eq 8, 3) := by decide +kernel
theorem dX10_plus_36 : decode cX10_plus 36 = .ok (.ldc 129, 2) := by decide +kernel
theorem dX10_plus_38 : decode cX10_plus 38 = .ok (.goto 4, 3) := by decide +kernel
theorem dX10_plus_41 : decode cX10_plus 41 = .ok (.iload_n 0, 1) := by decide +kernel
theorem dX10_plus_42 : decode cX10_plus 42 = .ok (.ireturn, 1) := by decide +kernel
theorem dX10_plus_43 : decode cX10_plus 43 = .ok (.iload_n 1, 1) := by decide +kernel
theorem dX10_plus_44 : decode cX10_plus 44 = .ok (.invokestatic 130, 3) := by decide +kernel
theorem dX10_plus_47 : decode cX10_plus 47 = .ok (.ifCond .eq 5, 3) := by decide +kernel
theorem dX10_plus_50 : decode cX10_plus 50 = .ok (.iload_n 1, 1) := by decide +kernel
theorem dX10_plus_51 : decode cX10_plus 51 = .ok (.ireturn, 1) := by decide +kernel
theorem dX10_plus_52 : decode cX10_plus 52 = .ok (.iload_n 0, 1) := by decide +kernel
theorem dX10_plus_53 : decode cX10_plus 53 = .ok (.invokestatic 133, 3) := by decide +kernel
theorem dX10_plus_56 : decode cX10_plus 56 = .ok (.iload_n 1, 1) := by decide +kernel
theorem dX10_plus_57 : decode cX10_plus 57 = .ok (.invokestatic 133, 3) := by decide +kernel
theorem dX10_plus_60 : decode cX10_plus 60 = .ok (.if_icmp .lt 7, 3) := by decide +kernel
theorem dX10_plus_63 : decode cX10_plus 63 = .ok (.iload_n 0, 1) := by decide +kernel
theorem dX10_plus_64 : decode cX10_plus 64 = .ok (.goto 4, 3) := by decide +kernel
theorem dX10_plus_67 : decode cX10_plus 67 = .ok (.iload_n 1, 1) := by decide +kernel
theorem dX10_plus_68 : decode cX10_plus 68 = .ok (.istore_n 2, 1) := by decide +kernel
theorem dX10_plus_69 : decode cX10_plus 69 = .ok (.iload_n 0, 1) := by decide +kernel
theorem dX10_plus_70 : decode cX10_plus 70 = .ok (.invokestatic 133, 3) := by decide +kernel
theorem dX10_plus_73 : decode cX10_plus 73 = .ok (.iload_n 1, 1) := by decide +kernel
theorem dX10_plus_74 : decode cX10_plus 74 = .ok (.invokestatic 133, 3) := by decide +kernel
theorem dX10_plus_77 : decode cX10_plus 77 = .ok (.if_icmp .lt 7, 3) := by decide +kernel
theorem dX10_plus_80 : decode cX10_plus 80 = .ok (.iload_n 1, 1) := by decide +kernel
theorem dX10_plus_81 : decode cX10_plus 81 = .ok (.goto 4, 3) := by decide +kernel
theorem dX10_plus_84 : decode cX10_plus 84 = .ok (.iload_n 0, 1) := by decide +kernel
theorem dX10_plus_85 : decode cX10_plus 85 = .ok (.istore_n 3, 1) := by decide +kernel
theorem dX10_plus_86 : decode cX10_plus 86 = .ok (.iload_n 2, 1) := by decide +kernel
theorem dX10_plus_87 : decode cX10_plus 87 = .ok (.invokestatic 133, 3) := by decide +kernel
theorem dX10_plus_90 : decode cX10_plus 90 = .ok (.iload_n 3, 1) := by decide +kernel
theorem dX10_plus_91 : decode cX10_plus 91 = .ok (.invokestatic 133, 3) := by decide +kernel
theorem dX10_plus_94 : decode cX10_plus 94 = .ok (.isub, 1) := by decide +kernel
theorem dX10_plus_95 : decode cX10_plus 95 = .ok (.istore 4, 2) := by decide +kernel
theorem dX10_plus_97 : decode cX10_plus 97 = .ok (.iload_n 2, 1) := by decide +kernel
theorem dX10_plus_98 : decode cX10_plus 98 = .ok (.invokestatic 136, 3) := by decide +kernel
theorem dX10_plus_101 : decode cX10_plus 101 = .ok (.bipush 36, 2) := by decide +kernel
theorem dX10_plus_103 : decode cX10_plus 103 = .ok (.lshl, 1) := by decide +kernel
theorem dX10_plus_104 : decode cX10_plus 104 = .ok (.lstore 5, 2) := by decide +kernel
theorem dX10_plus_106 : decode cX10_plus 106 = .ok (.iload 4, 2) := by decide +kernel
theorem dX10_plus_108 : decode cX10_plus 108 = .ok (.bipush 36, 2) := by decide +kernel
theorem dX10_plus_110 : decode cX10_plus 110 = .ok (.if_icmp .gt 16, 3) := by decide +kernel
theorem dX10_plus_113 : decode cX10_plus 113 = .ok (.iload_n 3, 1) := by decide +kernel
theorem dX10_plus_114 : decode cX10_plus 114 = .ok (.invokestatic 136, 3) := by decide +kernel
theorem dX10_plus_117 : decode cX10_plus 117 = .ok (.bipush 36, 2) := by decide +kernel
theorem dX10_plus_119 : decode cX10_plus 119 = .ok (.iload 4, 2) := by decide +kernel
theorem dX10_plus_121 : decode cX10_plus 121 = .ok (.isub, 1) := by decide +kernel
theorem dX10_plus_122 : decode cX10_plus 122 = .ok (.lshl, 1) := by decide +kernel
theorem dX10_plus_123 : decode cX10_plus 123 = .ok (.goto 17, 3) := by decide +kernel
theorem dX10_plus_126 : decode cX10_plus 126 = .ok (.iload_n 3, 1) := by decide +kernel
theorem dX10_plus_127 : decode cX10_plus 127 = .ok (.invokestatic 136, 3) := by decide +kernel
theorem dX10_plus_130 : decode cX10_plus 130 = .ok (.lconst 0, 1) := by decide +kernel
theorem dX10_plus_131 : decode cX10_plus 131 = .ok (.lcmp, 1) := by decide +kernel
theorem dX10_plus_132 : decode cX10_plus 132 = .ok (.ifCond .ne 7, 3) := by decide +kernel
theorem dX10_plus_135 : decode cX10_plus 135 = .ok (.lconst 0, 1) := by decide +kernel
theorem dX10_plus_136 : decode cX10_plus 136 = .ok (.goto 4, 3) := by decide +kernel
theorem dX10_plus_139 : decode cX10_plus 139 = .ok (.lconst 1, 1) := by decide +kernel
theorem dX10_plus_140 : decode cX10_plus 140 = .ok (.lstore 7, 2) := by decide +kernel
theorem dX10_plus_142 : decode cX10_plus 142 = .ok (.iload_n 2, 1) := by decide +kernel
theorem dX10_plus_143 : decode cX10_plus 143 = .ok (.ifCond .ge 9, 3) := by decide +kernel
theorem dX10_plus_146 : decode cX10_plus 146 = .ok (.lload 5, 2) := by decide +kernel
theorem dX10_plus_148 : decode cX10_plus 148 = .ok (.lneg, 1) := by decide +kernel
theorem dX10_plus_149 : decode cX10_plus 149 = .ok (.goto 5, 3) := by decide +kernel
theorem dX10_plus_152 : decode cX10_plus 152 = .ok (.lload 5, 2) := by decide +kernel
theorem dX10_plus_154 : decode cX10_plus 154 = .ok (.iload_n 3, 1) := by decide +kernel
theorem dX10_plus_155 : decode cX10_plus 155 = .ok (.ifCond .ge 9, 3) := by decide +kernel
theorem dX10_plus_158 : decode cX10_plus 158 = .ok (.lload 7, 2) := by decide +kernel
theorem dX10_plus_160 : decode cX10_plus 160 = .ok (.lneg, 1) := by decide +kernel
theorem dX10_plus_161 : decode cX10_plus 161 = .ok (.goto 5, 3) := by decide +kernel
theorem dX10_plus_164 : decode cX10_plus 164 = .ok (.lload 7, 2) := by decide +kernel
theorem dX10_plus_166 : decode cX10_plus 166 = .ok (.ladd, 1) := by decide +kernel
theorem dX10_plus_167 : decode cX10_plus 167 = .ok (.lstore 9, 2) := by decide +kernel
theorem dX10_plus_169 : decode cX10_plus 169 = .ok (.lload 9, 2) := by decide +kernel
theorem dX10_plus_171 : decode cX10_plus 171 = .ok (.lconst 0, 1) := by decide +kernel
theorem dX10_plus_172 : decode cX10_plus 172 = .ok (.lcmp, 1) := by decide +kernel
theorem dX10_plus_173 : decode cX10_plus 173 = .ok (.ifCond .ne 18, 3) := by decide +kernel
theorem dX10_plus_176 : decode cX10_plus 176 = .ok (.iload_n 2, 1) := by decide +kernel
theorem dX10_plus_177 : decode cX10_plus 177 = .ok (.ifCond .ge 12, 3) := by decide +kernel
theorem dX10_plus_180 : decode cX10_plus 180 = .ok (.iload_n 3, 1) := by decide +kernel
theorem dX10_plus_181 : decode cX10_plus 181 = .ok (.ifCond .ge 8, 3) := by decide +kernel
theorem dX10_plus_184 : decode cX10_plus 184 = .ok (.ldc 113, 2) := by decide +kernel
theorem dX10_plus_186 : decode cX10_plus 186 = .ok (.goto 4, 3) := by decide +kernel
theorem dX10_plus_189 : decode cX10_plus 189 = .ok (.iconst 0, 1) := by decide +kernel
theorem dX10_plus_190 : decode cX10_plus 190 = .ok (.ireturn, 1) := by decide +kernel
theorem dX10_plus_191 : decode cX10_plus 191 = .ok (.lload 9, 2) := by decide +kernel
theorem dX10_plus_193 : decode cX10_plus 193 = .ok (.lconst 0, 1) := by decide +kernel
theorem dX10_plus_194 : decode cX10_plus 194 = .ok (.lcmp, 1) := by decide +kernel
theorem dX10_plus_195 : decode cX10_plus 195 = .ok (.ifCond .ge 7, 3) := by decide +kernel
theorem dX10_plus_198 : decode cX10_plus 198 = .ok (.iconst 1, 1) := by decide +kernel
theorem dX10_plus_199 : decode cX10_plus 199 = .ok (.goto 4, 3) := by decide +kernel
theorem dX10_plus_202 : decode cX10_plus 202 = .ok (.iconst 0, 1) := by decide +kernel
theorem dX10_plus_203 : decode cX10_plus 203 = .ok (.lload 9, 2) := by decide +kernel
theorem dX10_plus_205 : decode cX10_plus 205 = .ok (.lconst 0, 1) := by decide +kernel
theorem dX10_plus_206 : decode cX10_plus 206 = .ok (.lcmp, 1) := by decide +kernel
theorem dX10_plus_207 : decode cX10_plus 207 = .ok (.ifCond .ge 9, 3) := by decide +kernel
theorem dX10_plus_210 : decode cX10_plus 210 = .ok (.lload 9, 2) := by decide +kernel
theorem dX10_plus_212 : decode cX10_plus 212 = .ok (.lneg, 1) := by decide +kernel
theorem dX10_plus_213 : decode cX10_plus 213 = .ok (.goto 5, 3) := by decide +kernel
theorem dX10_plus_216 : decode cX10_plus 216 = .ok (.lload 9, 2) := by decide +kernel
theorem dX10_plus_218 : decode cX10_plus 218 = .ok (.iload_n 2, 1) := by decide +kernel
theorem dX10_plus_219 : decode cX10_plus 219 = .ok (.invokestatic 133, 3) := by decide +kernel
theorem dX10_plus_222 : decode cX10_plus 222 = .ok (.bipush 36, 2) := by decide +kernel
theorem dX10_plus_224 : decode cX10_plus 224 = .ok (.isub, 1) := by decide +kernel
theorem dX10_plus_225 : decode cX10_plus 225 = .ok (.invokestatic 140, 3) := by decide +kernel
theorem dX10_plus_228 : decode cX10_plus 228 = .ok (.ireturn, 1) := by decide +kernel
theorem dX10_turned_0 : decode cX10_turned 0 = .ok (.iload_n 0, 1) := by decide +kernel
theorem dX10_turned_1 : decode cX10_turned 1 = .ok (.ldc 113, 2) := by decide +kernel
theorem dX10_turned_3 : decode cX10_turned 3 = .ok (.ixor, 1) := by decide +kernel
theorem dX10_turned_4 : decode cX10_turned 4 = .ok (.ireturn, 1) := by decide +kernel
theorem dX10_product_0 : decode cX10_product 0 = .ok (.iload_n 0, 1) := by decide +kernel
theorem dX10_product_1 : decode cX10_product 1 = .ok (.invokestatic 126, 3) := by decide +kernel
theorem dX10_product_4 : decode cX10_product 4 = .ok (.ifCond .ne 10, 3) := by decide +kernel
theorem dX10_product_7 : decode cX10_product 7 = .ok (.iload_n 1, 1) := by decide +kernel
theorem dX10_product_8 : decode cX10_product 8 = .ok (.invokestatic 126, 3) := by decide +kernel
theorem dX10_product_11 : decode cX10_product 11 = .ok (.ifCond .eq 6, 3) := by decide +kernel
theorem dX10_product_14 : decode cX10_product 14 = .ok (.ldc 129, 2) := by decide +kernel
theorem dX10_product_16 : decode cX10_product 16 = .ok (.ireturn, 1) := by decide +kernel
theorem dX10_product_17 : decode cX10_product 17 = .ok (.iload_n 0, 1) := by decide +kernel
theorem dX10_product_18 : decode cX10_product 18 = .ok (.ifCond .ge 7, 3) := by decide +kernel
theorem dX10_product_21 : decode cX10_product 21 = .ok (.iconst 1, 1) := by decide +kernel
theorem dX10_product_22 : decode cX10_product 22 = .ok (.goto 4, 3) := by decide +kernel
theorem dX10_product_25 : decode cX10_product 25 = .ok (.iconst 0, 1) := by decide +kernel
theorem dX10_product_26 : decode cX10_product 26 = .ok (.iload_n 1, 1) := by decide +kernel
theorem dX10_product_27 : decode cX10_product 27 = .ok (.ifCond .ge 7, 3) := by decide +kernel
theorem dX10_product_30 : decode cX10_product 30 = .ok (.iconst 1, 1) := by decide +kernel
theorem dX10_product_31 : decode cX10_product 31 = .ok (.goto 4, 3) := by decide +kernel
theorem dX10_product_34 : decode cX10_product 34 = .ok (.iconst 0, 1) := by decide +kernel
theorem dX10_product_35 : decode cX10_product 35 = .ok (.if_icmp .eq 7, 3) := by decide +kernel
theorem dX10_product_38 : decode cX10_product 38 = .ok (.iconst 1, 1) := by decide +kernel
theorem dX10_product_39 : decode cX10_product 39 = .ok (.goto 4, 3) := by decide +kernel
theorem dX10_product_42 : decode cX10_product 42 = .ok (.iconst 0, 1) := by decide +kernel
theorem dX10_product_43 : decode cX10_product 43 = .ok (.istore_n 2, 1) := by decide +kernel
theorem dX10_product_44 : decode cX10_product 44 = .ok (.iload_n 0, 1) := by decide +kernel
theorem dX10_product_45 : decode cX10_product 45 = .ok (.invokestatic 130, 3) := by decide +kernel
theorem dX10_product_48 : decode cX10_product 48 = .ok (.ifCond .ne 10, 3) := by decide +kernel
theorem dX10_product_51 : decode cX10_product 51 = .ok (.iload_n 1, 1) := by decide +kernel
theorem dX10_product_52 : decode cX10_product 52 = .ok (.invokestatic 130, 3) := by decide +kernel
theorem dX10_product_55 : decode cX10_product 55 = .ok (.ifCond .eq 7, 3) := by decide +kernel
theorem dX10_product_58 : decode cX10_product 58 = .ok (.iconst 1, 1) := by decide +kernel
theorem dX10_product_59 : decode cX10_product 59 = .ok (.goto 4, 3) := by decide +kernel
theorem dX10_product_62 : decode cX10_product 62 = .ok (.iconst 0, 1) := by decide +kernel
theorem dX10_product_63 : decode cX10_product 63 = .ok (.istore_n 3, 1) := by decide +kernel
theorem dX10_product_64 : decode cX10_product 64 = .ok (.iload_n 0, 1) := by decide +kernel
theorem dX10_product_65 : decode cX10_product 65 = .ok (.ldc 124, 2) := by decide +kernel
theorem dX10_product_67 : decode cX10_product 67 = .ok (.iand, 1) := by decide +kernel
theorem dX10_product_68 : decode cX10_product 68 = .ok (.ifCond .eq 10, 3) := by decide +kernel
theorem dX10_product_71 : decode cX10_product 71 = .ok (.iload_n 1, 1) := by decide +kernel
theorem dX10_product_72 : decode cX10_product 72 = .ok (.ldc 124, 2) := by decide +kernel
theorem dX10_product_74 : decode cX10_product 74 = .ok (.iand, 1) := by decide +kernel
theorem dX10_product_75 : decode cX10_product 75 = .ok (.ifCond .ne 7, 3) := by decide +kernel
theorem dX10_product_78 : decode cX10_product 78 = .ok (.iconst 1, 1) := by decide +kernel
theorem dX10_product_79 : decode cX10_product 79 = .ok (.goto 4, 3) := by decide +kernel
theorem dX10_product_82 : decode cX10_product 82 = .ok (.iconst 0, 1) := by decide +kernel
theorem dX10_product_83 : decode cX10_product 83 = .ok (.istore 4, 2) := by decide +kernel
theorem dX10_product_85 : decode cX10_product 85 = .ok (.iload_n 3, 1) := by decide +kernel
theorem dX10_product_86 : decode cX10_product 86 = .ok (.ifCond .eq 25, 3) := by decide +kernel
theorem dX10_product_89 : decode cX10_product 89 = .ok (.iload 4, 2) := by decide +kernel
theorem dX10_product_91 : decode cX10_product 91 = .ok (.ifCond .eq 8, 3) := by decide +kernel
theorem dX10_product_94 : decode cX10_product 94 = .ok (.ldc 129, 2) := by decide +kernel
theorem dX10_product_96 : decode cX10_product 96 = .ok (.goto 14, 3) := by decide +kernel
theorem dX10_product_99 : decode cX10_product 99 = .ok (.iload_n 2, 1) := by decide +kernel
theorem dX10_product_100 : decode cX10_product 100 = .ok (.ifCond .eq 8, 3) := by decide +kernel
theorem dX10_product_103 : decode cX10_product 103 = .ok (.ldc 144, 2) := by decide +kernel
theorem dX10_product_105 : decode cX10_product 105 = .ok (.goto 5, 3) := by decide +kernel
theorem dX10_product_108 : decode cX10_product 108 = .ok (.ldc 122, 2) := by decide +kernel
theorem dX10_product_110 : decode cX10_product 110 = .ok (.ireturn, 1) := by decide +kernel
theorem dX10_product_111 : decode cX10_product 111 = .ok (.iload_n 2, 1) := by decide +kernel
theorem dX10_product_112 : decode cX10_product 112 = .ok (.iload_n 0, 1) := by decide +kernel
theorem dX10_product_113 : decode cX10_product 113 = .ok (.invokestatic 136, 3) := by decide +kernel
theorem dX10_product_116 : decode cX10_product 116 = .ok (.iload_n 1, 1) := by decide +kernel
theorem dX10_product_117 : decode cX10_product 117 = .ok (.invokestatic 136, 3) := by decide +kernel
theorem dX10_product_120 : decode cX10_product 120 = .ok (.lmul, 1) := by decide +kernel
theorem dX10_product_121 : decode cX10_product 121 = .ok (.iload_n 0, 1) := by decide +kernel
theorem dX10_product_122 : decode cX10_product 122 = .ok (.invokestatic 133, 3) := by decide +kernel
theorem dX10_product_125 : decode cX10_product 125 = .ok (.iload_n 1, 1) := by decide +kernel
theorem dX10_product_126 : decode cX10_product 126 = .ok (.invokestatic 133, 3) := by decide +kernel
theorem dX10_product_129 : decode cX10_product 129 = .ok (.iadd, 1) := by decide +kernel
theorem dX10_product_130 : decode cX10_product 130 = .ok (.invokestatic 140, 3) := by decide +kernel
theorem dX10_product_133 : decode cX10_product 133 = .ok (.ireturn, 1) := by decide +kernel
theorem dX10_floatOf_0 : decode cX10_floatOf 0 = .ok (.lload_n 0, 1) := by decide +kernel
theorem dX10_floatOf_1 : decode cX10_floatOf 1 = .ok (.lconst 0, 1) := by decide +kernel
theorem dX10_floatOf_2 : decode cX10_floatOf 2 = .ok (.lcmp, 1) := by decide +kernel
theorem dX10_floatOf_3 : decode cX10_floatOf 3 = .ok (.ifCond .ge 7, 3) := by decide +kernel
theorem dX10_floatOf_6 : decode cX10_floatOf 6 = .ok (.iconst 1, 1) := by decide +kernel
theorem dX10_floatOf_7 : decode cX10_floatOf 7 = .ok (.goto 4, 3) := by decide +kernel
theorem dX10_floatOf_10 : decode cX10_floatOf 10 = .ok (.iconst 0, 1) := by decide +kernel
theorem dX10_floatOf_11 : decode cX10_floatOf 11 = .ok (.lload_n 0, 1) := by decide +kernel
theorem dX10_floatOf_12 : decode cX10_floatOf 12 = .ok (.lconst 0, 1) := by decide +kernel
theorem dX10_floatOf_13 : decode cX10_floatOf 13 = .ok (.lcmp, 1) := by decide +kernel
theorem dX10_floatOf_14 : decode cX10_floatOf 14 = .ok (.ifCond .ge 8, 3) := by decide +kernel
theorem dX10_floatOf_17 : decode cX10_floatOf 17 = .ok (.lload_n 0, 1) := by decide +kernel
theorem dX10_floatOf_18 : decode cX10_floatOf 18 = .ok (.lneg, 1) := by decide +kernel
theorem dX10_floatOf_19 : decode cX10_floatOf 19 = .ok (.goto 4, 3) := by decide +kernel
theorem dX10_floatOf_22 : decode cX10_floatOf 22 = .ok (.lload_n 0, 1) := by decide +kernel
theorem dX10_floatOf_23 : decode cX10_floatOf 23 = .ok (.iconst 0, 1) := by decide +kernel
theorem dX10_floatOf_24 : decode cX10_floatOf 24 = .ok (.invokestatic 140, 3) := by decide +kernel
theorem dX10_floatOf_27 : decode cX10_floatOf 27 = .ok (.ireturn, 1) := by decide +kernel
theorem dX10_place_0 : decode cX10_place 0 = .ok (.iload_n 0, 1) := by decide +kernel
theorem dX10_place_1 : decode cX10_place 1 = .ok (.ifCond .ge 11, 3) := by decide +kernel
theorem dX10_place_4 : decode cX10_place 4 = .ok (.iload_n 0, 1) := by decide +kernel
theorem dX10_place_5 : decode cX10_place 5 = .ok (.ldc 124, 2) := by decide +kernel
theorem dX10_place_7 : decode cX10_place 7 = .ok (.iand, 1) := by decide +kernel
theorem dX10_place_8 : decode cX10_place 8 = .ok (.ineg, 1) := by decide +kernel
theorem dX10_place_9 : decode cX10_place 9 = .ok (.goto 4, 3) := by decide +kernel
theorem dX10_place_12 : decode cX10_place 12 = .ok (.iload_n 0, 1) := by decide +kernel
theorem dX10_place_13 : decode cX10_place 13 = .ok (.ireturn, 1) := by decide +kernel
theorem dX10_isLess_0 : decode cX10_isLess 0 = .ok (.iload_n 0, 1) := by decide +kernel
theorem dX10_isLess_1 : decode cX10_isLess 1 = .ok (.invokestatic 126, 3) := by decide +kernel
theorem dX10_isLess_4 : decode cX10_isLess 4 = .ok (.ifCond .ne 25, 3) := by decide +kernel
theorem dX10_isLess_7 : decode cX10_isLess 7 = .ok (.iload_n 1, 1) := by decide +kernel
theorem dX10_isLess_8 : decode cX10_isLess 8 = .ok (.invokestatic 126, 3) := by decide +kernel
theorem dX10_isLess_11 : decode cX10_isLess 11 = .ok (.ifCond .ne 18, 3) := by decide +kernel
theorem dX10_isLess_14 : decode cX10_isLess 14 = .ok (.iload_n 0, 1) := by decide +kernel
theorem dX10_isLess_15 : decode cX10_isLess 15 = .ok (.invokestatic 145, 3) := by decide +kernel
theorem dX10_isLess_18 : decode cX10_isLess 18 = .ok (.iload_n 1, 1) := by decide +kernel
theorem dX10_isLess_19 : decode cX10_isLess 19 = .ok (.invokestatic 145, 3) := by decide +kernel
theorem dX10_isLess_22 : decode cX10_isLess 22 = .ok (.if_icmp .ge 7, 3) := by decide +kernel
theorem dX10_isLess_25 : decode cX10_isLess 25 = .ok (.iconst 1, 1) := by decide +kernel
theorem dX10_isLess_26 : decode cX10_isLess 26 = .ok (.goto 4, 3) := by decide +kernel
theorem dX10_isLess_29 : decode cX10_isLess 29 = .ok (.iconst 0, 1) := by decide +kernel
theorem dX10_isLess_30 : decode cX10_isLess 30 = .ok (.ireturn, 1) := by decide +kernel
theorem dX10_isCode_0 : decode cX10_isCode 0 = .ok (.iload_n 0, 1) := by decide +kernel
theorem dX10_isCode_1 : decode cX10_isCode 1 = .ok (.i2l, 1) := by decide +kernel
theorem dX10_isCode_2 : decode cX10_isCode 2 = .ok (.lconst 0, 1) := by decide +kernel
theorem dX10_isCode_3 : decode cX10_isCode 3 = .ok (.ldc2_w 148, 3) := by decide +kernel
theorem dX10_isCode_6 : decode cX10_isCode 6 = .ok (.invokestatic 86, 3) := by decide +kernel
theorem dX10_isCode_9 : decode cX10_isCode 9 = .ok (.ifCond .eq 45, 3) := by decide +kernel
theorem dX10_isCode_12 : decode cX10_isCode 12 = .ok (.iload_n 1, 1) := by decide +kernel
theorem dX10_isCode_13 : decode cX10_isCode 13 = .ok (.i2l, 1) := by decide +kernel
theorem dX10_isCode_14 : decode cX10_isCode 14 = .ok (.lconst 0, 1) := by decide +kernel
theorem dX10_isCode_15 : decode cX10_isCode 15 = .ok (.ldc2_w 150, 3) := by decide +kernel
theorem dX10_isCode_18 : decode cX10_isCode 18 = .ok (.invokestatic 86, 3) := by decide +kernel
theorem dX10_isCode_21 : decode cX10_isCode 21 = .ok (.ifCond .eq 33, 3) := by decide +kernel
theorem dX10_isCode_24 : decode cX10_isCode 24 = .ok (.iload_n 2, 1) := by decide +kernel
theorem dX10_isCode_25 : decode cX10_isCode 25 = .ok (.i2l, 1) := by decide +kernel
theorem dX10_isCode_26 : decode cX10_isCode 26 = .ok (.ldc2_w 152, 3) := by decide +kernel
theorem dX10_isCode_29 : decode cX10_isCode 29 = .ok (.ldc2_w 154, 3) := by decide +kernel
theorem dX10_isCode_32 : decode cX10_isCode 32 = .ok (.invokestatic 86, 3) := by decide +kernel
theorem dX10_isCode_35 : decode cX10_isCode 35 = .ok (.ifCond .eq 19, 3) := by decide +kernel
theorem dX10_isCode_38 : decode cX10_isCode 38 = .ok (.iload_n 3, 1) := by decide +kernel
theorem dX10_isCode_39 : decode cX10_isCode 39 = .ok (.i2l, 1) := by decide +kernel
theorem dX10_isCode_40 : decode cX10_isCode 40 = .ok (.lconst 0, 1) := by decide +kernel
theorem dX10_isCode_41 : decode cX10_isCode 41 = .ok (.ldc2_w 156, 3) := by decide +kernel
theorem dX10_isCode_44 : decode cX10_isCode 44 = .ok (.invokestatic 86, 3) := by decide +kernel
theorem dX10_isCode_47 : decode cX10_isCode 47 = .ok (.ifCond .eq 7, 3) := by decide +kernel
theorem dX10_isCode_50 : decode cX10_isCode 50 = .ok (.iconst 1, 1) := by decide +kernel
theorem dX10_isCode_51 : decode cX10_isCode 51 = .ok (.goto 4, 3) := by decide +kernel
theorem dX10_isCode_54 : decode cX10_isCode 54 = .ok (.iconst 0, 1) := by decide +kernel
theorem dX10_isCode_55 : decode cX10_isCode 55 = .ok (.ireturn, 1) := by decide +kernel
theorem dX10_lays_0 : decode cX10_lays 0 = .ok (.aload_n 0, 1) := by decide +kernel
theorem dX10_lays_1 : decode cX10_lays 1 = .ok (.getfield 22, 3) := by decide +kernel
theorem dX10_lays_4 : decode cX10_lays 4 = .ok (.iconst 4, 1) := by decide +kernel
theorem dX10_lays_5 : decode cX10_lays 5 = .ok (.iload_n 1, 1) := by decide +kernel
theorem dX10_lays_6 : decode cX10_lays 6 = .ok (.imul, 1) := by decide +kernel
theorem dX10_lays_7 : decode cX10_lays 7 = .ok (.iload_n 2, 1) := by decide +kernel
theorem dX10_lays_8 : decode cX10_lays 8 = .ok (.iastore, 1) := by decide +kernel
theorem dX10_lays_9 : decode cX10_lays 9 = .ok (.aload_n 0, 1) := by decide +kernel
theorem dX10_lays_10 : decode cX10_lays 10 = .ok (.getfield 22, 3) := by decide +kernel
theorem dX10_lays_13 : decode cX10_lays 13 = .ok (.iconst 4, 1) := by decide +kernel
theorem dX10_lays_14 : decode cX10_lays 14 = .ok (.iload_n 1, 1) := by decide +kernel
theorem dX10_lays_15 : decode cX10_lays 15 = .ok (.imul, 1) := by decide +kernel
theorem dX10_lays_16 : decode cX10_lays 16 = .ok (.iconst 1, 1) := by decide +kernel
theorem dX10_lays_17 : decode cX10_lays 17 = .ok (.iadd, 1) := by decide +kernel
theorem dX10_lays_18 : decode cX10_lays 18 = .ok (.iload_n 3, 1) := by decide +kernel
theorem dX10_lays_19 : decode cX10_lays 19 = .ok (.iastore, 1) := by decide +kernel
theorem dX10_lays_20 : decode cX10_lays 20 = .ok (.aload_n 0, 1) := by decide +kernel
theorem dX10_lays_21 : decode cX10_lays 21 = .ok (.getfield 22, 3) := by decide +kernel
theorem dX10_lays_24 : decode cX10_lays 24 = .ok (.iconst 4, 1) := by decide +kernel
theorem dX10_lays_25 : decode cX10_lays 25 = .ok (.iload_n 1, 1) := by decide +kernel
theorem dX10_lays_26 : decode cX10_lays 26 = .ok (.imul, 1) := by decide +kernel
theorem dX10_lays_27 : decode cX10_lays 27 = .ok (.iconst 2, 1) := by decide +kernel
theorem dX10_lays_28 : decode cX10_lays 28 = .ok (.iadd, 1) := by decide +kernel
theorem dX10_lays_29 : decode cX10_lays 29 = .ok (.iload 4, 2) := by decide +kernel
theorem dX10_lays_31 : decode cX10_lays 31 = .ok (.iastore, 1) := by decide +kernel
theorem dX10_lays_32 : decode cX10_lays 32 = .ok (.aload_n 0, 1) := by decide +kernel
theorem dX10_lays_33 : decode cX10_lays 33 = .ok (.getfield 22, 3) := by decide +kernel
theorem dX10_lays_36 : decode cX10_lays 36 = .ok (.iconst 4, 1) := by decide +kernel
theorem dX10_lays_37 : decode cX10_lays 37 = .ok (.iload_n 1, 1) := by decide +kernel
theorem dX10_lays_38 : decode cX10_lays 38 = .ok (.imul, 1) := by decide +kernel
theorem dX10_lays_39 : decode cX10_lays 39 = .ok (.iconst 3, 1) := by decide +kernel
theorem dX10_lays_40 : decode cX10_lays 40 = .ok (.iadd, 1) := by decide +kernel
theorem dX10_lays_41 : decode cX10_lays 41 = .ok (.iload 5, 2) := by decide +kernel
theorem dX10_lays_43 : decode cX10_lays 43 = .ok (.iastore, 1) := by decide +kernel
theorem dX10_lays_44 : decode cX10_lays 44 = .ok (.return_, 1) := by decide +kernel
theorem dX10_add_0 : decode cX10_add 0 = .ok (.iload_n 1, 1) := by decide +kernel
theorem dX10_add_1 : decode cX10_add 1 = .ok (.iload_n 2, 1) := by decide +kernel
theorem dX10_add_2 : decode cX10_add 2 = .ok (.iload_n 3, 1) := by decide +kernel
theorem dX10_add_3 : decode cX10_add 3 = .ok (.iload 4, 2) := by decide +kernel
theorem dX10_add_5 : decode cX10_add 5 = .ok (.invokestatic 158, 3) := by decide +kernel
theorem dX10_add_8 : decode cX10_add 8 = .ok (.ifCond .ne 6, 3) := by decide +kernel
theorem dX10_add_11 : decode cX10_add 11 = .ok (.bipush (-2), 2) := by decide +kernel
theorem dX10_add_13 : decode cX10_add 13 = .ok (.ireturn, 1) := by decide +kernel
theorem dX10_add_14 : decode cX10_add 14 = .ok (.aload_n 0, 1) := by decide +kernel
theorem dX10_add_15 : decode cX10_add 15 = .ok (.getfield 162, 3) := by decide +kernel
theorem dX10_add_18 : decode cX10_add 18 = .ok (.bipush 24, 2) := by decide +kernel
theorem dX10_add_20 : decode cX10_add 20 = .ok (.if_icmp .ne 6, 3) := by decide +kernel
theorem dX10_add_23 : decode cX10_add 23 = .ok (.bipush (-4), 2) := by decide +kernel
theorem dX10_add_25 : decode cX10_add 25 = .ok (.ireturn, 1) := by decide +kernel
theorem dX10_add_26 : decode cX10_add 26 = .ok (.aload_n 0, 1) := by decide +kernel
theorem dX10_add_27 : decode cX10_add 27 = .ok (.aload_n 0, 1) := by decide +kernel
theorem dX10_add_28 : decode cX10_add 28 = .ok (.getfield 162, 3) := by decide +kernel
theorem dX10_add_31 : decode cX10_add 31 = .ok (.iload_n 1, 1) := by decide +kernel
theorem dX10_add_32 : decode cX10_add 32 = .ok (.iload_n 2, 1) := by decide +kernel
theorem dX10_add_33 : decode cX10_add 33 = .ok (.iload_n 3, 1) := by decide +kernel
theorem dX10_add_34 : decode cX10_add 34 = .ok (.iload 4, 2) := by decide +kernel
theorem dX10_add_36 : decode cX10_add 36 = .ok (.invokevirtual 165, 3) := by decide +kernel
theorem dX10_add_39 : decode cX10_add 39 = .ok (.aload_n 0, 1) := by decide +kernel
theorem dX10_add_40 : decode cX10_add 40 = .ok (.dup, 1) := by decide +kernel
theorem dX10_add_41 : decode cX10_add 41 = .ok (.getfield 162, 3) := by decide +kernel
theorem dX10_add_44 : decode cX10_add 44 = .ok (.iconst 1, 1) := by decide +kernel
theorem dX10_add_45 : decode cX10_add 45 = .ok (.iadd, 1) := by decide +kernel
theorem dX10_add_46 : decode cX10_add 46 = .ok (.putfield 162, 3) := by decide +kernel
theorem dX10_add_49 : decode cX10_add 49 = .ok (.aload_n 0, 1) := by decide +kernel
theorem dX10_add_50 : decode cX10_add 50 = .ok (.getfield 162, 3) := by decide +kernel
theorem dX10_add_53 : decode cX10_add 53 = .ok (.ireturn, 1) := by decide +kernel
theorem dX10_isPoint_0 : decode cX10_isPoint 0 = .ok (.iload_n 1, 1) := by decide +kernel
theorem dX10_isPoint_1 : decode cX10_isPoint 1 = .ok (.i2l, 1) := by decide +kernel
theorem dX10_isPoint_2 : decode cX10_isPoint 2 = .ok (.lconst 0, 1) := by decide +kernel
theorem dX10_isPoint_3 : decode cX10_isPoint 3 = .ok (.aload_n 0, 1) := by decide +kernel
theorem dX10_isPoint_4 : decode cX10_isPoint 4 = .ok (.getfield 162, 3) := by decide +kernel
theorem dX10_isPoint_7 : decode cX10_isPoint 7 = .ok (.iconst 1, 1) := by decide +kernel
theorem dX10_isPoint_8 : decode cX10_isPoint 8 = .ok (.isub, 1) := by decide +kernel
theorem dX10_isPoint_9 : decode cX10_isPoint 9 = .ok (.i2l, 1) := by decide +kernel
theorem dX10_isPoint_10 : decode cX10_isPoint 10 = .ok (.invokestatic 86, 3) := by decide +kernel
theorem dX10_isPoint_13 : decode cX10_isPoint 13 = .ok (.ireturn, 1) := by decide +kernel
theorem dX10_alter_0 : decode cX10_alter 0 = .ok (.aload_n 0, 1) := by decide +kernel
theorem dX10_alter_1 : decode cX10_alter 1 = .ok (.iload_n 1, 1) := by decide +kernel
theorem dX10_alter_2 : decode cX10_alter 2 = .ok (.invokevirtual 169, 3) := by decide +kernel
theorem dX10_alter_5 : decode cX10_alter 5 = .ok (.ifCond .eq 15, 3) := by decide +kernel
theorem dX10_alter_8 : decode cX10_alter 8 = .ok (.iload_n 2, 1) := by decide +kernel
theorem dX10_alter_9 : decode cX10_alter 9 = .ok (.iload_n 3, 1) := by decide +kernel
theorem dX10_alter_10 : decode cX10_alter 10 = .ok (.iload 4, 2) := by decide +kernel
theorem dX10_alter_12 : decode cX10_alter 12 = .ok (.iload 5, 2) := by decide +kernel
theorem dX10_alter_14 : decode cX10_alter 14 = .ok (.invokestatic 158, 3) := by decide +kernel
theorem dX10_alter_17 : decode cX10_alter 17 = .ok (.ifCond .ne 6, 3) := by decide +kernel
theorem dX10_alter_20 : decode cX10_alter 20 = .ok (.bipush (-2), 2) := by decide +kernel
theorem dX10_alter_22 : decode cX10_alter 22 = .ok (.ireturn, 1) := by decide +kernel
theorem dX10_alter_23 : decode cX10_alter 23 = .ok (.aload_n 0, 1) := by decide +kernel
theorem dX10_alter_24 : decode cX10_alter 24 = .ok (.iload_n 1, 1) := by decide +kernel
theorem dX10_alter_25 : decode cX10_alter 25 = .ok (.iload_n 2, 1) := by decide +kernel
theorem dX10_alter_26 : decode cX10_alter 26 = .ok (.iload_n 3, 1) := by decide +kernel
theorem dX10_alter_27 : decode cX10_alter 27 = .ok (.iload 4, 2) := by decide +kernel
theorem dX10_alter_29 : decode cX10_alter 29 = .ok (.iload 5, 2) := by decide +kernel
theorem dX10_alter_31 : decode cX10_alter 31 = .ok (.invokevirtual 165, 3) := by decide +kernel
theorem dX10_alter_34 : decode cX10_alter 34 = .ok (.iconst 1, 1) := by decide +kernel
theorem dX10_alter_35 : decode cX10_alter 35 = .ok (.ireturn, 1) := by decide +kernel
theorem dX10_back_0 : decode cX10_back 0 = .ok (.aload_n 0, 1) := by decide +kernel
theorem dX10_back_1 : decode cX10_back 1 = .ok (.getfield 162, 3) := by decide +kernel
theorem dX10_back_4 : decode cX10_back 4 = .ok (.ifCond .ne 6, 3) := by decide +kernel
theorem dX10_back_7 : decode cX10_back 7 = .ok (.bipush (-3), 2) := by decide +kernel
theorem dX10_back_9 : decode cX10_back 9 = .ok (.ireturn, 1) := by decide +kernel
theorem dX10_back_10 : decode cX10_back 10 = .ok (.aload_n 0, 1) := by decide +kernel
theorem dX10_back_11 : decode cX10_back 11 = .ok (.dup, 1) := by decide +kernel
theorem dX10_back_12 : decode cX10_back 12 = .ok (.getfield 162, 3) := by decide +kernel
theorem dX10_back_15 : decode cX10_back 15 = .ok (.iconst 1, 1) := by decide +kernel
theorem dX10_back_16 : decode cX10_back 16 = .ok (.isub, 1) := by decide +kernel
theorem dX10_back_17 : decode cX10_back 17 = .ok (.putfield 162, 3) := by decide +kernel
theorem dX10_back_20 : decode cX10_back 20 = .ok (.aload_n 0, 1) := by decide +kernel
theorem dX10_back_21 : decode cX10_back 21 = .ok (.getfield 162, 3) := by decide +kernel
theorem dX10_back_24 : decode cX10_back 24 = .ok (.ireturn, 1) := by decide +kernel
theorem dX10_code_0 : decode cX10_code 0 = .ok (.aload_n 0, 1) := by decide +kernel
theorem dX10_code_1 : decode cX10_code 1 = .ok (.iload_n 1, 1) := by decide +kernel
theorem dX10_code_2 : decode cX10_code 2 = .ok (.invokevirtual 169, 3) := by decide +kernel
theorem dX10_code_5 : decode cX10_code 5 = .ok (.ifCond .eq 28, 3) := by decide +kernel
theorem dX10_code_8 : decode cX10_code 8 = .ok (.iload_n 2, 1) := by decide +kernel
theorem dX10_code_9 : decode cX10_code 9 = .ok (.i2l, 1) := by decide +kernel
theorem dX10_code_10 : decode cX10_code 10 = .ok (.lconst 0, 1) := by decide +kernel
theorem dX10_code_11 : decode cX10_code 11 = .ok (.ldc2_w 93, 3) := by decide +kernel
theorem dX10_code_14 : decode cX10_code 14 = .ok (.invokestatic 86, 3) := by decide +kernel
theorem dX10_code_17 : decode cX10_code 17 = .ok (.ifCond .eq 16, 3) := by decide +kernel
theorem dX10_code_20 : decode cX10_code 20 = .ok (.aload_n 0, 1) := by decide +kernel
theorem dX10_code_21 : decode cX10_code 21 = .ok (.getfield 22, 3) := by decide +kernel
theorem dX10_code_24 : decode cX10_code 24 = .ok (.iconst 4, 1) := by decide +kernel
theorem dX10_code_25 : decode cX10_code 25 = .ok (.iload_n 1, 1) := by decide +kernel
theorem dX10_code_26 : decode cX10_code 26 = .ok (.imul, 1) := by decide +kernel
theorem dX10_code_27 : decode cX10_code 27 = .ok (.iload_n 2, 1) := by decide +kernel
theorem dX10_code_28 : decode cX10_code 28 = .ok (.iadd, 1) := by decide +kernel
theorem dX10_code_29 : decode cX10_code 29 = .ok (.iaload, 1) := by decide +kernel
theorem dX10_code_30 : decode cX10_code 30 = .ok (.goto 5, 3) := by decide +kernel
theorem dX10_code_33 : decode cX10_code 33 = .ok (.ldc 113, 2) := by decide +kernel
theorem dX10_code_35 : decode cX10_code 35 = .ok (.ireturn, 1) := by decide +kernel
theorem dX10_isRegister_0 : decode cX10_isRegister 0 = .ok (.iload_n 0, 1) := by decide +kernel
theorem dX10_isRegister_1 : decode cX10_isRegister 1 = .ok (.i2l, 1) := by decide +kernel
theorem dX10_isRegister_2 : decode cX10_isRegister 2 = .ok (.lconst 0, 1) := by decide +kernel
theorem dX10_isRegister_3 : decode cX10_isRegister 3 = .ok (.ldc2_w 156, 3) := by decide +kernel
theorem dX10_isRegister_6 : decode cX10_isRegister 6 = .ok (.invokestatic 86, 3) := by decide +kernel
theorem dX10_isRegister_9 : decode cX10_isRegister 9 = .ok (.ireturn, 1) := by decide +kernel
theorem dX10_load_0 : decode cX10_load 0 = .ok (.iload_n 1, 1) := by decide +kernel
theorem dX10_load_1 : decode cX10_load 1 = .ok (.invokestatic 172, 3) := by decide +kernel
theorem dX10_load_4 : decode cX10_load 4 = .ok (.ifCond .eq 10, 3) := by decide +kernel
theorem dX10_load_7 : decode cX10_load 7 = .ok (.iload_n 2, 1) := by decide +kernel
theorem dX10_load_8 : decode cX10_load 8 = .ok (.invokestatic 175, 3) := by decide +kernel
theorem dX10_load_11 : decode cX10_load 11 = .ok (.ifCond .ne 6, 3) := by decide +kernel
theorem dX10_load_14 : decode cX10_load 14 = .ok (.bipush (-2), 2) := by decide +kernel
theorem dX10_load_16 : decode cX10_load 16 = .ok (.ireturn, 1) := by decide +kernel
theorem dX10_load_17 : decode cX10_load 17 = .ok (.aload_n 0, 1) := by decide +kernel
theorem dX10_load_18 : decode cX10_load 18 = .ok (.getfield 25, 3) := by decide +kernel
theorem dX10_load_21 : decode cX10_load 21 = .ok (.iload_n 1, 1) := by decide +kernel
theorem dX10_load_22 : decode cX10_load 22 = .ok (.iload_n 2, 1) := by decide +kernel
theorem dX10_load_23 : decode cX10_load 23 = .ok (.iastore, 1) := by decide +kernel
theorem dX10_load_24 : decode cX10_load 24 = .ok (.aload_n 0, 1) := by decide +kernel
theorem dX10_load_25 : decode cX10_load 25 = .ok (.getfield 28, 3) := by decide +kernel
theorem dX10_load_28 : decode cX10_load 28 = .ok (.iload_n 1, 1) := by decide +kernel
theorem dX10_load_29 : decode cX10_load 29 = .ok (.iload_n 2, 1) := by decide +kernel
theorem dX10_load_30 : decode cX10_load 30 = .ok (.ifCond .ne 7, 3) := by decide +kernel
theorem dX10_load_33 : decode cX10_load 33 = .ok (.iload_n 3, 1) := by decide +kernel
theorem dX10_load_34 : decode cX10_load 34 = .ok (.goto 13, 3) := by decide +kernel
theorem dX10_load_37 : decode cX10_load 37 = .ok (.iload_n 3, 1) := by decide +kernel
theorem dX10_load_38 : decode cX10_load 38 = .ok (.i2l, 1) := by decide +kernel
theorem dX10_load_39 : decode cX10_load 39 = .ok (.invokestatic 178, 3) := by decide +kernel
theorem dX10_load_42 : decode cX10_load 42 = .ok (.ldc 181, 2) := by decide +kernel
theorem dX10_load_44 : decode cX10_load 44 = .ok (.invokestatic 182, 3) := by decide +kernel
theorem dX10_load_47 : decode cX10_load 47 = .ok (.iastore, 1) := by decide +kernel
theorem dX10_load_48 : decode cX10_load 48 = .ok (.iconst 1, 1) := by decide +kernel
theorem dX10_load_49 : decode cX10_load 49 = .ok (.ireturn, 1) := by decide +kernel
theorem dX10_set_0 : decode cX10_set 0 = .ok (.iload_n 1, 1) := by decide +kernel
theorem dX10_set_1 : decode cX10_set 1 = .ok (.ifCond .ne 27, 3) := by decide +kernel
theorem dX10_set_4 : decode cX10_set 4 = .ok (.iload_n 2, 1) := by decide +kernel
theorem dX10_set_5 : decode cX10_set 5 = .ok (.i2l, 1) := by decide +kernel
theorem dX10_set_6 : decode cX10_set 6 = .ok (.lconst 0, 1) := by decide +kernel
theorem dX10_set_7 : decode cX10_set 7 = .ok (.ldc2_w 185, 3) := by decide +kernel
theorem dX10_set_10 : decode cX10_set 10 = .ok (.invokestatic 86, 3) := by decide +kernel
theorem dX10_set_13 : decode cX10_set 13 = .ok (.ifCond .eq 15, 3) := by decide +kernel
theorem dX10_set_16 : decode cX10_set 16 = .ok (.aload_n 0, 1) := by decide +kernel
theorem dX10_set_17 : decode cX10_set 17 = .ok (.getfield 79, 3) := by decide +kernel
theorem dX10_set_20 : decode cX10_set 20 = .ok (.istore_n 3, 1) := by decide +kernel
theorem dX10_set_21 : decode cX10_set 21 = .ok (.aload_n 0, 1) := by decide +kernel
theorem dX10_set_22 : decode cX10_set 22 = .ok (.iload_n 2, 1) := by decide +kernel
theorem dX10_set_23 : decode cX10_set 23 = .ok (.putfield 79, 3) := by decide +kernel
theorem dX10_set_26 : decode cX10_set 26 = .ok (.iload_n 3, 1) := by decide +kernel
theorem dX10_set_27 : decode cX10_set 27 = .ok (.ireturn, 1) := by decide +kernel
theorem dX10_set_28 : decode cX10_set 28 = .ok (.iload_n 1, 1) := by decide +kernel
theorem dX10_set_29 : decode cX10_set 29 = .ok (.iconst 1, 1) := by decide +kernel
theorem dX10_set_30 : decode cX10_set 30 = .ok (.if_icmp .ne 29, 3) := by decide +kernel
theorem dX10_set_33 : decode cX10_set 33 = .ok (.iload_n 2, 1) := by decide +kernel
theorem dX10_set_34 : decode cX10_set 34 = .ok (.i2l, 1) := by decide +kernel
theorem dX10_set_35 : decode cX10_set 35 = .ok (.ldc2_w 99, 3) := by decide +kernel
theorem dX10_set_38 : decode cX10_set 38 = .ok (.ldc2_w 148, 3) := by decide +kernel
theorem dX10_set_41 : decode cX10_set 41 = .ok (.invokestatic 86, 3) := by decide +kernel
theorem dX10_set_44 : decode cX10_set 44 = .ok (.ifCond .eq 15, 3) := by decide +kernel
theorem dX10_set_47 : decode cX10_set 47 = .ok (.aload_n 0, 1) := by decide +kernel
theorem dX10_set_48 : decode cX10_set 48 = .ok (.getfield 83, 3) := by decide +kernel
theorem dX10_set_51 : decode cX10_set 51 = .ok (.istore_n 3, 1) := by decide +kernel
theorem dX10_set_52 : decode cX10_set 52 = .ok (.aload_n 0, 1) := by decide +kernel
theorem dX10_set_53 : decode cX10_set 53 = .ok (.iload_n 2, 1) := by decide +kernel
theorem dX10_set_54 : decode cX10_set 54 = .ok (.putfield 83, 3) := by decide +kernel
theorem dX10_set_57 : decode cX10_set 57 = .ok (.iload_n 3, 1) := by decide +kernel
theorem dX10_set_58 : decode cX10_set 58 = .ok (.ireturn, 1) := by decide +kernel
theorem dX10_set_59 : decode cX10_set 59 = .ok (.bipush (-2), 2) := by decide +kernel
theorem dX10_set_61 : decode cX10_set 61 = .ok (.ireturn, 1) := by decide +kernel
theorem dX10_read_0 : decode cX10_read 0 = .ok (.iload_n 1, 1) := by decide +kernel
theorem dX10_read_1 : decode cX10_read 1 = .ok (.invokestatic 95, 3) := by decide +kernel
theorem dX10_read_4 : decode cX10_read 4 = .ok (.ifCond .ne 6, 3) := by decide +kernel
theorem dX10_read_7 : decode cX10_read 7 = .ok (.bipush (-2), 2) := by decide +kernel
theorem dX10_read_9 : decode cX10_read 9 = .ok (.ireturn, 1) := by decide +kernel
theorem dX10_read_10 : decode cX10_read 10 = .ok (.aload_n 0, 1) := by decide +kernel
theorem dX10_read_11 : decode cX10_read 11 = .ok (.getfield 7, 3) := by decide +kernel
theorem dX10_read_14 : decode cX10_read 14 = .ok (.iload_n 1, 1) := by decide +kernel
theorem dX10_read_15 : decode cX10_read 15 = .ok (.iaload, 1) := by decide +kernel
theorem dX10_read_16 : decode cX10_read 16 = .ok (.ifCond .ge 9, 3) := by decide +kernel
theorem dX10_read_19 : decode cX10_read 19 = .ok (.aload_n 0, 1) := by decide +kernel
theorem dX10_read_20 : decode cX10_read 20 = .ok (.iconst 1, 1) := by decide +kernel
theorem dX10_read_21 : decode cX10_read 21 = .ok (.invokevirtual 101, 3) := by decide +kernel
theorem dX10_read_24 : decode cX10_read 24 = .ok (.ireturn, 1) := by decide +kernel
theorem dX10_read_25 : decode cX10_read 25 = .ok (.iconst 0, 1) := by decide +kernel
theorem dX10_read_26 : decode cX10_read 26 = .ok (.istore_n 2, 1) := by decide +kernel
theorem dX10_read_27 : decode cX10_read 27 = .ok (.iconst 1, 1) := by decide +kernel
theorem dX10_read_28 : decode cX10_read 28 = .ok (.istore_n 3, 1) := by decide +kernel
theorem dX10_read_29 : decode cX10_read 29 = .ok (.iload_n 3, 1) := by decide +kernel
theorem dX10_read_30 : decode cX10_read 30 = .ok (.ifCond .eq 89, 3) := by decide +kernel
theorem dX10_read_33 : decode cX10_read 33 = .ok (.iconst 4, 1) := by decide +kernel
theorem dX10_read_34 : decode cX10_read 34 = .ok (.iload_n 2, 1) := by decide +kernel
theorem dX10_read_35 : decode cX10_read 35 = .ok (.imul, 1) := by decide +kernel
theorem dX10_read_36 : decode cX10_read 36 = .ok (.iconst 4, 1) := by decide +kernel
theorem dX10_read_37 : decode cX10_read 37 = .ok (.iadd, 1) := by decide +kernel
theorem dX10_read_38 : decode cX10_read 38 = .ok (.aload_n 0, 1) := by decide +kernel
theorem dX10_read_39 : decode cX10_read 39 = .ok (.getfield 13, 3) := by decide +kernel
theorem dX10_read_42 : decode cX10_read 42 = .ok (.iload_n 1, 1) := by decide +kernel
theorem dX10_read_43 : decode cX10_read 43 = .ok (.iaload, 1) := by decide +kernel
theorem dX10_read_44 : decode cX10_read 44 = .ok (.if_icmp .gt 75, 3) := by decide +kernel
theorem dX10_read_47 : decode cX10_read 47 = .ok (.bipush 60, 2) := by decide +kernel
theorem dX10_read_49 : decode cX10_read 49 = .ok (.iload_n 1, 1) := by decide +kernel
theorem dX10_read_50 : decode cX10_read 50 = .ok (.imul, 1) := by decide +kernel
theorem dX10_read_51 : decode cX10_read 51 = .ok (.iconst 4, 1) := by decide +kernel
theorem dX10_read_52 : decode cX10_read 52 = .ok (.iload_n 2, 1) := by decide +kernel
theorem dX10_read_53 : decode cX10_read 53 = .ok (.imul, 1) := by decide +kernel
theorem dX10_read_54 : decode cX10_read 54 = .ok (.iadd, 1) := by decide +kernel
theorem dX10_read_55 : decode cX10_read 55 = .ok (.istore 4, 2) := by decide +kernel
theorem dX10_read_57 : decode cX10_read 57 = .ok (.aload_n 0, 1) := by decide +kernel
theorem dX10_read_58 : decode cX10_read 58 = .ok (.aload_n 0, 1) := by decide +kernel
theorem dX10_read_59 : decode cX10_read 59 = .ok (.getfield 16, 3) := by decide +kernel
theorem dX10_read_62 : decode cX10_read 62 = .ok (.iload 4, 2) := by decide +kernel
theorem dX10_read_64 : decode cX10_read 64 = .ok (.iaload, 1) := by decide +kernel
theorem dX10_read_65 : decode cX10_read 65 = .ok (.aload_n 0, 1) := by decide +kernel
theorem dX10_read_66 : decode cX10_read 66 = .ok (.getfield 16, 3) := by decide +kernel
theorem dX10_read_69 : decode cX10_read 69 = .ok (.iload 4, 2) := by decide +kernel
theorem dX10_read_71 : decode cX10_read 71 = .ok (.iconst 1, 1) := by decide +kernel
theorem dX10_read_72 : decode cX10_read 72 = .ok (.iadd, 1) := by decide +kernel
theorem dX10_read_73 : decode cX10_read 73 = .ok (.iaload, 1) := by decide +kernel
theorem dX10_read_74 : decode cX10_read 74 = .ok (.aload_n 0, 1) := by decide +kernel
theorem dX10_read_75 : decode cX10_read 75 = .ok (.getfield 16, 3) := by decide +kernel
theorem dX10_read_78 : decode cX10_read 78 = .ok (.iload 4, 2) := by decide +kernel
theorem dX10_read_80 : decode cX10_read 80 = .ok (.iconst 2, 1) := by decide +kernel
theorem dX10_read_81 : decode cX10_read 81 = .ok (.iadd, 1) := by decide +kernel
theorem dX10_read_82 : decode cX10_read 82 = .ok (.iaload, 1) := by decide +kernel
theorem dX10_read_83 : decode cX10_read 83 = .ok (.aload_n 0, 1) := by decide +kernel
theorem dX10_read_84 : decode cX10_read 84 = .ok (.getfield 16, 3) := by decide +kernel
theorem dX10_read_87 : decode cX10_read 87 = .ok (.iload 4, 2) := by decide +kernel
theorem dX10_read_89 : decode cX10_read 89 = .ok (.iconst 3, 1) := by decide +kernel
theorem dX10_read_90 : decode cX10_read 90 = .ok (.iadd, 1) := by decide +kernel
theorem dX10_read_91 : decode cX10_read 91 = .ok (.iaload, 1) := by decide +kernel
theorem dX10_read_92 : decode cX10_read 92 = .ok (.invokevirtual 187, 3) := by decide +kernel
theorem dX10_read_95 : decode cX10_read 95 = .ok (.ifCond .lt 7, 3) := by decide +kernel
theorem dX10_read_98 : decode cX10_read 98 = .ok (.iconst 1, 1) := by decide +kernel
theorem dX10_read_99 : decode cX10_read 99 = .ok (.goto 4, 3) := by decide +kernel
theorem dX10_read_102 : decode cX10_read 102 = .ok (.iconst 0, 1) := by decide +kernel
theorem dX10_read_103 : decode cX10_read 103 = .ok (.istore_n 3, 1) := by decide +kernel
theorem dX10_read_104 : decode cX10_read 104 = .ok (.iload_n 2, 1) := by decide +kernel
theorem dX10_read_105 : decode cX10_read 105 = .ok (.iload_n 3, 1) := by decide +kernel
theorem dX10_read_106 : decode cX10_read 106 = .ok (.ifCond .eq 7, 3) := by decide +kernel
theorem dX10_read_109 : decode cX10_read 109 = .ok (.iconst 1, 1) := by decide +kernel
theorem dX10_read_110 : decode cX10_read 110 = .ok (.goto 4, 3) := by decide +kernel
theorem dX10_read_113 : decode cX10_read 113 = .ok (.iconst 0, 1) := by decide +kernel
theorem dX10_read_114 : decode cX10_read 114 = .ok (.iadd, 1) := by decide +kernel
theorem dX10_read_115 : decode cX10_read 115 = .ok (.istore_n 2, 1) := by decide +kernel
theorem dX10_read_116 : decode cX10_read 116 = .ok (.goto (-87), 3) := by decide +kernel
theorem dX10_read_119 : decode cX10_read 119 = .ok (.iload_n 2, 1) := by decide +kernel
theorem dX10_read_120 : decode cX10_read 120 = .ok (.ireturn, 1) := by decide +kernel
theorem dX10_x_0 : decode cX10_x 0 = .ok (.aload_n 0, 1) := by decide +kernel
theorem dX10_x_1 : decode cX10_x 1 = .ok (.getfield 22, 3) := by decide +kernel
theorem dX10_x_4 : decode cX10_x 4 = .ok (.iconst 4, 1) := by decide +kernel
theorem dX10_x_5 : decode cX10_x 5 = .ok (.iload_n 1, 1) := by decide +kernel
theorem dX10_x_6 : decode cX10_x 6 = .ok (.imul, 1) := by decide +kernel
theorem dX10_x_7 : decode cX10_x 7 = .ok (.iconst 1, 1) := by decide +kernel
theorem dX10_x_8 : decode cX10_x 8 = .ok (.iadd, 1) := by decide +kernel
theorem dX10_x_9 : decode cX10_x 9 = .ok (.iaload, 1) := by decide +kernel
theorem dX10_x_10 : decode cX10_x 10 = .ok (.bipush 8, 2) := by decide +kernel
theorem dX10_x_12 : decode cX10_x 12 = .ok (.irem, 1) := by decide +kernel
theorem dX10_x_13 : decode cX10_x 13 = .ok (.ireturn, 1) := by decide +kernel
theorem dX10_y_0 : decode cX10_y 0 = .ok (.aload_n 0, 1) := by decide +kernel
theorem dX10_y_1 : decode cX10_y 1 = .ok (.getfield 22, 3) := by decide +kernel
theorem dX10_y_4 : decode cX10_y 4 = .ok (.iconst 4, 1) := by decide +kernel
theorem dX10_y_5 : decode cX10_y 5 = .ok (.iload_n 1, 1) := by decide +kernel
theorem dX10_y_6 : decode cX10_y 6 = .ok (.imul, 1) := by decide +kernel
theorem dX10_y_7 : decode cX10_y 7 = .ok (.iconst 2, 1) := by decide +kernel
theorem dX10_y_8 : decode cX10_y 8 = .ok (.iadd, 1) := by decide +kernel
theorem dX10_y_9 : decode cX10_y 9 = .ok (.iaload, 1) := by decide +kernel
theorem dX10_y_10 : decode cX10_y 10 = .ok (.bipush 8, 2) := by decide +kernel
theorem dX10_y_12 : decode cX10_y 12 = .ok (.irem, 1) := by decide +kernel
theorem dX10_y_13 : decode cX10_y 13 = .ok (.bipush 8, 2) := by decide +kernel
theorem dX10_y_15 : decode cX10_y 15 = .ok (.iadd, 1) := by decide +kernel
theorem dX10_y_16 : decode cX10_y 16 = .ok (.bipush 8, 2) := by decide +kernel
theorem dX10_y_18 : decode cX10_y 18 = .ok (.irem, 1) := by decide +kernel
theorem dX10_y_19 : decode cX10_y 19 = .ok (.ireturn, 1) := by decide +kernel
theorem dX10_z_0 : decode cX10_z 0 = .ok (.aload_n 0, 1) := by decide +kernel
theorem dX10_z_1 : decode cX10_z 1 = .ok (.getfield 22, 3) := by decide +kernel
theorem dX10_z_4 : decode cX10_z 4 = .ok (.iconst 4, 1) := by decide +kernel
theorem dX10_z_5 : decode cX10_z 5 = .ok (.iload_n 1, 1) := by decide +kernel
theorem dX10_z_6 : decode cX10_z 6 = .ok (.imul, 1) := by decide +kernel
theorem dX10_z_7 : decode cX10_z 7 = .ok (.iconst 3, 1) := by decide +kernel
theorem dX10_z_8 : decode cX10_z 8 = .ok (.iadd, 1) := by decide +kernel
theorem dX10_z_9 : decode cX10_z 9 = .ok (.iaload, 1) := by decide +kernel
theorem dX10_z_10 : decode cX10_z 10 = .ok (.ireturn, 1) := by decide +kernel
theorem dX10_asFloat_0 : decode cX10_asFloat 0 = .ok (.aload_n 0, 1) := by decide +kernel
theorem dX10_asFloat_1 : decode cX10_asFloat 1 = .ok (.getfield 31, 3) := by decide +kernel
theorem dX10_asFloat_4 : decode cX10_asFloat 4 = .ok (.iload_n 1, 1) := by decide +kernel
theorem dX10_asFloat_5 : decode cX10_asFloat 5 = .ok (.iaload, 1) := by decide +kernel
theorem dX10_asFloat_6 : decode cX10_asFloat 6 = .ok (.iconst 1, 1) := by decide +kernel
theorem dX10_asFloat_7 : decode cX10_asFloat 7 = .ok (.if_icmp .ne 12, 3) := by decide +kernel
theorem dX10_asFloat_10 : decode cX10_asFloat 10 = .ok (.aload_n 0, 1) := by decide +kernel
theorem dX10_asFloat_11 : decode cX10_asFloat 11 = .ok (.getfield 34, 3) := by decide +kernel
theorem dX10_asFloat_14 : decode cX10_asFloat 14 = .ok (.iload_n 1, 1) := by decide +kernel
theorem dX10_asFloat_15 : decode cX10_asFloat 15 = .ok (.iaload, 1) := by decide +kernel
theorem dX10_asFloat_16 : decode cX10_asFloat 16 = .ok (.goto 13, 3) := by decide +kernel
theorem dX10_asFloat_19 : decode cX10_asFloat 19 = .ok (.aload_n 0, 1) := by decide +kernel
theorem dX10_asFloat_20 : decode cX10_asFloat 20 = .ok (.getfield 34, 3) := by decide +kernel
theorem dX10_asFloat_23 : decode cX10_asFloat 23 = .ok (.iload_n 1, 1) := by decide +kernel
theorem dX10_asFloat_24 : decode cX10_asFloat 24 = .ok (.iaload, 1) := by decide +kernel
theorem dX10_asFloat_25 : decode cX10_asFloat 25 = .ok (.i2l, 1) := by decide +kernel
theorem dX10_asFloat_26 : decode cX10_asFloat 26 = .ok (.invokestatic 178, 3) := by decide +kernel
theorem dX10_asFloat_29 : decode cX10_asFloat 29 = .ok (.ireturn, 1) := by decide +kernel
theorem dX10_whole_0 : decode cX10_whole 0 = .ok (.aload_n 0, 1) := by decide +kernel
theorem dX10_whole_1 : decode cX10_whole 1 = .ok (.lload_n 1, 1) := by decide +kernel
theorem dX10_whole_2 : decode cX10_whole 2 = .ok (.lload_n 1, 1) := by decide +kernel
theorem dX10_whole_3 : decode cX10_whole 3 = .ok (.l2i, 1) := by decide +kernel
theorem dX10_whole_4 : decode cX10_whole 4 = .ok (.i2l, 1) := by decide +kernel
theorem dX10_whole_5 : decode cX10_whole 5 = .ok (.lcmp, 1) := by decide +kernel
theorem dX10_whole_6 : decode cX10_whole 6 = .ok (.ifCond .ne 7, 3) := by decide +kernel
theorem dX10_whole_9 : decode cX10_whole 9 = .ok (.iconst 0, 1) := by decide +kernel
theorem dX10_whole_10 : decode cX10_whole 10 = .ok (.goto 4, 3) := by decide +kernel
theorem dX10_whole_13 : decode cX10_whole 13 = .ok (.iconst 1, 1) := by decide +kernel
theorem dX10_whole_14 : decode cX10_whole 14 = .ok (.putfield 191, 3) := by decide +kernel
theorem dX10_whole_17 : decode cX10_whole 17 = .ok (.aload_n 0, 1) := by decide +kernel
theorem dX10_whole_18 : decode cX10_whole 18 = .ok (.aload_n 0, 1) := by decide +kernel
theorem dX10_whole_19 : decode cX10_whole 19 = .ok (.getfield 191, 3) := by decide +kernel
theorem dX10_whole_22 : decode cX10_whole 22 = .ok (.ifCond .ne 8, 3) := by decide +kernel
theorem dX10_whole_25 : decode cX10_whole 25 = .ok (.lload_n 1, 1) := by decide +kernel
theorem dX10_whole_26 : decode cX10_whole 26 = .ok (.l2i, 1) := by decide +kernel
theorem dX10_whole_27 : decode cX10_whole 27 = .ok (.goto 7, 3) := by decide +kernel
theorem dX10_whole_30 : decode cX10_whole 30 = .ok (.lload_n 1, 1) := by decide +kernel
theorem dX10_whole_31 : decode cX10_whole 31 = .ok (.invokestatic 178, 3) := by decide +kernel
theorem dX10_whole_34 : decode cX10_whole 34 = .ok (.putfield 194, 3) := by decide +kernel
theorem dX10_whole_37 : decode cX10_whole 37 = .ok (.return_, 1) := by decide +kernel
theorem dX10_sums_0 : decode cX10_sums 0 = .ok (.aload_n 0, 1) := by decide +kernel
theorem dX10_sums_1 : decode cX10_sums 1 = .ok (.getfield 31, 3) := by decide +kernel
theorem dX10_sums_4 : decode cX10_sums 4 = .ok (.iload_n 2, 1) := by decide +kernel
theorem dX10_sums_5 : decode cX10_sums 5 = .ok (.iaload, 1) := by decide +kernel
theorem dX10_sums_6 : decode cX10_sums 6 = .ok (.ifCond .ne 68, 3) := by decide +kernel
theorem dX10_sums_9 : decode cX10_sums 9 = .ok (.aload_n 0, 1) := by decide +kernel
theorem dX10_sums_10 : decode cX10_sums 10 = .ok (.getfield 31, 3) := by decide +kernel
theorem dX10_sums_13 : decode cX10_sums 13 = .ok (.iload_n 3, 1) := by decide +kernel
theorem dX10_sums_14 : decode cX10_sums 14 = .ok (.iaload, 1) := by decide +kernel
theorem dX10_sums_15 : decode cX10_sums 15 = .ok (.ifCond .ne 59, 3) := by decide +kernel
theorem dX10_sums_18 : decode cX10_sums 18 = .ok (.aload_n 0, 1) := by decide +kernel
theorem dX10_sums_19 : decode cX10_sums 19 = .ok (.getfield 34, 3) := by decide +kernel
theorem dX10_sums_22 : decode cX10_sums 22 = .ok (.iload_n 2, 1) := by decide +kernel
theorem dX10_sums_23 : decode cX10_sums 23 = .ok (.iaload, 1) := by decide +kernel
theorem dX10_sums_24 : decode cX10_sums 24 = .ok (.i2l, 1) := by decide +kernel
theorem dX10_sums_25 : decode cX10_sums 25 = .ok (.lstore 4, 2) := by decide +kernel
theorem dX10_sums_27 : decode cX10_sums 27 = .ok (.aload_n 0, 1) := by decide +kernel
theorem dX10_sums_28 : decode cX10_sums 28 = .ok (.getfield 34, 3) := by decide +kernel
theorem dX10_sums_31 : decode cX10_sums 31 = .ok (.iload_n 3, 1) := by decide +kernel
theorem dX10_sums_32 : decode cX10_sums 32 = .ok (.iaload, 1) := by decide +kernel
theorem dX10_sums_33 : decode cX10_sums 33 = .ok (.i2l, 1) := by decide +kernel
theorem dX10_sums_34 : decode cX10_sums 34 = .ok (.lstore 6, 2) := by decide +kernel
theorem dX10_sums_36 : decode cX10_sums 36 = .ok (.aload_n 0, 1) := by decide +kernel
theorem dX10_sums_37 : decode cX10_sums 37 = .ok (.iload_n 1, 1) := by decide +kernel
theorem dX10_sums_38 : decode cX10_sums 38 = .ok (.iconst 2, 1) := by decide +kernel
theorem dX10_sums_39 : decode cX10_sums 39 = .ok (.if_icmp .ne 11, 3) := by decide +kernel
theorem dX10_sums_42 : decode cX10_sums 42 = .ok (.lload 4, 2) := by decide +kernel
theorem dX10_sums_44 : decode cX10_sums 44 = .ok (.lload 6, 2) := by decide +kernel
theorem dX10_sums_46 : decode cX10_sums 46 = .ok (.ladd, 1) := by decide +kernel
theorem dX10_sums_47 : decode cX10_sums 47 = .ok (.goto 21, 3) := by decide +kernel
theorem dX10_sums_50 : decode cX10_sums 50 = .ok (.iload_n 1, 1) := by decide +kernel
theorem dX10_sums_51 : decode cX10_sums 51 = .ok (.iconst 3, 1) := by decide +kernel
theorem dX10_sums_52 : decode cX10_sums 52 = .ok (.if_icmp .ne 11, 3) := by decide +kernel
theorem dX10_sums_55 : decode cX10_sums 55 = .ok (.lload 4, 2) := by decide +kernel
theorem dX10_sums_57 : decode cX10_sums 57 = .ok (.lload 6, 2) := by decide +kernel
theorem dX10_sums_59 : decode cX10_sums 59 = .ok (.lsub, 1) := by decide +kernel
theorem dX10_sums_60 : decode cX10_sums 60 = .ok (.goto 8, 3) := by decide +kernel
theorem dX10_sums_63 : decode cX10_sums 63 = .ok (.lload 4, 2) := by decide +kernel
theorem dX10_sums_65 : decode cX10_sums 65 = .ok (.lload 6, 2) := by decide +kernel
theorem dX10_sums_67 : decode cX10_sums 67 = .ok (.lmul, 1) := by decide +kernel
theorem dX10_sums_68 : decode cX10_sums 68 = .ok (.invokevirtual 197, 3) := by decide +kernel
theorem dX10_sums_71 : decode cX10_sums 71 = .ok (.goto 63, 3) := by decide +kernel
theorem dX10_sums_74 : decode cX10_sums 74 = .ok (.aload_n 0, 1) := by decide +kernel
theorem dX10_sums_75 : decode cX10_sums 75 = .ok (.iload_n 2, 1) := by decide +kernel
theorem dX10_sums_76 : decode cX10_sums 76 = .ok (.invokevirtual 201, 3) := by decide +kernel
theorem dX10_sums_79 : decode cX10_sums 79 = .ok (.istore 4, 2) := by decide +kernel
theorem dX10_sums_81 : decode cX10_sums 81 = .ok (.aload_n 0, 1) := by decide +kernel
theorem dX10_sums_82 : decode cX10_sums 82 = .ok (.iload_n 3, 1) := by decide +kernel
theorem dX10_sums_83 : decode cX10_sums 83 = .ok (.invokevirtual 201, 3) := by decide +kernel
theorem dX10_sums_86 : decode cX10_sums 86 = .ok (.istore 5, 2) := by decide +kernel
theorem dX10_sums_88 : decode cX10_sums 88 = .ok (.aload_n 0, 1) := by decide +kernel
theorem dX10_sums_89 : decode cX10_sums 89 = .ok (.iconst 1, 1) := by decide +kernel
theorem dX10_sums_90 : decode cX10_sums 90 = .ok (.putfield 191, 3) := by decide +kernel
theorem dX10_sums_93 : decode cX10_sums 93 = .ok (.aload_n 0, 1) := by decide +kernel
theorem dX10_sums_94 : decode cX10_sums 94 = .ok (.iload_n 1, 1) := by decide +kernel
theorem dX10_sums_95 : decode cX10_sums 95 = .ok (.iconst 2, 1) := by decide +kernel
theorem dX10_sums_96 : decode cX10_sums 96 = .ok (.if_icmp .ne 13, 3) := by decide +kernel
theorem dX10_sums_99 : decode cX10_sums 99 = .ok (.iload 4, 2) := by decide +kernel
theorem dX10_sums_101 : decode cX10_sums 101 = .ok (.iload 5, 2) := by decide +kernel
theorem dX10_sums_103 : decode cX10_sums 103 = .ok (.invokestatic 204, 3) := by decide +kernel
theorem dX10_sums_106 : decode cX10_sums 106 = .ok (.goto 25, 3) := by decide +kernel
theorem dX10_sums_109 : decode cX10_sums 109 = .ok (.iload_n 1, 1) := by decide +kernel
theorem dX10_sums_110 : decode cX10_sums 110 = .ok (.iconst 3, 1) := by decide +kernel
theorem dX10_sums_111 : decode cX10_sums 111 = .ok (.if_icmp .ne 13, 3) := by decide +kernel
theorem dX10_sums_114 : decode cX10_sums 114 = .ok (.iload 4, 2) := by decide +kernel
theorem dX10_sums_116 : decode cX10_sums 116 = .ok (.iload 5, 2) := by decide +kernel
theorem dX10_sums_118 : decode cX10_sums 118 = .ok (.invokestatic 207, 3) := by decide +kernel
theorem dX10_sums_121 : decode cX10_sums 121 = .ok (.goto 10, 3) := by decide +kernel
theorem dX10_sums_124 : decode cX10_sums 124 = .ok (.iload 4, 2) := by decide +kernel
theorem dX10_sums_126 : decode cX10_sums 126 = .ok (.iload 5, 2) := by decide +kernel
theorem dX10_sums_128 : decode cX10_sums 128 = .ok (.invokestatic 182, 3) := by decide +kernel
theorem dX10_sums_131 : decode cX10_sums 131 = .ok (.putfield 194, 3) := by decide +kernel
theorem dX10_sums_134 : decode cX10_sums 134 = .ok (.return_, 1) := by decide +kernel
theorem dX10_minus_0 : decode cX10_minus 0 = .ok (.iload_n 1, 1) := by decide +kernel
theorem dX10_minus_1 : decode cX10_minus 1 = .ok (.invokestatic 126, 3) := by decide +kernel
theorem dX10_minus_4 : decode cX10_minus 4 = .ok (.ifCond .eq 8, 3) := by decide +kernel
theorem dX10_minus_7 : decode cX10_minus 7 = .ok (.ldc 129, 2) := by decide +kernel
theorem dX10_minus_9 : decode cX10_minus 9 = .ok (.goto 11, 3) := by decide +kernel
theorem dX10_minus_12 : decode cX10_minus 12 = .ok (.iload_n 0, 1) := by decide +kernel
theorem dX10_minus_13 : decode cX10_minus 13 = .ok (.iload_n 1, 1) := by decide +kernel
theorem dX10_minus_14 : decode cX10_minus 14 = .ok (.invokestatic 210, 3) := by decide +kernel
theorem dX10_minus_17 : decode cX10_minus 17 = .ok (.invokestatic 204, 3) := by decide +kernel
theorem dX10_minus_20 : decode cX10_minus 20 = .ok (.ireturn, 1) := by decide +kernel
theorem dX10_halves_0 : decode cX10_halves 0 = .ok (.aload_n 0, 1) := by decide +kernel
theorem dX10_halves_1 : decode cX10_halves 1 = .ok (.getfield 31, 3) := by decide +kernel
theorem dX10_halves_4 : decode cX10_halves 4 = .ok (.iload_n 1, 1) := by decide +kernel
theorem dX10_halves_5 : decode cX10_halves 5 = .ok (.iaload, 1) := by decide +kernel
theorem dX10_halves_6 : decode cX10_halves 6 = .ok (.ifCond .ne 18, 3) := by decide +kernel
theorem dX10_halves_9 : decode cX10_halves 9 = .ok (.aload_n 0, 1) := by decide +kernel
theorem dX10_halves_10 : decode cX10_halves 10 = .ok (.getfield 34, 3) := by decide +kernel
theorem dX10_halves_13 : decode cX10_halves 13 = .ok (.iload_n 1, 1) := by decide +kernel
theorem dX10_halves_14 : decode cX10_halves 14 = .ok (.iaload, 1) := by decide +kernel
theorem dX10_halves_15 : decode cX10_halves 15 = .ok (.iconst 2, 1) := by decide +kernel
theorem dX10_halves_16 : decode cX10_halves 16 = .ok (.irem, 1) := by decide +kernel
theorem dX10_halves_17 : decode cX10_halves 17 = .ok (.ifCond .ne 7, 3) := by decide +kernel
theorem dX10_halves_20 : decode cX10_halves 20 = .ok (.iconst 1, 1) := by decide +kernel
theorem dX10_halves_21 : decode cX10_halves 21 = .ok (.goto 4, 3) := by decide +kernel
theorem dX10_halves_24 : decode cX10_halves 24 = .ok (.iconst 0, 1) := by decide +kernel
theorem dX10_halves_25 : decode cX10_halves 25 = .ok (.istore_n 2, 1) := by decide +kernel
theorem dX10_halves_26 : decode cX10_halves 26 = .ok (.aload_n 0, 1) := by decide +kernel
theorem dX10_halves_27 : decode cX10_halves 27 = .ok (.iload_n 2, 1) := by decide +kernel
theorem dX10_halves_28 : decode cX10_halves 28 = .ok (.ifCond .eq 7, 3) := by decide +kernel
theorem dX10_halves_31 : decode cX10_halves 31 = .ok (.iconst 0, 1) := by decide +kernel
theorem dX10_halves_32 : decode cX10_halves 32 = .ok (.goto 4, 3) := by decide +kernel
theorem dX10_halves_35 : decode cX10_halves 35 = .ok (.iconst 1, 1) := by decide +kernel
theorem dX10_halves_36 : decode cX10_halves 36 = .ok (.putfield 191, 3) := by decide +kernel
theorem dX10_halves_39 : decode cX10_halves 39 = .ok (.aload_n 0, 1) := by decide +kernel
theorem dX10_halves_40 : decode cX10_halves 40 = .ok (.iload_n 2, 1) := by decide +kernel
theorem dX10_halves_41 : decode cX10_halves 41 = .ok (.ifCond .eq 14, 3) := by decide +kernel
theorem dX10_halves_44 : decode cX10_halves 44 = .ok (.aload_n 0, 1) := by decide +kernel
theorem dX10_halves_45 : decode cX10_halves 45 = .ok (.getfield 34, 3) := by decide +kernel
theorem dX10_halves_48 : decode cX10_halves 48 = .ok (.iload_n 1, 1) := by decide +kernel
theorem dX10_halves_49 : decode cX10_halves 49 = .ok (.iaload, 1) := by decide +kernel
theorem dX10_halves_50 : decode cX10_halves 50 = .ok (.iconst 2, 1) := by decide +kernel
theorem dX10_halves_51 : decode cX10_halves 51 = .ok (.idiv, 1) := by decide +kernel
theorem dX10_halves_52 : decode cX10_halves 52 = .ok (.goto 13, 3) := by decide +kernel
theorem dX10_halves_55 : decode cX10_halves 55 = .ok (.aload_n 0, 1) := by decide +kernel
theorem dX10_halves_56 : decode cX10_halves 56 = .ok (.iload_n 1, 1) := by decide +kernel
theorem dX10_halves_57 : decode cX10_halves 57 = .ok (.invokevirtual 201, 3) := by decide +kernel
theorem dX10_halves_60 : decode cX10_halves 60 = .ok (.ldc 213, 2) := by decide +kernel
theorem dX10_halves_62 : decode cX10_halves 62 = .ok (.invokestatic 182, 3) := by decide +kernel
theorem dX10_halves_65 : decode cX10_halves 65 = .ok (.putfield 194, 3) := by decide +kernel
theorem dX10_halves_68 : decode cX10_halves 68 = .ok (.return_, 1) := by decide +kernel
theorem dX10_less_0 : decode cX10_less 0 = .ok (.aload_n 0, 1) := by decide +kernel
theorem dX10_less_1 : decode cX10_less 1 = .ok (.getfield 31, 3) := by decide +kernel
theorem dX10_less_4 : decode cX10_less 4 = .ok (.iload_n 1, 1) := by decide +kernel
theorem dX10_less_5 : decode cX10_less 5 = .ok (.iaload, 1) := by decide +kernel
theorem dX10_less_6 : decode cX10_less 6 = .ok (.ifCond .ne 35, 3) := by decide +kernel
theorem dX10_less_9 : decode cX10_less 9 = .ok (.aload_n 0, 1) := by decide +kernel
theorem dX10_less_10 : decode cX10_less 10 = .ok (.getfield 31, 3) := by decide +kernel
theorem dX10_less_13 : decode cX10_less 13 = .ok (.iload_n 2, 1) := by decide +kernel
theorem dX10_less_14 : decode cX10_less 14 = .ok (.iaload, 1) := by decide +kernel
theorem dX10_less_15 : decode cX10_less 15 = .ok (.ifCond .ne 26, 3) := by decide +kernel
theorem dX10_less_18 : decode cX10_less 18 = .ok (.aload_n 0, 1) := by decide +kernel
theorem dX10_less_19 : decode cX10_less 19 = .ok (.getfield 34, 3) := by decide +kernel
theorem dX10_less_22 : decode cX10_less 22 = .ok (.iload_n 1, 1) := by decide +kernel
theorem dX10_less_23 : decode cX10_less 23 = .ok (.iaload, 1) := by decide +kernel
theorem dX10_less_24 : decode cX10_less 24 = .ok (.aload_n 0, 1) := by decide +kernel
theorem dX10_less_25 : decode cX10_less 25 = .ok (.getfield 34, 3) := by decide +kernel
theorem dX10_less_28 : decode cX10_less 28 = .ok (.iload_n 2, 1) := by decide +kernel
theorem dX10_less_29 : decode cX10_less 29 = .ok (.iaload, 1) := by decide +kernel
theorem dX10_less_30 : decode cX10_less 30 = .ok (.if_icmp .ge 7, 3) := by decide +kernel
theorem dX10_less_33 : decode cX10_less 33 = .ok (.iconst 1, 1) := by decide +kernel
theorem dX10_less_34 : decode cX10_less 34 = .ok (.goto 20, 3) := by decide +kernel
theorem dX10_less_37 : decode cX10_less 37 = .ok (.iconst 0, 1) := by decide +kernel
theorem dX10_less_38 : decode cX10_less 38 = .ok (.goto 16, 3) := by decide +kernel
theorem dX10_less_41 : decode cX10_less 41 = .ok (.aload_n 0, 1) := by decide +kernel
theorem dX10_less_42 : decode cX10_less 42 = .ok (.iload_n 1, 1) := by decide +kernel
theorem dX10_less_43 : decode cX10_less 43 = .ok (.invokevirtual 201, 3) := by decide +kernel
theorem dX10_less_46 : decode cX10_less 46 = .ok (.aload_n 0, 1) := by decide +kernel
theorem dX10_less_47 : decode cX10_less 47 = .ok (.iload_n 2, 1) := by decide +kernel
theorem dX10_less_48 : decode cX10_less 48 = .ok (.invokevirtual 201, 3) := by decide +kernel
theorem dX10_less_51 : decode cX10_less 51 = .ok (.invokestatic 214, 3) := by decide +kernel
theorem dX10_less_54 : decode cX10_less 54 = .ok (.ireturn, 1) := by decide +kernel
theorem dX10_prepares_0 : decode cX10_prepares 0 = .ok (.aload_n 0, 1) := by decide +kernel
theorem dX10_prepares_1 : decode cX10_prepares 1 = .ok (.getfield 22, 3) := by decide +kernel
theorem dX10_prepares_4 : decode cX10_prepares 4 = .ok (.iconst 4, 1) := by decide +kernel
theorem dX10_prepares_5 : decode cX10_prepares 5 = .ok (.iload_n 1, 1) := by decide +kernel
theorem dX10_prepares_6 : decode cX10_prepares 6 = .ok (.imul, 1) := by decide +kernel
theorem dX10_prepares_7 : decode cX10_prepares 7 = .ok (.iaload, 1) := by decide +kernel
theorem dX10_prepares_8 : decode cX10_prepares 8 = .ok (.istore_n 2, 1) := by decide +kernel
theorem dX10_prepares_9 : decode cX10_prepares 9 = .ok (.aload_n 0, 1) := by decide +kernel
theorem dX10_prepares_10 : decode cX10_prepares 10 = .ok (.iconst 0, 1) := by decide +kernel
theorem dX10_prepares_11 : decode cX10_prepares 11 = .ok (.putfield 218, 3) := by decide +kernel
theorem dX10_prepares_14 : decode cX10_prepares 14 = .ok (.aload_n 0, 1) := by decide +kernel
theorem dX10_prepares_15 : decode cX10_prepares 15 = .ok (.iconst 0, 1) := by decide +kernel
theorem dX10_prepares_16 : decode cX10_prepares 16 = .ok (.putfield 191, 3) := by decide +kernel
theorem dX10_prepares_19 : decode cX10_prepares 19 = .ok (.aload_n 0, 1) := by decide +kernel
theorem dX10_prepares_20 : decode cX10_prepares 20 = .ok (.iconst 0, 1) := by decide +kernel
theorem dX10_prepares_21 : decode cX10_prepares 21 = .ok (.putfield 194, 3) := by decide +kernel
theorem dX10_prepares_24 : decode cX10_prepares 24 = .ok (.iload_n 2, 1) := by decide +kernel
theorem dX10_prepares_25 : decode cX10_prepares 25 = .ok (.tableswitch 183 0 8 #[51, 68, 99, 99, 99, 117, 129, 150, 158], 51) := by decide +kernel
theorem dX10_prepares_76 : decode cX10_prepares 76 = .ok (.aload_n 0, 1) := by decide +kernel
theorem dX10_prepares_77 : decode cX10_prepares 77 = .ok (.aload_n 0, 1) := by decide +kernel
theorem dX10_prepares_78 : decode cX10_prepares 78 = .ok (.getfield 22, 3) := by decide +kernel
theorem dX10_prepares_81 : decode cX10_prepares 81 = .ok (.iconst 4, 1) := by decide +kernel
theorem dX10_prepares_82 : decode cX10_prepares 82 = .ok (.iload_n 1, 1) := by decide +kernel
theorem dX10_prepares_83 : decode cX10_prepares 83 = .ok (.imul, 1) := by decide +kernel
theorem dX10_prepares_84 : decode cX10_prepares 84 = .ok (.iconst 2, 1) := by decide +kernel
theorem dX10_prepares_85 : decode cX10_prepares 85 = .ok (.iadd, 1) := by decide +kernel
theorem dX10_prepares_86 : decode cX10_prepares 86 = .ok (.iaload, 1) := by decide +kernel
theorem dX10_prepares_87 : decode cX10_prepares 87 = .ok (.putfield 194, 3) := by decide +kernel
theorem dX10_prepares_90 : decode cX10_prepares 90 = .ok (.goto 118, 3) := by decide +kernel
theorem dX10_prepares_93 : decode cX10_prepares 93 = .ok (.aload_n 0, 1) := by decide +kernel
theorem dX10_prepares_94 : decode cX10_prepares 94 = .ok (.aload_n 0, 1) := by decide +kernel
theorem dX10_prepares_95 : decode cX10_prepares 95 = .ok (.getfield 31, 3) := by decide +kernel
theorem dX10_prepares_98 : decode cX10_prepares 98 = .ok (.aload_n 0, 1) := by decide +kernel
theorem dX10_prepares_99 : decode cX10_prepares 99 = .ok (.iload_n 1, 1) := by decide +kernel
theorem dX10_prepares_100 : decode cX10_prepares 100 = .ok (.invokevirtual 222, 3) := by decide +kernel
theorem dX10_prepares_103 : decode cX10_prepares 103 = .ok (.iaload, 1) := by decide +kernel
theorem dX10_prepares_104 : decode cX10_prepares 104 = .ok (.putfield 191, 3) := by decide +kernel
theorem dX10_prepares_107 : decode cX10_prepares 107 = .ok (.aload_n 0, 1) := by decide +kernel
theorem dX10_prepares_108 : decode cX10_prepares 108 = .ok (.aload_n 0, 1) := by decide +kernel
theorem dX10_prepares_109 : decode cX10_prepares 109 = .ok (.getfield 34, 3) := by decide +kernel
theorem dX10_prepares_112 : decode cX10_prepares 112 = .ok (.aload_n 0, 1) := by decide +kernel
theorem dX10_prepares_113 : decode cX10_prepares 113 = .ok (.iload_n 1, 1) := by decide +kernel
theorem dX10_prepares_114 : decode cX10_prepares 114 = .ok (.invokevirtual 222, 3) := by decide +kernel
theorem dX10_prepares_117 : decode cX10_prepares 117 = .ok (.iaload, 1) := by decide +kernel
theorem dX10_prepares_118 : decode cX10_prepares 118 = .ok (.putfield 194, 3) := by decide +kernel
theorem dX10_prepares_121 : decode cX10_prepares 121 = .ok (.goto 87, 3) := by decide +kernel
theorem dX10_prepares_124 : decode cX10_prepares 124 = .ok (.aload_n 0, 1) := by decide +kernel
theorem dX10_prepares_125 : decode cX10_prepares 125 = .ok (.iload_n 2, 1) := by decide +kernel
theorem dX10_prepares_126 : decode cX10_prepares 126 = .ok (.aload_n 0, 1) := by decide +kernel
theorem dX10_prepares_127 : decode cX10_prepares 127 = .ok (.iload_n 1, 1) := by decide +kernel
theorem dX10_prepares_128 : decode cX10_prepares 128 = .ok (.invokevirtual 225, 3) := by decide +kernel
theorem dX10_prepares_131 : decode cX10_prepares 131 = .ok (.aload_n 0, 1) := by decide +kernel
theorem dX10_prepares_132 : decode cX10_prepares 132 = .ok (.iload_n 1, 1) := by decide +kernel
theorem dX10_prepares_133 : decode cX10_prepares 133 = .ok (.invokevirtual 222, 3) := by decide +kernel
theorem dX10_prepares_136 : decode cX10_prepares 136 = .ok (.invokevirtual 228, 3) := by decide +kernel
theorem dX10_prepares_139 : decode cX10_prepares 139 = .ok (.goto 69, 3) := by decide +kernel
theorem dX10_prepares_142 : decode cX10_prepares 142 = .ok (.aload_n 0, 1) := by decide +kernel
theorem dX10_prepares_143 : decode cX10_prepares 143 = .ok (.aload_n 0, 1) := by decide +kernel
theorem dX10_prepares_144 : decode cX10_prepares 144 = .ok (.iload_n 1, 1) := by decide +kernel
theorem dX10_prepares_145 : decode cX10_prepares 145 = .ok (.invokevirtual 222, 3) := by decide +kernel
theorem dX10_prepares_148 : decode cX10_prepares 148 = .ok (.invokevirtual 232, 3) := by decide +kernel
theorem dX10_prepares_151 : decode cX10_prepares 151 = .ok (.goto 57, 3) := by decide +kernel
theorem dX10_prepares_154 : decode cX10_prepares 154 = .ok (.aload_n 0, 1) := by decide +kernel
theorem dX10_prepares_155 : decode cX10_prepares 155 = .ok (.aload_n 0, 1) := by decide +kernel
theorem dX10_prepares_156 : decode cX10_prepares 156 = .ok (.aload_n 0, 1) := by decide +kernel
theorem dX10_prepares_157 : decode cX10_prepares 157 = .ok (.iload_n 1, 1) := by decide +kernel
theorem dX10_prepares_158 : decode cX10_prepares 158 = .ok (.invokevirtual 225, 3) := by decide +kernel
theorem dX10_prepares_161 : decode cX10_prepares 161 = .ok (.aload_n 0, 1) := by decide +kernel
theorem dX10_prepares_162 : decode cX10_prepares 162 = .ok (.iload_n 1, 1) := by decide +kernel
theorem dX10_prepares_163 : decode cX10_prepares 163 = .ok (.invokevirtual 222, 3) := by decide +kernel
theorem dX10_prepares_166 : decode cX10_prepares 166 = .ok (.invokevirtual 236, 3) := by decide +kernel
theorem dX10_prepares_169 : decode cX10_prepares 169 = .ok (.putfield 218, 3) := by decide +kernel
theorem dX10_prepares_172 : decode cX10_prepares 172 = .ok (.goto 36, 3) := by decide +kernel
theorem dX10_prepares_175 : decode cX10_prepares 175 = .ok (.aload_n 0, 1) := by decide +kernel
theorem dX10_prepares_176 : decode cX10_prepares 176 = .ok (.iconst 1, 1) := by decide +kernel
theorem dX10_prepares_177 : decode cX10_prepares 177 = .ok (.putfield 218, 3) := by decide +kernel
theorem dX10_prepares_180 : decode cX10_prepares 180 = .ok (.goto 28, 3) := by decide +kernel
theorem dX10_prepares_183 : decode cX10_prepares 183 = .ok (.aload_n 0, 1) := by decide +kernel
theorem dX10_prepares_184 : decode cX10_prepares 184 = .ok (.aload_n 0, 1) := by decide +kernel
theorem dX10_prepares_185 : decode cX10_prepares 185 = .ok (.getfield 31, 3) := by decide +kernel
theorem dX10_prepares_188 : decode cX10_prepares 188 = .ok (.aload_n 0, 1) := by decide +kernel
theorem dX10_prepares_189 : decode cX10_prepares 189 = .ok (.iload_n 1, 1) := by decide +kernel
theorem dX10_prepares_190 : decode cX10_prepares 190 = .ok (.invokevirtual 222, 3) := by decide +kernel
theorem dX10_prepares_193 : decode cX10_prepares 193 = .ok (.iaload, 1) := by decide +kernel
theorem dX10_prepares_194 : decode cX10_prepares 194 = .ok (.ifCond .ne 7, 3) := by decide +kernel
theorem dX10_prepares_197 : decode cX10_prepares 197 = .ok (.iconst 1, 1) := by decide +kernel
theorem dX10_prepares_198 : decode cX10_prepares 198 = .ok (.goto 4, 3) := by decide +kernel
theorem dX10_prepares_201 : decode cX10_prepares 201 = .ok (.iconst 0, 1) := by decide +kernel
theorem dX10_prepares_202 : decode cX10_prepares 202 = .ok (.putfield 218, 3) := by decide +kernel
theorem dX10_prepares_205 : decode cX10_prepares 205 = .ok (.goto 3, 3) := by decide +kernel
theorem dX10_prepares_208 : decode cX10_prepares 208 = .ok (.return_, 1) := by decide +kernel
