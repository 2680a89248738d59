theorem dX10_init_0 : decode cX10_init 0 = .ok (.aload_n 0, 1) := by decide +kernel
theorem dX10_init_1 : decode cX10_init 1 = .ok (.invokespecial 1, 3) := by decide +kernel
theorem dX10_init_4 : decode cX10_init 4 = .ok (.aload_n 0, 1) := by decide +kernel
theorem dX10_init_5 : decode cX10_init 5 = .ok (.iconst 4, 1) := by decide +kernel
theorem dX10_init_6 : decode cX10_init 6 = .ok (.newarray .int, 2) := by decide +kernel
theorem dX10_init_8 : decode cX10_init 8 = .ok (.putfield 7, 3) := by decide +kernel
theorem dX10_init_11 : decode cX10_init 11 = .ok (.aload_n 0, 1) := by decide +kernel
theorem dX10_init_12 : decode cX10_init 12 = .ok (.iconst 4, 1) := by decide +kernel
theorem dX10_init_13 : decode cX10_init 13 = .ok (.newarray .int, 2) := by decide +kernel
theorem dX10_init_15 : decode cX10_init 15 = .ok (.putfield 13, 3) := by decide +kernel
theorem dX10_init_18 : decode cX10_init 18 = .ok (.aload_n 0, 1) := by decide +kernel
theorem dX10_init_19 : decode cX10_init 19 = .ok (.sipush 240, 3) := by decide +kernel
theorem dX10_init_22 : decode cX10_init 22 = .ok (.newarray .int, 2) := by decide +kernel
theorem dX10_init_24 : decode cX10_init 24 = .ok (.putfield 16, 3) := by decide +kernel
theorem dX10_init_27 : decode cX10_init 27 = .ok (.aload_n 0, 1) := by decide +kernel
theorem dX10_init_28 : decode cX10_init 28 = .ok (.bipush 60, 2) := by decide +kernel
theorem dX10_init_30 : decode cX10_init 30 = .ok (.newarray .int, 2) := by decide +kernel
theorem dX10_init_32 : decode cX10_init 32 = .ok (.putfield 19, 3) := by decide +kernel
theorem dX10_init_35 : decode cX10_init 35 = .ok (.aload_n 0, 1) := by decide +kernel
theorem dX10_init_36 : decode cX10_init 36 = .ok (.bipush 96, 2) := by decide +kernel
theorem dX10_init_38 : decode cX10_init 38 = .ok (.newarray .int, 2) := by decide +kernel
theorem dX10_init_40 : decode cX10_init 40 = .ok (.putfield 22, 3) := by decide +kernel
theorem dX10_init_43 : decode cX10_init 43 = .ok (.aload_n 0, 1) := by decide +kernel
theorem dX10_init_44 : decode cX10_init 44 = .ok (.bipush 8, 2) := by decide +kernel
theorem dX10_init_46 : decode cX10_init 46 = .ok (.newarray .int, 2) := by decide +kernel
theorem dX10_init_48 : decode cX10_init 48 = .ok (.putfield 25, 3) := by decide +kernel
theorem dX10_init_51 : decode cX10_init 51 = .ok (.aload_n 0, 1) := by decide +kernel
theorem dX10_init_52 : decode cX10_init 52 = .ok (.bipush 8, 2) := by decide +kernel
theorem dX10_init_54 : decode cX10_init 54 = .ok (.newarray .int, 2) := by decide +kernel
theorem dX10_init_56 : decode cX10_init 56 = .ok (.putfield 28, 3) := by decide +kernel
theorem dX10_init_59 : decode cX10_init 59 = .ok (.aload_n 0, 1) := by decide +kernel
theorem dX10_init_60 : decode cX10_init 60 = .ok (.bipush 8, 2) := by decide +kernel
theorem dX10_init_62 : decode cX10_init 62 = .ok (.newarray .int, 2) := by decide +kernel
theorem dX10_init_64 : decode cX10_init 64 = .ok (.putfield 31, 3) := by decide +kernel
theorem dX10_init_67 : decode cX10_init 67 = .ok (.aload_n 0, 1) := by decide +kernel
theorem dX10_init_68 : decode cX10_init 68 = .ok (.bipush 8, 2) := by decide +kernel
theorem dX10_init_70 : decode cX10_init 70 = .ok (.newarray .int, 2) := by decide +kernel
theorem dX10_init_72 : decode cX10_init 72 = .ok (.putfield 34, 3) := by decide +kernel
theorem dX10_init_75 : decode cX10_init 75 = .ok (.aload_n 0, 1) := by decide +kernel
theorem dX10_init_76 : decode cX10_init 76 = .ok (.bipush 24, 2) := by decide +kernel
theorem dX10_init_78 : decode cX10_init 78 = .ok (.newarray .int, 2) := by decide +kernel
theorem dX10_init_80 : decode cX10_init 80 = .ok (.putfield 37, 3) := by decide +kernel
theorem dX10_init_83 : decode cX10_init 83 = .ok (.aload_n 0, 1) := by decide +kernel
theorem dX10_init_84 : decode cX10_init 84 = .ok (.bipush 24, 2) := by decide +kernel
theorem dX10_init_86 : decode cX10_init 86 = .ok (.newarray .int, 2) := by decide +kernel
theorem dX10_init_88 : decode cX10_init 88 = .ok (.putfield 40, 3) := by decide +kernel
theorem dX10_init_91 : decode cX10_init 91 = .ok (.aload_n 0, 1) := by decide +kernel
theorem dX10_init_92 : decode cX10_init 92 = .ok (.bipush 8, 2) := by decide +kernel
theorem dX10_init_94 : decode cX10_init 94 = .ok (.newarray .int, 2) := by decide +kernel
theorem dX10_init_96 : decode cX10_init 96 = .ok (.putfield 43, 3) := by decide +kernel
theorem dX10_init_99 : decode cX10_init 99 = .ok (.aload_n 0, 1) := by decide +kernel
theorem dX10_init_100 : decode cX10_init 100 = .ok (.bipush 8, 2) := by decide +kernel
theorem dX10_init_102 : decode cX10_init 102 = .ok (.newarray .int, 2) := by decide +kernel
theorem dX10_init_104 : decode cX10_init 104 = .ok (.putfield 46, 3) := by decide +kernel
theorem dX10_init_107 : decode cX10_init 107 = .ok (.aload_n 0, 1) := by decide +kernel
theorem dX10_init_108 : decode cX10_init 108 = .ok (.bipush 8, 2) := by decide +kernel
theorem dX10_init_110 : decode cX10_init 110 = .ok (.newarray .int, 2) := by decide +kernel
theorem dX10_init_112 : decode cX10_init 112 = .ok (.putfield 49, 3) := by decide +kernel
theorem dX10_init_115 : decode cX10_init 115 = .ok (.aload_n 0, 1) := by decide +kernel
theorem dX10_init_116 : decode cX10_init 116 = .ok (.bipush 8, 2) := by decide +kernel
theorem dX10_init_118 : decode cX10_init 118 = .ok (.newarray .int, 2) := by decide +kernel
theorem dX10_init_120 : decode cX10_init 120 = .ok (.putfield 52, 3) := by decide +kernel
theorem dX10_init_123 : decode cX10_init 123 = .ok (.aload_n 0, 1) := by decide +kernel
theorem dX10_init_124 : decode cX10_init 124 = .ok (.bipush 8, 2) := by decide +kernel
theorem dX10_init_126 : decode cX10_init 126 = .ok (.newarray .int, 2) := by decide +kernel
theorem dX10_init_128 : decode cX10_init 128 = .ok (.putfield 55, 3) := by decide +kernel
theorem dX10_init_131 : decode cX10_init 131 = .ok (.aload_n 0, 1) := by decide +kernel
theorem dX10_init_132 : decode cX10_init 132 = .ok (.sipush 144, 3) := by decide +kernel
theorem dX10_init_135 : decode cX10_init 135 = .ok (.newarray .int, 2) := by decide +kernel
theorem dX10_init_137 : decode cX10_init 137 = .ok (.putfield 58, 3) := by decide +kernel
theorem dX10_init_140 : decode cX10_init 140 = .ok (.aload_n 0, 1) := by decide +kernel
theorem dX10_init_141 : decode cX10_init 141 = .ok (.sipush 144, 3) := by decide +kernel
theorem dX10_init_144 : decode cX10_init 144 = .ok (.newarray .int, 2) := by decide +kernel
theorem dX10_init_146 : decode cX10_init 146 = .ok (.putfield 61, 3) := by decide +kernel
theorem dX10_init_149 : decode cX10_init 149 = .ok (.aload_n 0, 1) := by decide +kernel
theorem dX10_init_150 : decode cX10_init 150 = .ok (.sipush 144, 3) := by decide +kernel
theorem dX10_init_153 : decode cX10_init 153 = .ok (.newarray .int, 2) := by decide +kernel
theorem dX10_init_155 : decode cX10_init 155 = .ok (.putfield 64, 3) := by decide +kernel
theorem dX10_init_158 : decode cX10_init 158 = .ok (.aload_n 0, 1) := by decide +kernel
theorem dX10_init_159 : decode cX10_init 159 = .ok (.sipush 144, 3) := by decide +kernel
theorem dX10_init_162 : decode cX10_init 162 = .ok (.newarray .int, 2) := by decide +kernel
theorem dX10_init_164 : decode cX10_init 164 = .ok (.putfield 67, 3) := by decide +kernel
theorem dX10_init_167 : decode cX10_init 167 = .ok (.aload_n 0, 1) := by decide +kernel
theorem dX10_init_168 : decode cX10_init 168 = .ok (.sipush 144, 3) := by decide +kernel
theorem dX10_init_171 : decode cX10_init 171 = .ok (.newarray .int, 2) := by decide +kernel
theorem dX10_init_173 : decode cX10_init 173 = .ok (.putfield 70, 3) := by decide +kernel
theorem dX10_init_176 : decode cX10_init 176 = .ok (.aload_n 0, 1) := by decide +kernel
theorem dX10_init_177 : decode cX10_init 177 = .ok (.sipush 144, 3) := by decide +kernel
theorem dX10_init_180 : decode cX10_init 180 = .ok (.newarray .int, 2) := by decide +kernel
theorem dX10_init_182 : decode cX10_init 182 = .ok (.putfield 73, 3) := by decide +kernel
theorem dX10_init_185 : decode cX10_init 185 = .ok (.aload_n 0, 1) := by decide +kernel
theorem dX10_init_186 : decode cX10_init 186 = .ok (.bipush 16, 2) := by decide +kernel
theorem dX10_init_188 : decode cX10_init 188 = .ok (.newarray .int, 2) := by decide +kernel
theorem dX10_init_190 : decode cX10_init 190 = .ok (.putfield 76, 3) := by decide +kernel
theorem dX10_init_193 : decode cX10_init 193 = .ok (.iconst 0, 1) := by decide +kernel
theorem dX10_init_194 : decode cX10_init 194 = .ok (.istore_n 1, 1) := by decide +kernel
theorem dX10_init_195 : decode cX10_init 195 = .ok (.iload_n 1, 1) := by decide +kernel
theorem dX10_init_196 : decode cX10_init 196 = .ok (.iconst 4, 1) := by decide +kernel
theorem dX10_init_197 : decode cX10_init 197 = .ok (.if_icmp .ge 16, 3) := by decide +kernel
theorem dX10_init_200 : decode cX10_init 200 = .ok (.aload_n 0, 1) := by decide +kernel
theorem dX10_init_201 : decode cX10_init 201 = .ok (.getfield 7, 3) := by decide +kernel
theorem dX10_init_204 : decode cX10_init 204 = .ok (.iload_n 1, 1) := by decide +kernel
theorem dX10_init_205 : decode cX10_init 205 = .ok (.iconst (-1), 1) := by decide +kernel
theorem dX10_init_206 : decode cX10_init 206 = .ok (.iastore, 1) := by decide +kernel
theorem dX10_init_207 : decode cX10_init 207 = .ok (.iinc 1 1, 3) := by decide +kernel
theorem dX10_init_210 : decode cX10_init 210 = .ok (.goto (-15), 3) := by decide +kernel
theorem dX10_init_213 : decode cX10_init 213 = .ok (.aload_n 0, 1) := by decide +kernel
theorem dX10_init_214 : decode cX10_init 214 = .ok (.sipush 200, 3) := by decide +kernel
theorem dX10_init_217 : decode cX10_init 217 = .ok (.putfield 79, 3) := by decide +kernel
theorem dX10_init_220 : decode cX10_init 220 = .ok (.aload_n 0, 1) := by decide +kernel
theorem dX10_init_221 : decode cX10_init 221 = .ok (.iconst 3, 1) := by decide +kernel
theorem dX10_init_222 : decode cX10_init 222 = .ok (.putfield 83, 3) := by decide +kernel
theorem dX10_init_225 : decode cX10_init 225 = .ok (.return_, 1) := by decide +kernel
theorem dX10_in_0 : decode cX10_in 0 = .ok (.lload_n 0, 1) := by decide +kernel
theorem dX10_in_1 : decode cX10_in 1 = .ok (.lload_n 2, 1) := by decide +kernel
theorem dX10_in_2 : decode cX10_in 2 = .ok (.lcmp, 1) := by decide +kernel
theorem dX10_in_3 : decode cX10_in 3 = .ok (.ifCond .lt 14, 3) := by decide +kernel
theorem dX10_in_6 : decode cX10_in 6 = .ok (.lload_n 0, 1) := by decide +kernel
theorem dX10_in_7 : decode cX10_in 7 = .ok (.lload 4, 2) := by decide +kernel
theorem dX10_in_9 : decode cX10_in 9 = .ok (.lcmp, 1) := by decide +kernel
theorem dX10_in_10 : decode cX10_in 10 = .ok (.ifCond .gt 7, 3) := by decide +kernel
theorem dX10_in_13 : decode cX10_in 13 = .ok (.iconst 1, 1) := by decide +kernel
theorem dX10_in_14 : decode cX10_in 14 = .ok (.goto 4, 3) := by decide +kernel
theorem dX10_in_17 : decode cX10_in 17 = .ok (.iconst 0, 1) := by decide +kernel
theorem dX10_in_18 : decode cX10_in 18 = .ok (.ireturn, 1) := by decide +kernel
theorem dX10_isTwo_0 : decode cX10_isTwo 0 = .ok (.iload_n 0, 1) := by decide +kernel
theorem dX10_isTwo_1 : decode cX10_isTwo 1 = .ok (.i2l, 1) := by decide +kernel
theorem dX10_isTwo_2 : decode cX10_isTwo 2 = .ok (.lconst 0, 1) := by decide +kernel
theorem dX10_isTwo_3 : decode cX10_isTwo 3 = .ok (.lconst 1, 1) := by decide +kernel
theorem dX10_isTwo_4 : decode cX10_isTwo 4 = .ok (.invokestatic 86, 3) := by decide +kernel
theorem dX10_isTwo_7 : decode cX10_isTwo 7 = .ok (.ireturn, 1) := by decide +kernel
theorem dX10_greater_0 : decode cX10_greater 0 = .ok (.iload_n 0, 1) := by decide +kernel
theorem dX10_greater_1 : decode cX10_greater 1 = .ok (.iload_n 1, 1) := by decide +kernel
theorem dX10_greater_2 : decode cX10_greater 2 = .ok (.if_icmp .le 7, 3) := by decide +kernel
theorem dX10_greater_5 : decode cX10_greater 5 = .ok (.iload_n 0, 1) := by decide +kernel
theorem dX10_greater_6 : decode cX10_greater 6 = .ok (.goto 4, 3) := by decide +kernel
theorem dX10_greater_9 : decode cX10_greater 9 = .ok (.iload_n 1, 1) := by decide +kernel
theorem dX10_greater_10 : decode cX10_greater 10 = .ok (.ireturn, 1) := by decide +kernel
theorem dX10_finds_0 : decode cX10_finds 0 = .ok (.aload_n 0, 1) := by decide +kernel
theorem dX10_finds_1 : decode cX10_finds 1 = .ok (.iload_n 1, 1) := by decide +kernel
theorem dX10_finds_2 : decode cX10_finds 2 = .ok (.putfield 90, 3) := by decide +kernel
theorem dX10_finds_5 : decode cX10_finds 5 = .ok (.bipush (-10), 2) := by decide +kernel
theorem dX10_finds_7 : decode cX10_finds 7 = .ok (.iload_n 1, 1) := by decide +kernel
theorem dX10_finds_8 : decode cX10_finds 8 = .ok (.isub, 1) := by decide +kernel
theorem dX10_finds_9 : decode cX10_finds 9 = .ok (.ireturn, 1) := by decide +kernel
theorem dX10_isSheet_0 : decode cX10_isSheet 0 = .ok (.iload_n 0, 1) := by decide +kernel
theorem dX10_isSheet_1 : decode cX10_isSheet 1 = .ok (.i2l, 1) := by decide +kernel
theorem dX10_isSheet_2 : decode cX10_isSheet 2 = .ok (.lconst 0, 1) := by decide +kernel
theorem dX10_isSheet_3 : decode cX10_isSheet 3 = .ok (.ldc2_w 93, 3) := by decide +kernel
theorem dX10_isSheet_6 : decode cX10_isSheet 6 = .ok (.invokestatic 86, 3) := by decide +kernel
theorem dX10_isSheet_9 : decode cX10_isSheet 9 = .ok (.ireturn, 1) := by decide +kernel
theorem dX10_sheet_0 : decode cX10_sheet 0 = .ok (.iload_n 1, 1) := by decide +kernel
theorem dX10_sheet_1 : decode cX10_sheet 1 = .ok (.invokestatic 95, 3) := by decide +kernel
theorem dX10_sheet_4 : decode cX10_sheet 4 = .ok (.ifCond .eq 21, 3) := by decide +kernel
theorem dX10_sheet_7 : decode cX10_sheet 7 = .ok (.iload_n 2, 1) := by decide +kernel
theorem dX10_sheet_8 : decode cX10_sheet 8 = .ok (.i2l, 1) := by decide +kernel
theorem dX10_sheet_9 : decode cX10_sheet 9 = .ok (.lconst 0, 1) := by decide +kernel
theorem dX10_sheet_10 : decode cX10_sheet 10 = .ok (.ldc2_w 99, 3) := by decide +kernel
theorem dX10_sheet_13 : decode cX10_sheet 13 = .ok (.invokestatic 86, 3) := by decide +kernel
theorem dX10_sheet_16 : decode cX10_sheet 16 = .ok (.ifCond .eq 9, 3) := by decide +kernel
theorem dX10_sheet_19 : decode cX10_sheet 19 = .ok (.iload_n 3, 1) := by decide +kernel
theorem dX10_sheet_20 : decode cX10_sheet 20 = .ok (.bipush 60, 2) := by decide +kernel
theorem dX10_sheet_22 : decode cX10_sheet 22 = .ok (.if_icmp .le 6, 3) := by decide +kernel
theorem dX10_sheet_25 : decode cX10_sheet 25 = .ok (.bipush (-2), 2) := by decide +kernel
theorem dX10_sheet_27 : decode cX10_sheet 27 = .ok (.ireturn, 1) := by decide +kernel
theorem dX10_sheet_28 : decode cX10_sheet 28 = .ok (.iload_n 3, 1) := by decide +kernel
theorem dX10_sheet_29 : decode cX10_sheet 29 = .ok (.ifCond .ge 9, 3) := by decide +kernel
theorem dX10_sheet_32 : decode cX10_sheet 32 = .ok (.aload_n 0, 1) := by decide +kernel
theorem dX10_sheet_33 : decode cX10_sheet 33 = .ok (.iconst 5, 1) := by decide +kernel
theorem dX10_sheet_34 : decode cX10_sheet 34 = .ok (.invokevirtual 101, 3) := by decide +kernel
theorem dX10_sheet_37 : decode cX10_sheet 37 = .ok (.ireturn, 1) := by decide +kernel
theorem dX10_sheet_38 : decode cX10_sheet 38 = .ok (.aload_n 0, 1) := by decide +kernel
theorem dX10_sheet_39 : decode cX10_sheet 39 = .ok (.getfield 7, 3) := by decide +kernel
theorem dX10_sheet_42 : decode cX10_sheet 42 = .ok (.iload_n 1, 1) := by decide +kernel
theorem dX10_sheet_43 : decode cX10_sheet 43 = .ok (.iload_n 2, 1) := by decide +kernel
theorem dX10_sheet_44 : decode cX10_sheet 44 = .ok (.iastore, 1) := by decide +kernel
theorem dX10_sheet_45 : decode cX10_sheet 45 = .ok (.aload_n 0, 1) := by decide +kernel
theorem dX10_sheet_46 : decode cX10_sheet 46 = .ok (.getfield 13, 3) := by decide +kernel
theorem dX10_sheet_49 : decode cX10_sheet 49 = .ok (.iload_n 1, 1) := by decide +kernel
theorem dX10_sheet_50 : decode cX10_sheet 50 = .ok (.iload_n 3, 1) := by decide +kernel
theorem dX10_sheet_51 : decode cX10_sheet 51 = .ok (.iastore, 1) := by decide +kernel
theorem dX10_sheet_52 : decode cX10_sheet 52 = .ok (.iconst 0, 1) := by decide +kernel
theorem dX10_sheet_53 : decode cX10_sheet 53 = .ok (.istore 4, 2) := by decide +kernel
theorem dX10_sheet_55 : decode cX10_sheet 55 = .ok (.iload 4, 2) := by decide +kernel
theorem dX10_sheet_57 : decode cX10_sheet 57 = .ok (.iload_n 3, 1) := by decide +kernel
theorem dX10_sheet_58 : decode cX10_sheet 58 = .ok (.if_icmp .ge 22, 3) := by decide +kernel
theorem dX10_sheet_61 : decode cX10_sheet 61 = .ok (.aload_n 0, 1) := by decide +kernel
theorem dX10_sheet_62 : decode cX10_sheet 62 = .ok (.getfield 16, 3) := by decide +kernel
theorem dX10_sheet_65 : decode cX10_sheet 65 = .ok (.bipush 60, 2) := by decide +kernel
theorem dX10_sheet_67 : decode cX10_sheet 67 = .ok (.iload_n 1, 1) := by decide +kernel
theorem dX10_sheet_68 : decode cX10_sheet 68 = .ok (.imul, 1) := by decide +kernel
theorem dX10_sheet_69 : decode cX10_sheet 69 = .ok (.iload 4, 2) := by decide +kernel
theorem dX10_sheet_71 : decode cX10_sheet 71 = .ok (.iadd, 1) := by decide +kernel
theorem dX10_sheet_72 : decode cX10_sheet 72 = .ok (.iconst 0, 1) := by decide +kernel
theorem dX10_sheet_73 : decode cX10_sheet 73 = .ok (.iastore, 1) := by decide +kernel
theorem dX10_sheet_74 : decode cX10_sheet 74 = .ok (.iinc 4 1, 3) := by decide +kernel
theorem dX10_sheet_77 : decode cX10_sheet 77 = .ok (.goto (-22), 3) := by decide +kernel
theorem dX10_sheet_80 : decode cX10_sheet 80 = .ok (.iload_n 3, 1) := by decide +kernel
theorem dX10_sheet_81 : decode cX10_sheet 81 = .ok (.ireturn, 1) := by decide +kernel
theorem dX10_lose_0 : decode cX10_lose 0 = .ok (.iload_n 1, 1) := by decide +kernel
theorem dX10_lose_1 : decode cX10_lose 1 = .ok (.invokestatic 95, 3) := by decide +kernel
theorem dX10_lose_4 : decode cX10_lose 4 = .ok (.ifCond .ne 6, 3) := by decide +kernel
theorem dX10_lose_7 : decode cX10_lose 7 = .ok (.bipush (-2), 2) := by decide +kernel
theorem dX10_lose_9 : decode cX10_lose 9 = .ok (.ireturn, 1) := by decide +kernel
theorem dX10_lose_10 : decode cX10_lose 10 = .ok (.aload_n 0, 1) := by decide +kernel
theorem dX10_lose_11 : decode cX10_lose 11 = .ok (.getfield 7, 3) := by decide +kernel
theorem dX10_lose_14 : decode cX10_lose 14 = .ok (.iload_n 1, 1) := by decide +kernel
theorem dX10_lose_15 : decode cX10_lose 15 = .ok (.iaload, 1) := by decide +kernel
theorem dX10_lose_16 : decode cX10_lose 16 = .ok (.ifCond .ge 9, 3) := by decide +kernel
theorem dX10_lose_19 : decode cX10_lose 19 = .ok (.aload_n 0, 1) := by decide +kernel
theorem dX10_lose_20 : decode cX10_lose 20 = .ok (.iconst 1, 1) := by decide +kernel
theorem dX10_lose_21 : decode cX10_lose 21 = .ok (.invokevirtual 101, 3) := by decide +kernel
theorem dX10_lose_24 : decode cX10_lose 24 = .ok (.ireturn, 1) := by decide +kernel
theorem dX10_lose_25 : decode cX10_lose 25 = .ok (.aload_n 0, 1) := by decide +kernel
theorem dX10_lose_26 : decode cX10_lose 26 = .ok (.getfield 7, 3) := by decide +kernel
theorem dX10_lose_29 : decode cX10_lose 29 = .ok (.iload_n 1, 1) := by decide +kernel
theorem dX10_lose_30 : decode cX10_lose 30 = .ok (.iconst (-1), 1) := by decide +kernel
theorem dX10_lose_31 : decode cX10_lose 31 = .ok (.iastore, 1) := by decide +kernel
theorem dX10_lose_32 : decode cX10_lose 32 = .ok (.aload_n 0, 1) := by decide +kernel
theorem dX10_lose_33 : decode cX10_lose 33 = .ok (.getfield 13, 3) := by decide +kernel
theorem dX10_lose_36 : decode cX10_lose 36 = .ok (.iload_n 1, 1) := by decide +kernel
theorem dX10_lose_37 : decode cX10_lose 37 = .ok (.iaload, 1) := by decide +kernel
theorem dX10_lose_38 : decode cX10_lose 38 = .ok (.ireturn, 1) := by decide +kernel
theorem dX10_lacks_0 : decode cX10_lacks 0 = .ok (.aload_n 0, 1) := by decide +kernel
theorem dX10_lacks_1 : decode cX10_lacks 1 = .ok (.getfield 7, 3) := by decide +kernel
theorem dX10_lacks_4 : decode cX10_lacks 4 = .ok (.iload_n 1, 1) := by decide +kernel
theorem dX10_lacks_5 : decode cX10_lacks 5 = .ok (.iaload, 1) := by decide +kernel
theorem dX10_lacks_6 : decode cX10_lacks 6 = .ok (.ifCond .ge 9, 3) := by decide +kernel
theorem dX10_lacks_9 : decode cX10_lacks 9 = .ok (.aload_n 0, 1) := by decide +kernel
theorem dX10_lacks_10 : decode cX10_lacks 10 = .ok (.iconst 1, 1) := by decide +kernel
theorem dX10_lacks_11 : decode cX10_lacks 11 = .ok (.invokevirtual 101, 3) := by decide +kernel
theorem dX10_lacks_14 : decode cX10_lacks 14 = .ok (.ireturn, 1) := by decide +kernel
theorem dX10_lacks_15 : decode cX10_lacks 15 = .ok (.aload_n 0, 1) := by decide +kernel
theorem dX10_lacks_16 : decode cX10_lacks 16 = .ok (.getfield 7, 3) := by decide +kernel
theorem dX10_lacks_19 : decode cX10_lacks 19 = .ok (.iload_n 1, 1) := by decide +kernel
theorem dX10_lacks_20 : decode cX10_lacks 20 = .ok (.iaload, 1) := by decide +kernel
theorem dX10_lacks_21 : decode cX10_lacks 21 = .ok (.iload_n 2, 1) := by decide +kernel
theorem dX10_lacks_22 : decode cX10_lacks 22 = .ok (.if_icmp .eq 9, 3) := by decide +kernel
theorem dX10_lacks_25 : decode cX10_lacks 25 = .ok (.aload_n 0, 1) := by decide +kernel
theorem dX10_lacks_26 : decode cX10_lacks 26 = .ok (.iconst 3, 1) := by decide +kernel
theorem dX10_lacks_27 : decode cX10_lacks 27 = .ok (.invokevirtual 101, 3) := by decide +kernel
theorem dX10_lacks_30 : decode cX10_lacks 30 = .ok (.ireturn, 1) := by decide +kernel
theorem dX10_lacks_31 : decode cX10_lacks 31 = .ok (.iload_n 3, 1) := by decide +kernel
theorem dX10_lacks_32 : decode cX10_lacks 32 = .ok (.i2l, 1) := by decide +kernel
theorem dX10_lacks_33 : decode cX10_lacks 33 = .ok (.lconst 0, 1) := by decide +kernel
theorem dX10_lacks_34 : decode cX10_lacks 34 = .ok (.aload_n 0, 1) := by decide +kernel
theorem dX10_lacks_35 : decode cX10_lacks 35 = .ok (.getfield 13, 3) := by decide +kernel
theorem dX10_lacks_38 : decode cX10_lacks 38 = .ok (.iload_n 1, 1) := by decide +kernel
theorem dX10_lacks_39 : decode cX10_lacks 39 = .ok (.iaload, 1) := by decide +kernel
theorem dX10_lacks_40 : decode cX10_lacks 40 = .ok (.iconst 1, 1) := by decide +kernel
theorem dX10_lacks_41 : decode cX10_lacks 41 = .ok (.isub, 1) := by decide +kernel
theorem dX10_lacks_42 : decode cX10_lacks 42 = .ok (.i2l, 1) := by decide +kernel
theorem dX10_lacks_43 : decode cX10_lacks 43 = .ok (.invokestatic 86, 3) := by decide +kernel
theorem dX10_lacks_46 : decode cX10_lacks 46 = .ok (.ifCond .eq 7, 3) := by decide +kernel
theorem dX10_lacks_49 : decode cX10_lacks 49 = .ok (.iconst 0, 1) := by decide +kernel
theorem dX10_lacks_50 : decode cX10_lacks 50 = .ok (.goto 8, 3) := by decide +kernel
theorem dX10_lacks_53 : decode cX10_lacks 53 = .ok (.aload_n 0, 1) := by decide +kernel
theorem dX10_lacks_54 : decode cX10_lacks 54 = .ok (.iconst 2, 1) := by decide +kernel
theorem dX10_lacks_55 : decode cX10_lacks 55 = .ok (.invokevirtual 101, 3) := by decide +kernel
theorem dX10_lacks_58 : decode cX10_lacks 58 = .ok (.ireturn, 1) := by decide +kernel
theorem dX10_lay_0 : decode cX10_lay 0 = .ok (.iload_n 1, 1) := by decide +kernel
theorem dX10_lay_1 : decode cX10_lay 1 = .ok (.invokestatic 95, 3) := by decide +kernel
theorem dX10_lay_4 : decode cX10_lay 4 = .ok (.ifCond .eq 15, 3) := by decide +kernel
theorem dX10_lay_7 : decode cX10_lay 7 = .ok (.iload_n 2, 1) := by decide +kernel
theorem dX10_lay_8 : decode cX10_lay 8 = .ok (.i2l, 1) := by decide +kernel
theorem dX10_lay_9 : decode cX10_lay 9 = .ok (.lconst 0, 1) := by decide +kernel
theorem dX10_lay_10 : decode cX10_lay 10 = .ok (.ldc2_w 99, 3) := by decide +kernel
theorem dX10_lay_13 : decode cX10_lay 13 = .ok (.invokestatic 86, 3) := by decide +kernel
theorem dX10_lay_16 : decode cX10_lay 16 = .ok (.ifCond .ne 6, 3) := by decide +kernel
theorem dX10_lay_19 : decode cX10_lay 19 = .ok (.bipush (-2), 2) := by decide +kernel
theorem dX10_lay_21 : decode cX10_lay 21 = .ok (.ireturn, 1) := by decide +kernel
theorem dX10_lay_22 : decode cX10_lay 22 = .ok (.aload_n 0, 1) := by decide +kernel
theorem dX10_lay_23 : decode cX10_lay 23 = .ok (.iload_n 1, 1) := by decide +kernel
theorem dX10_lay_24 : decode cX10_lay 24 = .ok (.iload_n 2, 1) := by decide +kernel
theorem dX10_lay_25 : decode cX10_lay 25 = .ok (.iload_n 3, 1) := by decide +kernel
theorem dX10_lay_26 : decode cX10_lay 26 = .ok (.invokevirtual 105, 3) := by decide +kernel
theorem dX10_lay_29 : decode cX10_lay 29 = .ok (.istore 5, 2) := by decide +kernel
theorem dX10_lay_31 : decode cX10_lay 31 = .ok (.iload 5, 2) := by decide +kernel
theorem dX10_lay_33 : decode cX10_lay 33 = .ok (.ifCond .eq 6, 3) := by decide +kernel
theorem dX10_lay_36 : decode cX10_lay 36 = .ok (.iload 5, 2) := by decide +kernel
theorem dX10_lay_38 : decode cX10_lay 38 = .ok (.ireturn, 1) := by decide +kernel
theorem dX10_lay_39 : decode cX10_lay 39 = .ok (.aload_n 0, 1) := by decide +kernel
theorem dX10_lay_40 : decode cX10_lay 40 = .ok (.getfield 16, 3) := by decide +kernel
theorem dX10_lay_43 : decode cX10_lay 43 = .ok (.bipush 60, 2) := by decide +kernel
theorem dX10_lay_45 : decode cX10_lay 45 = .ok (.iload_n 1, 1) := by decide +kernel
theorem dX10_lay_46 : decode cX10_lay 46 = .ok (.imul, 1) := by decide +kernel
theorem dX10_lay_47 : decode cX10_lay 47 = .ok (.iload_n 3, 1) := by decide +kernel
theorem dX10_lay_48 : decode cX10_lay 48 = .ok (.iadd, 1) := by decide +kernel
theorem dX10_lay_49 : decode cX10_lay 49 = .ok (.iload_n 2, 1) := by decide +kernel
theorem dX10_lay_50 : decode cX10_lay 50 = .ok (.iload 4, 2) := by decide +kernel
theorem dX10_lay_52 : decode cX10_lay 52 = .ok (.invokestatic 109, 3) := by decide +kernel
theorem dX10_lay_55 : decode cX10_lay 55 = .ok (.iastore, 1) := by decide +kernel
theorem dX10_lay_56 : decode cX10_lay 56 = .ok (.iconst 1, 1) := by decide +kernel
theorem dX10_lay_57 : decode cX10_lay 57 = .ok (.ireturn, 1) := by decide +kernel
theorem dX10_get_0 : decode cX10_get 0 = .ok (.iload_n 1, 1) := by decide +kernel
theorem dX10_get_1 : decode cX10_get 1 = .ok (.invokestatic 95, 3) := by decide +kernel
theorem dX10_get_4 : decode cX10_get 4 = .ok (.ifCond .eq 25, 3) := by decide +kernel
theorem dX10_get_7 : decode cX10_get 7 = .ok (.iload_n 2, 1) := by decide +kernel
theorem dX10_get_8 : decode cX10_get 8 = .ok (.i2l, 1) := by decide +kernel
theorem dX10_get_9 : decode cX10_get 9 = .ok (.lconst 0, 1) := by decide +kernel
theorem dX10_get_10 : decode cX10_get 10 = .ok (.ldc2_w 99, 3) := by decide +kernel
theorem dX10_get_13 : decode cX10_get 13 = .ok (.invokestatic 86, 3) := by decide +kernel
theorem dX10_get_16 : decode cX10_get 16 = .ok (.ifCond .eq 13, 3) := by decide +kernel
theorem dX10_get_19 : decode cX10_get 19 = .ok (.aload_n 0, 1) := by decide +kernel
theorem dX10_get_20 : decode cX10_get 20 = .ok (.iload_n 1, 1) := by decide +kernel
theorem dX10_get_21 : decode cX10_get 21 = .ok (.iload_n 2, 1) := by decide +kernel
theorem dX10_get_22 : decode cX10_get 22 = .ok (.iload_n 3, 1) := by decide +kernel
theorem dX10_get_23 : decode cX10_get 23 = .ok (.invokevirtual 105, 3) := by decide +kernel
theorem dX10_get_26 : decode cX10_get 26 = .ok (.ifCond .eq 6, 3) := by decide +kernel
theorem dX10_get_29 : decode cX10_get 29 = .ok (.ldc 113, 2) := by decide +kernel
theorem dX10_get_31 : decode cX10_get 31 = .ok (.ireturn, 1) := by decide +kernel
theorem dX10_get_32 : decode cX10_get 32 = .ok (.aload_n 0, 1) := by decide +kernel
theorem dX10_get_33 : decode cX10_get 33 = .ok (.getfield 16, 3) := by decide +kernel
theorem dX10_get_36 : decode cX10_get 36 = .ok (.bipush 60, 2) := by decide +kernel
theorem dX10_get_38 : decode cX10_get 38 = .ok (.iload_n 1, 1) := by decide +kernel
theorem dX10_get_39 : decode cX10_get 39 = .ok (.imul, 1) := by decide +kernel
theorem dX10_get_40 : decode cX10_get 40 = .ok (.iload_n 3, 1) := by decide +kernel
theorem dX10_get_41 : decode cX10_get 41 = .ok (.iadd, 1) := by decide +kernel
theorem dX10_get_42 : decode cX10_get 42 = .ok (.iaload, 1) := by decide +kernel
theorem dX10_get_43 : decode cX10_get 43 = .ok (.ireturn, 1) := by decide +kernel
theorem dX10_copy_0 : decode cX10_copy 0 = .ok (.iload_n 1, 1) := by decide +kernel
theorem dX10_copy_1 : decode cX10_copy 1 = .ok (.invokestatic 95, 3) := by decide +kernel
theorem dX10_copy_4 : decode cX10_copy 4 = .ok (.ifCond .eq 10, 3) := by decide +kernel
theorem dX10_copy_7 : decode cX10_copy 7 = .ok (.iload_n 3, 1) := by decide +kernel
theorem dX10_copy_8 : decode cX10_copy 8 = .ok (.invokestatic 95, 3) := by decide +kernel
theorem dX10_copy_11 : decode cX10_copy 11 = .ok (.ifCond .ne 6, 3) := by decide +kernel
theorem dX10_copy_14 : decode cX10_copy 14 = .ok (.bipush (-2), 2) := by decide +kernel
theorem dX10_copy_16 : decode cX10_copy 16 = .ok (.ireturn, 1) := by decide +kernel
theorem dX10_copy_17 : decode cX10_copy 17 = .ok (.aload_n 0, 1) := by decide +kernel
theorem dX10_copy_18 : decode cX10_copy 18 = .ok (.getfield 7, 3) := by decide +kernel
theorem dX10_copy_21 : decode cX10_copy 21 = .ok (.iload_n 1, 1) := by decide +kernel
theorem dX10_copy_22 : decode cX10_copy 22 = .ok (.iaload, 1) := by decide +kernel
theorem dX10_copy_23 : decode cX10_copy 23 = .ok (.ifCond .lt 12, 3) := by decide +kernel
theorem dX10_copy_26 : decode cX10_copy 26 = .ok (.aload_n 0, 1) := by decide +kernel
theorem dX10_copy_27 : decode cX10_copy 27 = .ok (.getfield 7, 3) := by decide +kernel
theorem dX10_copy_30 : decode cX10_copy 30 = .ok (.iload_n 3, 1) := by decide +kernel
theorem dX10_copy_31 : decode cX10_copy 31 = .ok (.iaload, 1) := by decide +kernel
theorem dX10_copy_32 : decode cX10_copy 32 = .ok (.ifCond .ge 9, 3) := by decide +kernel
theorem dX10_copy_35 : decode cX10_copy 35 = .ok (.aload_n 0, 1) := by decide +kernel
theorem dX10_copy_36 : decode cX10_copy 36 = .ok (.iconst 1, 1) := by decide +kernel
theorem dX10_copy_37 : decode cX10_copy 37 = .ok (.invokevirtual 101, 3) := by decide +kernel
theorem dX10_copy_40 : decode cX10_copy 40 = .ok (.ireturn, 1) := by decide +kernel
theorem dX10_copy_41 : decode cX10_copy 41 = .ok (.aload_n 0, 1) := by decide +kernel
theorem dX10_copy_42 : decode cX10_copy 42 = .ok (.getfield 7, 3) := by decide +kernel
theorem dX10_copy_45 : decode cX10_copy 45 = .ok (.iload_n 1, 1) := by decide +kernel
theorem dX10_copy_46 : decode cX10_copy 46 = .ok (.iaload, 1) := by decide +kernel
theorem dX10_copy_47 : decode cX10_copy 47 = .ok (.aload_n 0, 1) := by decide +kernel
theorem dX10_copy_48 : decode cX10_copy 48 = .ok (.getfield 7, 3) := by decide +kernel
theorem dX10_copy_51 : decode cX10_copy 51 = .ok (.iload_n 3, 1) := by decide +kernel
theorem dX10_copy_52 : decode cX10_copy 52 = .ok (.iaload, 1) := by decide +kernel
theorem dX10_copy_53 : decode cX10_copy 53 = .ok (.if_icmp .eq 9, 3) := by decide +kernel
theorem dX10_copy_56 : decode cX10_copy 56 = .ok (.aload_n 0, 1) := by decide +kernel
theorem dX10_copy_57 : decode cX10_copy 57 = .ok (.iconst 4, 1) := by decide +kernel
theorem dX10_copy_58 : decode cX10_copy 58 = .ok (.invokevirtual 101, 3) := by decide +kernel
theorem dX10_copy_61 : decode cX10_copy 61 = .ok (.ireturn, 1) := by decide +kernel
theorem dX10_copy_62 : decode cX10_copy 62 = .ok (.iload_n 2, 1) := by decide +kernel
theorem dX10_copy_63 : decode cX10_copy 63 = .ok (.ifCond .lt 48, 3) := by decide +kernel
theorem dX10_copy_66 : decode cX10_copy 66 = .ok (.iload 4, 2) := by decide +kernel
theorem dX10_copy_68 : decode cX10_copy 68 = .ok (.ifCond .lt 43, 3) := by decide +kernel
theorem dX10_copy_71 : decode cX10_copy 71 = .ok (.iload 5, 2) := by decide +kernel
theorem dX10_copy_73 : decode cX10_copy 73 = .ok (.ifCond .lt 38, 3) := by decide +kernel
theorem dX10_copy_76 : decode cX10_copy 76 = .ok (.iload_n 2, 1) := by decide +kernel
theorem dX10_copy_77 : decode cX10_copy 77 = .ok (.i2l, 1) := by decide +kernel
theorem dX10_copy_78 : decode cX10_copy 78 = .ok (.iload 5, 2) := by decide +kernel
theorem dX10_copy_80 : decode cX10_copy 80 = .ok (.i2l, 1) := by decide +kernel
theorem dX10_copy_81 : decode cX10_copy 81 = .ok (.ladd, 1) := by decide +kernel
theorem dX10_copy_82 : decode cX10_copy 82 = .ok (.aload_n 0, 1) := by decide +kernel
theorem dX10_copy_83 : decode cX10_copy 83 = .ok (.getfield 13, 3) := by decide +kernel
theorem dX10_copy_86 : decode cX10_copy 86 = .ok (.iload_n 1, 1) := by decide +kernel
theorem dX10_copy_87 : decode cX10_copy 87 = .ok (.iaload, 1) := by decide +kernel
theorem dX10_copy_88 : decode cX10_copy 88 = .ok (.i2l, 1) := by decide +kernel
theorem dX10_copy_89 : decode cX10_copy 89 = .ok (.lcmp, 1) := by decide +kernel
theorem dX10_copy_90 : decode cX10_copy 90 = .ok (.ifCond .gt 21, 3) := by decide +kernel
theorem dX10_copy_93 : decode cX10_copy 93 = .ok (.iload 4, 2) := by decide +kernel
theorem dX10_copy_95 : decode cX10_copy 95 = .ok (.i2l, 1) := by decide +kernel
theorem dX10_copy_96 : decode cX10_copy 96 = .ok (.iload 5, 2) := by decide +kernel
theorem dX10_copy_98 : decode cX10_copy 98 = .ok (.i2l, 1) := by decide +kernel
theorem dX10_copy_99 : decode cX10_copy 99 = .ok (.ladd, 1) := by decide +kernel
theorem dX10_copy_100 : decode cX10_copy 100 = .ok (.aload_n 0, 1) := by decide +kernel
theorem dX10_copy_101 : decode cX10_copy 101 = .ok (.getfield 13, 3) := by decide +kernel
theorem dX10_copy_104 : decode cX10_copy 104 = .ok (.iload_n 3, 1) := by decide +kernel
theorem dX10_copy_105 : decode cX10_copy 105 = .ok (.iaload, 1) := by decide +kernel
theorem dX10_copy_106 : decode cX10_copy 106 = .ok (.i2l, 1) := by decide +kernel
theorem dX10_copy_107 : decode cX10_copy 107 = .ok (.lcmp, 1) := by decide +kernel
theorem dX10_copy_108 : decode cX10_copy 108 = .ok (.ifCond .le 9, 3) := by decide +kernel
theorem dX10_copy_111 : decode cX10_copy 111 = .ok (.aload_n 0, 1) := by decide +kernel
theorem dX10_copy_112 : decode cX10_copy 112 = .ok (.iconst 2, 1) := by decide +kernel
theorem dX10_copy_113 : decode cX10_copy 113 = .ok (.invokevirtual 101, 3) := by decide +kernel
theorem dX10_copy_116 : decode cX10_copy 116 = .ok (.ireturn, 1) := by decide +kernel
theorem dX10_copy_117 : decode cX10_copy 117 = .ok (.iconst 0, 1) := by decide +kernel
theorem dX10_copy_118 : decode cX10_copy 118 = .ok (.istore 6, 2) := by decide +kernel
theorem dX10_copy_120 : decode cX10_copy 120 = .ok (.iload 6, 2) := by decide +kernel
theorem dX10_copy_122 : decode cX10_copy 122 = .ok (.iload 5, 2) := by decide +kernel
theorem dX10_copy_124 : decode cX10_copy 124 = .ok (.if_icmp .ge 30, 3) := by decide +kernel
theorem dX10_copy_127 : decode cX10_copy 127 = .ok (.aload_n 0, 1) := by decide +kernel
theorem dX10_copy_128 : decode cX10_copy 128 = .ok (.getfield 19, 3) := by decide +kernel
theorem dX10_copy_131 : decode cX10_copy 131 = .ok (.iload 6, 2) := by decide +kernel
theorem dX10_copy_133 : decode cX10_copy 133 = .ok (.aload_n 0, 1) := by decide +kernel
theorem dX10_copy_134 : decode cX10_copy 134 = .ok (.getfield 16, 3) := by decide +kernel
theorem dX10_copy_137 : decode cX10_copy 137 = .ok (.bipush 60, 2) := by decide +kernel
theorem dX10_copy_139 : decode cX10_copy 139 = .ok (.iload_n 1, 1) := by decide +kernel
theorem dX10_copy_140 : decode cX10_copy 140 = .ok (.imul, 1) := by decide +kernel
theorem dX10_copy_141 : decode cX10_copy 141 = .ok (.iload_n 2, 1) := by decide +kernel
theorem dX10_copy_142 : decode cX10_copy 142 = .ok (.iadd, 1) := by decide +kernel
theorem dX10_copy_143 : decode cX10_copy 143 = .ok (.iload 6, 2) := by decide +kernel
theorem dX10_copy_145 : decode cX10_copy 145 = .ok (.iadd, 1) := by decide +kernel
theorem dX10_copy_146 : decode cX10_copy 146 = .ok (.iaload, 1) := by decide +kernel
theorem dX10_copy_147 : decode cX10_copy 147 = .ok (.iastore, 1) := by decide +kernel
theorem dX10_copy_148 : decode cX10_copy 148 = .ok (.iinc 6 1, 3) := by decide +kernel
theorem dX10_copy_151 : decode cX10_copy 151 = .ok (.goto (-31), 3) := by decide +kernel
theorem dX10_copy_154 : decode cX10_copy 154 = .ok (.iconst 0, 1) := by decide +kernel
theorem dX10_copy_155 : decode cX10_copy 155 = .ok (.istore 6, 2) := by decide +kernel
theorem dX10_copy_157 : decode cX10_copy 157 = .ok (.iload 6, 2) := by decide +kernel
theorem dX10_copy_159 : decode cX10_copy 159 = .ok (.iload 5, 2) := by decide +kernel
theorem dX10_copy_161 : decode cX10_copy 161 = .ok (.if_icmp .ge 31, 3) := by decide +kernel
theorem dX10_copy_164 : decode cX10_copy 164 = .ok (.aload_n 0, 1) := by decide +kernel
theorem dX10_copy_165 : decode cX10_copy 165 = .ok (.getfield 16, 3) := by decide +kernel
theorem dX10_copy_168 : decode cX10_copy 168 = .ok (.bipush 60, 2) := by decide +kernel
theorem dX10_copy_170 : decode cX10_copy 170 = .ok (.iload_n 3, 1) := by decide +kernel
theorem dX10_copy_171 : decode cX10_copy 171 = .ok (.imul, 1) := by decide +kernel
theorem dX10_copy_172 : decode cX10_copy 172 = .ok (.iload 4, 2) := by decide +kernel
theorem dX10_copy_174 : decode cX10_copy 174 = .ok (.iadd, 1) := by decide +kernel
theorem dX10_copy_175 : decode cX10_copy 175 = .ok (.iload 6, 2) := by decide +kernel
theorem dX10_copy_177 : decode cX10_copy 177 = .ok (.iadd, 1) := by decide +kernel
theorem dX10_copy_178 : decode cX10_copy 178 = .ok (.aload_n 0, 1) := by decide +kernel
theorem dX10_copy_179 : decode cX10_copy 179 = .ok (.getfield 19, 3) := by decide +kernel
theorem dX10_copy_182 : decode cX10_copy 182 = .ok (.iload 6, 2) := by decide +kernel
theorem dX10_copy_184 : decode cX10_copy 184 = .ok (.iaload, 1) := by decide +kernel
theorem dX10_copy_185 : decode cX10_copy 185 = .ok (.iastore, 1) := by decide +kernel
theorem dX10_copy_186 : decode cX10_copy 186 = .ok (.iinc 6 1, 3) := by decide +kernel
theorem dX10_copy_189 : decode cX10_copy 189 = .ok (.goto (-32), 3) := by decide +kernel
theorem dX10_copy_192 : decode cX10_copy 192 = .ok (.iconst 1, 1) := by decide +kernel
theorem dX10_copy_193 : decode cX10_copy 193 = .ok (.ireturn, 1) := by decide +kernel
theorem dX10_lengthOf_0 : decode cX10_lengthOf 0 = .ok (.iconst 0, 1) := by decide +kernel
theorem dX10_lengthOf_1 : decode cX10_lengthOf 1 = .ok (.istore_n 2, 1) := by decide +kernel
theorem dX10_lengthOf_2 : decode cX10_lengthOf 2 = .ok (.lload_n 0, 1) := by decide +kernel
theorem dX10_lengthOf_3 : decode cX10_lengthOf 3 = .ok (.lstore_n 3, 1) := by decide +kernel
theorem dX10_lengthOf_4 : decode cX10_lengthOf 4 = .ok (.lload_n 3, 1) := by decide +kernel
theorem dX10_lengthOf_5 : decode cX10_lengthOf 5 = .ok (.lconst 0, 1) := by decide +kernel
theorem dX10_lengthOf_6 : decode cX10_lengthOf 6 = .ok (.lcmp, 1) := by decide +kernel
theorem dX10_lengthOf_7 : decode cX10_lengthOf 7 = .ok (.ifCond .eq 13, 3) := by decide +kernel
theorem dX10_lengthOf_10 : decode cX10_lengthOf 10 = .ok (.iinc 2 1, 3) := by decide +kernel
theorem dX10_lengthOf_13 : decode cX10_lengthOf 13 = .ok (.lload_n 3, 1) := by decide +kernel
theorem dX10_lengthOf_14 : decode cX10_lengthOf 14 = .ok (.iconst 1, 1) := by decide +kernel
theorem dX10_lengthOf_15 : decode cX10_lengthOf 15 = .ok (.lshr, 1) := by decide +kernel
theorem dX10_lengthOf_16 : decode cX10_lengthOf 16 = .ok (.lstore_n 3, 1) := by decide +kernel
theorem dX10_lengthOf_17 : decode cX10_lengthOf 17 = .ok (.goto (-13), 3) := by decide +kernel
theorem dX10_lengthOf_20 : decode cX10_lengthOf 20 = .ok (.iload_n 2, 1) := by decide +kernel
theorem dX10_lengthOf_21 : decode cX10_lengthOf 21 = .ok (.ireturn, 1) := by decide +kernel
theorem dX10_nearest_0 : decode cX10_nearest 0 = .ok (.iload_n 0, 1) := by decide +kernel
theorem dX10_nearest_1 : decode cX10_nearest 1 = .ok (.ifCond .eq 8, 3) := by decide +kernel
theorem dX10_nearest_4 : decode cX10_nearest 4 = .ok (.ldc 113, 2) := by decide +kernel
theorem dX10_nearest_6 : decode cX10_nearest 6 = .ok (.goto 4, 3) := by decide +kernel
theorem dX10_nearest_9 : decode cX10_nearest 9 = .ok (.iconst 0, 1) := by decide +kernel
theorem dX10_nearest_10 : decode cX10_nearest 10 = .ok (.istore 4, 2) := by decide +kernel
theorem dX10_nearest_12 : decode cX10_nearest 12 = .ok (.lload_n 1, 1) := by decide +kernel
theorem dX10_nearest_13 : decode cX10_nearest 13 = .ok (.lconst 0, 1) := by decide +kernel
theorem dX10_nearest_14 : decode cX10_nearest 14 = .ok (.lcmp, 1) := by decide +kernel
theorem dX10_nearest_15 : decode cX10_nearest 15 = .ok (.ifCond .ne 6, 3) := by decide +kernel
theorem dX10_nearest_18 : decode cX10_nearest 18 = .ok (.iload 4, 2) := by decide +kernel
theorem dX10_nearest_20 : decode cX10_nearest 20 = .ok (.ireturn, 1) := by decide +kernel
theorem dX10_nearest_21 : decode cX10_nearest 21 = .ok (.lload_n 1, 1) := by decide +kernel
theorem dX10_nearest_22 : decode cX10_nearest 22 = .ok (.invokestatic 114, 3) := by decide +kernel
theorem dX10_nearest_25 : decode cX10_nearest 25 = .ok (.bipush 24, 2) := by decide +kernel
theorem dX10_nearest_27 : decode cX10_nearest 27 = .ok (.isub, 1) := by decide +kernel
theorem dX10_nearest_28 : decode cX10_nearest 28 = .ok (.istore 5, 2) := by decide +kernel
theorem dX10_nearest_30 : decode cX10_nearest 30 = .ok (.iload_n 3, 1) := by decide +kernel
theorem dX10_nearest_31 : decode cX10_nearest 31 = .ok (.iload 5, 2) := by decide +kernel
theorem dX10_nearest_33 : decode cX10_nearest 33 = .ok (.iadd, 1) := by decide +kernel
theorem dX10_nearest_34 : decode cX10_nearest 34 = .ok (.sipush (-149), 3) := by decide +kernel
theorem dX10_nearest_37 : decode cX10_nearest 37 = .ok (.if_icmp .ge 11, 3) := by decide +kernel
theorem dX10_nearest_40 : decode cX10_nearest 40 = .ok (.sipush (-149), 3) := by decide +kernel
theorem dX10_nearest_43 : decode cX10_nearest 43 = .ok (.iload_n 3, 1) := by decide +kernel
theorem dX10_nearest_44 : decode cX10_nearest 44 = .ok (.isub, 1) := by decide +kernel
theorem dX10_nearest_45 : decode cX10_nearest 45 = .ok (.goto 5, 3) := by decide +kernel
theorem dX10_nearest_48 : decode cX10_nearest 48 = .ok (.iload 5, 2) := by decide +kernel
theorem dX10_nearest_50 : decode cX10_nearest 50 = .ok (.istore 6, 2) := by decide +kernel
theorem dX10_nearest_52 : decode cX10_nearest 52 = .ok (.iload 6, 2) := by decide +kernel
theorem dX10_nearest_54 : decode cX10_nearest 54 = .ok (.ifCond .gt 11, 3) := by decide +kernel
theorem dX10_nearest_57 : decode cX10_nearest 57 = .ok (.lload_n 1, 1) := by decide +kernel
theorem dX10_nearest_58 : decode cX10_nearest 58 = .ok (.iload 6, 2) := by decide +kernel
theorem dX10_nearest_60 : decode cX10_nearest 60 = .ok (.ineg, 1) := by decide +kernel
theorem dX10_nearest_61 : decode cX10_nearest 61 = .ok (.lshl, 1) := by decide +kernel
theorem dX10_nearest_62 : decode cX10_nearest 62 = .ok (.goto 18, 3) := by decide +kernel
theorem dX10_nearest_65 : decode cX10_nearest 65 = .ok (.iload 6, 2) := by decide +kernel
theorem dX10_nearest_67 : decode cX10_nearest 67 = .ok (.bipush 62, 2) := by decide +kernel
theorem dX10_nearest_69 : decode cX10_nearest 69 = .ok (.if_icmp .le 7, 3) := by decide +kernel
theorem dX10_nearest_72 : decode cX10_nearest 72 = .ok (.lconst 0, 1) := by decide +kernel
theorem dX10_nearest_73 : decode cX10_nearest 73 = .ok (.goto 7, 3) := by decide +kernel
theorem dX10_nearest_76 : decode cX10_nearest 76 = .ok (.lload_n 1, 1) := by decide +kernel
theorem dX10_nearest_77 : decode cX10_nearest 77 = .ok (.iload 6, 2) := by decide +kernel
theorem dX10_nearest_79 : decode cX10_nearest 79 = .ok (.lshr, 1) := by decide +kernel
theorem dX10_nearest_80 : decode cX10_nearest 80 = .ok (.lstore 7, 2) := by decide +kernel
theorem dX10_nearest_82 : decode cX10_nearest 82 = .ok (.iload 6, 2) := by decide +kernel
theorem dX10_nearest_84 : decode cX10_nearest 84 = .ok (.ifCond .gt 7, 3) := by decide +kernel
theorem dX10_nearest_87 : decode cX10_nearest 87 = .ok (.lconst 0, 1) := by decide +kernel
theorem dX10_nearest_88 : decode cX10_nearest 88 = .ok (.goto 22, 3) := by decide +kernel
theorem dX10_nearest_91 : decode cX10_nearest 91 = .ok (.iload 6, 2) := by decide +kernel
theorem dX10_nearest_93 : decode cX10_nearest 93 = .ok (.bipush 62, 2) := by decide +kernel
theorem dX10_nearest_95 : decode cX10_nearest 95 = .ok (.if_icmp .le 7, 3) := by decide +kernel
theorem dX10_nearest_98 : decode cX10_nearest 98 = .ok (.lconst 1, 1) := by decide +kernel
theorem dX10_nearest_99 : decode cX10_nearest 99 = .ok (.goto 11, 3) := by decide +kernel
theorem dX10_nearest_102 : decode cX10_nearest 102 = .ok (.lload_n 1, 1) := by decide +kernel
theorem dX10_nearest_103 : decode cX10_nearest 103 = .ok (.lconst 1, 1) := by decide +kernel
theorem dX10_nearest_104 : decode cX10_nearest 104 = .ok (.iload 6, 2) := by decide +kernel
theorem dX10_nearest_106 : decode cX10_nearest 106 = .ok (.lshl, 1) := by decide +kernel
theorem dX10_nearest_107 : decode cX10_nearest 107 = .ok (.lconst 1, 1) := by decide +kernel
theorem dX10_nearest_108 : decode cX10_nearest 108 = .ok (.lsub, 1) := by decide +kernel
theorem dX10_nearest_109 : decode cX10_nearest 109 = .ok (.land, 1) := by decide +kernel
theorem dX10_nearest_110 : decode cX10_nearest 110 = .ok (.lstore 9, 2) := by decide +kernel
theorem dX10_nearest_112 : decode cX10_nearest 112 = .ok (.iload 6, 2) := by decide +kernel
theorem dX10_nearest_114 : decode cX10_nearest 114 = .ok (.ifCond .gt 7, 3) := by decide +kernel
theorem dX10_nearest_117 : decode cX10_nearest 117 = .ok (.lconst 1, 1) := by decide +kernel
theorem dX10_nearest_118 : decode cX10_nearest 118 = .ok (.goto 22, 3) := by decide +kernel
theorem dX10_nearest_121 : decode cX10_nearest 121 = .ok (.iload 6, 2) := by decide +kernel
theorem dX10_nearest_123 : decode cX10_nearest 123 = .ok (.bipush 62, 2) := by decide +kernel
theorem dX10_nearest_125 : decode cX10_nearest 125 = .ok (.if_icmp .le 9, 3) := by decide +kernel
theorem dX10_nearest_128 : decode cX10_nearest 128 = .ok (.ldc2_w 99, 3) := by decide +kernel
theorem dX10_nearest_131 : decode cX10_nearest 131 = .ok (.goto 9, 3) := by decide +kernel
theorem dX10_nearest_134 : decode cX10_nearest 134 = .ok (.lconst 1, 1) := by decide +kernel
theorem dX10_nearest_135 : decode cX10_nearest 135 = .ok (.iload 6, 2) := by decide +kernel
theorem dX10_nearest_137 : decode cX10_nearest 137 = .ok (.iconst 1, 1) := by decide +kernel
theorem dX10_nearest_138 : decode cX10_nearest 138 = .ok (.isub, 1) := by decide +kernel
theorem dX10_nearest_139 : decode cX10_nearest 139 = .ok (.lshl, 1) := by decide +kernel
theorem dX10_nearest_140 : decode cX10_nearest 140 = .ok (.lstore 11, 2) := by decide +kernel
theorem dX10_nearest_142 : decode cX10_nearest 142 = .ok (.lload 9, 2) := by decide +kernel
theorem dX10_nearest_144 : decode cX10_nearest 144 = .ok (.lload 11, 2) := by decide +kernel
theorem dX10_nearest_146 : decode cX10_nearest 146 = .ok (.lcmp, 1) := by decide +kernel
theorem dX10_nearest_147 : decode cX10_nearest 147 = .ok (.ifCond .gt 25, 3) := by decide +kernel
theorem dX10_nearest_150 : decode cX10_nearest 150 = .ok (.lload 9, 2) := by decide +kernel
theorem dX10_nearest_152 : decode cX10_nearest 152 = .ok (.lload 11, 2) := by decide +kernel
theorem dX10_nearest_154 : decode cX10_nearest 154 = .ok (.lcmp, 1) := by decide +kernel
theorem dX10_nearest_155 : decode cX10_nearest 155 = .ok (.ifCond .ne 21, 3) := by decide +kernel
theorem dX10_nearest_158 : decode cX10_nearest 158 = .ok (.iload 6, 2) := by decide +kernel
theorem dX10_nearest_160 : decode cX10_nearest 160 = .ok (.ifCond .le 16, 3) := by decide +kernel
theorem dX10_nearest_163 : decode cX10_nearest 163 = .ok (.lload 7, 2) := by decide +kernel
theorem dX10_nearest_165 : decode cX10_nearest 165 = .ok (.lconst 1, 1) := by decide +kernel
theorem dX10_nearest_166 : decode cX10_nearest 166 = .ok (.land, 1) := by decide +kernel
theorem dX10_nearest_167 : decode cX10_nearest 167 = .ok (.lconst 1, 1) := by decide +kernel
theorem dX10_nearest_168 : decode cX10_nearest 168 = .ok (.lcmp, 1) := by decide +kernel
theorem dX10_nearest_169 : decode cX10_nearest 169 = .ok (.ifCond .ne 7, 3) := by decide +kernel
theorem dX10_nearest_172 : decode cX10_nearest 172 = .ok (.iconst 1, 1) := by decide +kernel
theorem dX10_nearest_173 : decode cX10_nearest 173 = .ok (.goto 4, 3) := by decide +kernel
theorem dX10_nearest_176 : decode cX10_nearest 176 = .ok (.iconst 0, 1) := by decide +kernel
theorem dX10_nearest_177 : decode cX10_nearest 177 = .ok (.istore 13, 2) := by decide +kernel
theorem dX10_nearest_179 : decode cX10_nearest 179 = .ok (.lload 7, 2) := by decide +kernel
theorem dX10_nearest_181 : decode cX10_nearest 181 = .ok (.iload 13, 2) := by decide +kernel
theorem dX10_nearest_183 : decode cX10_nearest 183 = .ok (.ifCond .eq 7, 3) := by decide +kernel
theorem dX10_nearest_186 : decode cX10_nearest 186 = .ok (.lconst 1, 1) := by decide +kernel
theorem dX10_nearest_187 : decode cX10_nearest 187 = .ok (.goto 4, 3) := by decide +kernel
theorem dX10_nearest_190 : decode cX10_nearest 190 = .ok (.lconst 0, 1) := by decide +kernel
theorem dX10_nearest_191 : decode cX10_nearest 191 = .ok (.ladd, 1) := by decide +kernel
theorem dX10_nearest_192 : decode cX10_nearest 192 = .ok (.lstore 7, 2) := by decide +kernel
theorem dX10_nearest_194 : decode cX10_nearest 194 = .ok (.iload_n 3, 1) := by decide +kernel
theorem dX10_nearest_195 : decode cX10_nearest 195 = .ok (.iload 6, 2) := by decide +kernel
theorem dX10_nearest_197 : decode cX10_nearest 197 = .ok (.iadd, 1) := by decide +kernel
theorem dX10_nearest_198 : decode cX10_nearest 198 = .ok (.istore 14, 2) := by decide +kernel
theorem dX10_nearest_200 : decode cX10_nearest 200 = .ok (.lload 7, 2) := by decide +kernel
theorem dX10_nearest_202 : decode cX10_nearest 202 = .ok (.ldc2_w 118, 3) := by decide +kernel
theorem dX10_nearest_205 : decode cX10_nearest 205 = .ok (.lcmp, 1) := by decide +kernel
theorem dX10_nearest_206 : decode cX10_nearest 206 = .ok (.ifCond .ne 11, 3) := by decide +kernel
theorem dX10_nearest_209 : decode cX10_nearest 209 = .ok (.ldc2_w 120, 3) := by decide +kernel
theorem dX10_nearest_212 : decode cX10_nearest 212 = .ok (.lstore 7, 2) := by decide +kernel
theorem dX10_nearest_214 : decode cX10_nearest 214 = .ok (.iinc 14 1, 3) := by decide +kernel
theorem dX10_nearest_217 : decode cX10_nearest 217 = .ok (.lload 7, 2) := by decide +kernel
theorem dX10_nearest_219 : decode cX10_nearest 219 = .ok (.ldc2_w 120, 3) := by decide +kernel
theorem dX10_nearest_222 : decode cX10_nearest 222 = .ok (.lcmp, 1) := by decide +kernel
theorem dX10_nearest_223 : decode cX10_nearest 223 = .ok (.ifCond .ge 10, 3) := by decide +kernel
theorem dX10_nearest_226 : decode cX10_nearest 226 = .ok (.iload 4, 2) := by decide +kernel
theorem dX10_nearest_228 : decode cX10_nearest 228 = .ok (.lload 7, 2) := by decide +kernel
theorem dX10_nearest_230 : decode cX10_nearest 230 = .ok (.l2i, 1) := by decide +kernel
theorem dX10_nearest_231 : decode cX10_nearest 231 = .ok (.ior, 1) := by decide +kernel
theorem dX10_nearest_232 : decode cX10_nearest 232 = .ok (.ireturn, 1) := by decide +kernel
theorem dX10_nearest_233 : decode cX10_nearest 233 = .ok (.iload 14, 2) := by decide +kernel
theorem dX10_nearest_235 : decode cX10_nearest 235 = .ok (.sipush 150, 3) := by decide +kernel
theorem dX10_nearest_238 : decode cX10_nearest 238 = .ok (.iadd, 1) := by decide +kernel
theorem dX10_nearest_239 : decode cX10_nearest 239 = .ok (.istore 15, 2) := by decide +kernel
theorem dX10_nearest_241 : decode cX10_nearest 241 = .ok (.iload 15, 2) := by decide +kernel
theorem dX10_nearest_243 : decode cX10_nearest 243 = .ok (.sipush 255, 3) := by decide +kernel
theorem dX10_nearest_246 : decode cX10_nearest 246 = .ok (.if_icmp .lt 11, 3) := by decide +kernel
theorem dX10_nearest_249 : decode cX10_nearest 249 = .ok (.iload 4, 2) := by decide +kernel
theorem dX10_nearest_251 : decode cX10_nearest 251 = .ok (.ldc 122, 2) := by decide +kernel
theorem dX10_nearest_253 : decode cX10_nearest 253 = .ok (.ior, 1) := by decide +kernel
theorem dX10_nearest_254 : decode cX10_nearest 254 = .ok (.goto 18, 3) := by decide +kernel
theorem dX10_nearest_257 : decode cX10_nearest 257 = .ok (.iload 4, 2) := by decide +kernel
theorem dX10_nearest_259 : decode cX10_nearest 259 = .ok (.iload 15, 2) := by decide +kernel
theorem dX10_nearest_261 : decode cX10_nearest 261 = .ok (.bipush 23, 2) := by decide +kernel
theorem dX10_nearest_263 : decode cX10_nearest 263 = .ok (.ishl, 1) := by decide +kernel
theorem dX10_nearest_264 : decode cX10_nearest 264 = .ok (.ior, 1) := by decide +kernel
theorem dX10_nearest_265 : decode cX10_nearest 265 = .ok (.lload 7, 2) := by decide +kernel
theorem dX10_nearest_267 : decode cX10_nearest 267 = .ok (.l2i, 1) := by decide +kernel
theorem dX10_nearest_268 : decode cX10_nearest 268 = .ok (.ldc 123, 2) := by decide +kernel
theorem dX10_nearest_270 : decode cX10_nearest 270 = .ok (.iand, 1) := by decide +kernel
theorem dX10_nearest_271 : decode cX10_nearest 271 = .ok (.ior, 1) := by decide +kernel
theorem dX10_nearest_272 : decode cX10_nearest 272 = .ok (.ireturn, 1) := by decide +kernel
theorem dX10_isNan_0 : decode cX10_isNan 0 = .ok (.iload_n 0, 1) := by decide +kernel
theorem dX10_isNan_1 : decode cX10_isNan 1 = .ok (.ldc 124, 2) := by decide +kernel
theorem dX10_isNan_3 : decode cX10_isNan 3 = .ok (.iand, 1) := by decide +kernel
theorem dX10_isNan_4 : decode cX10_isNan 4 = .ok (.ldc 122, 2) := by decide +kernel
theorem dX10_isNan_6 : decode cX10_isNan 6 = .ok (.if_icmp .le 7, 3) := by decide +kernel
theorem dX10_isNan_9 : decode cX10_isNan 9 = .ok (.iconst 1, 1) := by decide +kernel
theorem dX10_isNan_10 : decode cX10_isNan 10 = .ok (.goto 4, 3) := by decide +kernel
theorem dX10_isNan_13 : decode cX10_isNan 13 = .ok (.iconst 0, 1) := by decide +kernel
theorem dX10_isNan_14 : decode cX10_isNan 14 = .ok (.ireturn, 1) := by decide +kernel
theorem dX10_isEndless_0 : decode cX10_isEndless 0 = .ok (.iload_n 0, 1) := by decide +kernel
theorem dX10_isEndless_1 : decode cX10_isEndless 1 = .ok (.ldc 124, 2) := by decide +kernel
theorem dX10_isEndless_3 : decode cX10_isEndless 3 = .ok (.iand, 1) := by decide +kernel
theorem dX10_isEndless_4 : decode cX10_isEndless 4 = .ok (.ldc 122, 2) := by decide +kernel
theorem dX10_isEndless_6 : decode cX10_isEndless 6 = .ok (.if_icmp .ne 7, 3) := by decide +kernel
theorem dX10_isEndless_9 : decode cX10_isEndless 9 = .ok (.iconst 1, 1) := by decide +kernel
theorem dX10_isEndless_10 : decode cX10_isEndless 10 = .ok (.goto 4, 3) := by decide +kernel
theorem dX10_isEndless_13 : decode cX10_isEndless 13 = .ok (.iconst 0, 1) := by decide +kernel
theorem dX10_isEndless_14 : decode cX10_isEndless 14 = .ok (.ireturn, 1) := by decide +kernel
theorem dX10_powerOf_0 : decode cX10_powerOf 0 = .ok (.iload_n 0, 1) := by decide +kernel
theorem dX10_powerOf_1 : decode cX10_powerOf 1 = .ok (.bipush 23, 2) := by decide +kernel
theorem dX10_powerOf_3 : decode cX10_powerOf 3 = .ok (.ishr, 1) := by decide +kernel
theorem dX10_powerOf_4 : decode cX10_powerOf 4 = .ok (.sipush 255, 3) := by decide +kernel
theorem dX10_powerOf_7 : decode cX10_powerOf 7 = .ok (.iand, 1) := by decide +kernel
theorem dX10_powerOf_8 : decode cX10_powerOf 8 = .ok (.istore_n 1, 1) := by decide +kernel
theorem dX10_powerOf_9 : decode cX10_powerOf 9 = .ok (.iload_n 1, 1) := by decide +kernel
theorem dX10_powerOf_10 : decode cX10_powerOf 10 = .ok (.ifCond .ne 7, 3) := by decide +kernel
theorem dX10_powerOf_13 : decode cX10_powerOf 13 = .ok (.iconst 1, 1) := by decide +kernel
theorem dX10_powerOf_14 : decode cX10_powerOf 14 = .ok (.goto 4, 3) := by decide +kernel
theorem dX10_powerOf_17 : decode cX10_powerOf 17 = .ok (.iload_n 1, 1) := by decide +kernel
theorem dX10_powerOf_18 : decode cX10_powerOf 18 = .ok (.sipush 150, 3) := by decide +kernel
theorem dX10_powerOf_21 : decode cX10_powerOf 21 = .ok (.isub, 1) := by decide +kernel
theorem dX10_powerOf_22 : decode cX10_powerOf 22 = .ok (.ireturn, 1) := by decide +kernel
theorem dX10_placesOf_0 : decode cX10_placesOf 0 = .ok (.iload_n 0, 1) := by decide +kernel
theorem dX10_placesOf_1 : decode cX10_placesOf 1 = .ok (.bipush 23, 2) := by decide +kernel
theorem dX10_placesOf_3 : decode cX10_placesOf 3 = .ok (.ishr, 1) := by decide +kernel
theorem dX10_placesOf_4 : decode cX10_placesOf 4 = .ok (.sipush 255, 3) := by decide +kernel
theorem dX10_placesOf_7 : decode cX10_placesOf 7 = .ok (.iand, 1) := by decide +kernel
theorem dX10_placesOf_8 : decode cX10_placesOf 8 = .ok (.istore_n 1, 1) := by decide +kernel
theorem dX10_placesOf_9 : decode cX10_placesOf 9 = .ok (.iload_n 1, 1) := by decide +kernel
theorem dX10_placesOf_10 : decode cX10_placesOf 10 = .ok (.ifCond .ne 11, 3) := by decide +kernel
theorem dX10_placesOf_13 : decode cX10_placesOf 13 = .ok (.iload_n 0, 1) := by decide +kernel
theorem dX10_placesOf_14 : decode cX10_placesOf 14 = .ok (.ldc 123, 2) := by decide +kernel
theorem dX10_placesOf_16 : decode cX10_placesOf 16 = .ok (.iand, 1) := by decide +kernel
theorem dX10_placesOf_17 : decode cX10_placesOf 17 = .ok (.i2l, 1) := by decide +kernel
theorem dX10_placesOf_18 : decode cX10_placesOf 18 = .ok (.goto 11, 3) := by decide +kernel
theorem dX10_placesOf_21 : decode cX10_placesOf 21 = .ok (.iload_n 0, 1) := by decide +kernel
theorem dX10_placesOf_22 : decode cX10_placesOf 22 = .ok (.ldc 123, 2) := by decide +kernel
theorem dX10_placesOf_24 : decode cX10_placesOf 24 = .ok (.iand, 1) := by decide +kernel
theorem dX10_placesOf_25 : decode cX10_placesOf 25 = .ok (.ldc 125, 2) := by decide +kernel
theorem dX10_placesOf_27 : decode cX10_placesOf 27 = .ok (.ior, 1) := by decide +kernel
theorem dX10_placesOf_28 : decode cX10_placesOf 28 = .ok (.i2l, 1) := by decide +kernel
theorem dX10_placesOf_29 : decode cX10_placesOf 29 = .ok (.lreturn, 1) := by decide +kernel
theorem dX10_product_0 : decode cX10_product 0 = .ok (.iload_n 0, 1) := by decide +kernel
theorem dX10_product_1 : decode cX10_product 1 = .ok (.invokestatic 126, 3) := by decide +kernel
theorem dX10_product_4 : decode cX10_product 4 = .ok (.ifCond .ne 10, 3) := by decide +kernel
theorem dX10_product_7 : decode cX10_product 7 = .ok (.iload_n 1, 1) := by decide +kernel
theorem dX10_product_8 : decode cX10_product 8 = .ok (.invokestatic 126, 3) := by decide +kernel
theorem dX10_product_11 : decode cX10_product 11 = .ok (.ifCond .eq 6, 3) := by decide +kernel
theorem dX10_product_14 : decode cX10_product 14 = .ok (.ldc 129, 2) := by decide +kernel
theorem dX10_product_16 : decode cX10_product 16 = .ok (.ireturn, 1) := by decide +kernel
theorem dX10_product_17 : decode cX10_product 17 = .ok (.iload_n 0, 1) := by decide +kernel
theorem dX10_product_18 : decode cX10_product 18 = .ok (.ifCond .ge 7, 3) := by decide +kernel
theorem dX10_product_21 : decode cX10_product 21 = .ok (.iconst 1, 1) := by decide +kernel
theorem dX10_product_22 : decode cX10_product 22 = .ok (.goto 4, 3) := by decide +kernel
theorem dX10_product_25 : decode cX10_product 25 = .ok (.iconst 0, 1) := by decide +kernel
theorem dX10_product_26 : decode cX10_product 26 = .ok (.iload_n 1, 1) := by decide +kernel
theorem dX10_product_27 : decode cX10_product 27 = .ok (.ifCond .ge 7, 3) := by decide +kernel
theorem dX10_product_30 : decode cX10_product 30 = .ok (.iconst 1, 1) := by decide +kernel
theorem dX10_product_31 : decode cX10_product 31 = .ok (.goto 4, 3) := by decide +kernel
theorem dX10_product_34 : decode cX10_product 34 = .ok (.iconst 0, 1) := by decide +kernel
theorem dX10_product_35 : decode cX10_product 35 = .ok (.if_icmp .eq 7, 3) := by decide +kernel
theorem dX10_product_38 : decode cX10_product 38 = .ok (.iconst 1, 1) := by decide +kernel
theorem dX10_product_39 : decode cX10_product 39 = .ok (.goto 4, 3) := by decide +kernel
theorem dX10_product_42 : decode cX10_product 42 = .ok (.iconst 0, 1) := by decide +kernel
theorem dX10_product_43 : decode cX10_product 43 = .ok (.istore_n 2, 1) := by decide +kernel
theorem dX10_product_44 : decode cX10_product 44 = .ok (.iload_n 0, 1) := by decide +kernel
theorem dX10_product_45 : decode cX10_product 45 = .ok (.invokestatic 130, 3) := by decide +kernel
theorem dX10_product_48 : decode cX10_product 48 = .ok (.ifCond .ne 10, 3) := by decide +kernel
theorem dX10_product_51 : decode cX10_product 51 = .ok (.iload_n 1, 1) := by decide +kernel
theorem dX10_product_52 : decode cX10_product 52 = .ok (.invokestatic 130, 3) := by decide +kernel
theorem dX10_product_55 : decode cX10_product 55 = .ok (.ifCond .eq 7, 3) := by decide +kernel
theorem dX10_product_58 : decode cX10_product 58 = .ok (.iconst 1, 1) := by decide +kernel
theorem dX10_product_59 : decode cX10_product 59 = .ok (.goto 4, 3) := by decide +kernel
theorem dX10_product_62 : decode cX10_product 62 = .ok (.iconst 0, 1) := by decide +kernel
theorem dX10_product_63 : decode cX10_product 63 = .ok (.istore_n 3, 1) := by decide +kernel
theorem dX10_product_64 : decode cX10_product 64 = .ok (.iload_n 0, 1) := by decide +kernel
theorem dX10_product_65 : decode cX10_product 65 = .ok (.ldc 124, 2) := by decide +kernel
theorem dX10_product_67 : decode cX10_product 67 = .ok (.iand, 1) := by decide +kernel
theorem dX10_product_68 : decode cX10_product 68 = .ok (.ifCond .eq 10, 3) := by decide +kernel
theorem dX10_product_71 : decode cX10_product 71 = .ok (.iload_n 1, 1) := by decide +kernel
theorem dX10_product_72 : decode cX10_product 72 = .ok (.ldc 124, 2) := by decide +kernel
theorem dX10_product_74 : decode cX10_product 74 = .ok (.iand, 1) := by decide +kernel
theorem dX10_product_75 : decode cX10_product 75 = .ok (.ifCond .ne 7, 3) := by decide +kernel
theorem dX10_product_78 : decode cX10_product 78 = .ok (.iconst 1, 1) := by decide +kernel
theorem dX10_product_79 : decode cX10_product 79 = .ok (.goto 4, 3) := by decide +kernel
theorem dX10_product_82 : decode cX10_product 82 = .ok (.iconst 0, 1) := by decide +kernel
theorem dX10_product_83 : decode cX10_product 83 = .ok (.istore 4, 2) := by decide +kernel
theorem dX10_product_85 : decode cX10_product 85 = .ok (.iload_n 3, 1) := by decide +kernel
theorem dX10_product_86 : decode cX10_product 86 = .ok (.ifCond .eq 25, 3) := by decide +kernel
theorem dX10_product_89 : decode cX10_product 89 = .ok (.iload 4, 2) := by decide +kernel
theorem dX10_product_91 : decode cX10_product 91 = .ok (.ifCond .eq 8, 3) := by decide +kernel
theorem dX10_product_94 : decode cX10_product 94 = .ok (.ldc 129, 2) := by decide +kernel
theorem dX10_product_96 : decode cX10_product 96 = .ok (.goto 14, 3) := by decide +kernel
theorem dX10_product_99 : decode cX10_product 99 = .ok (.iload_n 2, 1) := by decide +kernel
theorem dX10_product_100 : decode cX10_product 100 = .ok (.ifCond .eq 8, 3) := by decide +kernel
theorem dX10_product_103 : decode cX10_product 103 = .ok (.ldc 144, 2) := by decide +kernel
theorem dX10_product_105 : decode cX10_product 105 = .ok (.goto 5, 3) := by decide +kernel
theorem dX10_product_108 : decode cX10_product 108 = .ok (.ldc 122, 2) := by decide +kernel
theorem dX10_product_110 : decode cX10_product 110 = .ok (.ireturn, 1) := by decide +kernel
theorem dX10_product_111 : decode cX10_product 111 = .ok (.iload_n 2, 1) := by decide +kernel
theorem dX10_product_112 : decode cX10_product 112 = .ok (.iload_n 0, 1) := by decide +kernel
theorem dX10_product_113 : decode cX10_product 113 = .ok (.invokestatic 136, 3) := by decide +kernel
theorem dX10_product_116 : decode cX10_product 116 = .ok (.iload_n 1, 1) := by decide +kernel
theorem dX10_product_117 : decode cX10_product 117 = .ok (.invokestatic 136, 3) := by decide +kernel
theorem dX10_product_120 : decode cX10_product 120 = .ok (.lmul, 1) := by decide +kernel
theorem dX10_product_121 : decode cX10_product 121 = .ok (.iload_n 0, 1) := by decide +kernel
theorem dX10_product_122 : decode cX10_product 122 = .ok (.invokestatic 133, 3) := by decide +kernel
theorem dX10_product_125 : decode cX10_product 125 = .ok (.iload_n 1, 1) := by decide +kernel
theorem dX10_product_126 : decode cX10_product 126 = .ok (.invokestatic 133, 3) := by decide +kernel
theorem dX10_product_129 : decode cX10_product 129 = .ok (.iadd, 1) := by decide +kernel
theorem dX10_product_130 : decode cX10_product 130 = .ok (.invokestatic 140, 3) := by decide +kernel
theorem dX10_product_133 : decode cX10_product 133 = .ok (.ireturn, 1) := by decide +kernel
theorem dX10_floatOf_0 : decode cX10_floatOf 0 = .ok (.lload_n 0, 1) := by decide +kernel
theorem dX10_floatOf_1 : decode cX10_floatOf 1 = .ok (.lconst 0, 1) := by decide +kernel
theorem dX10_floatOf_2 : decode cX10_floatOf 2 = .ok (.lcmp, 1) := by decide +kernel
theorem dX10_floatOf_3 : decode cX10_floatOf 3 = .ok (.ifCond .ge 7, 3) := by decide +kernel
theorem dX10_floatOf_6 : decode cX10_floatOf 6 = .ok (.iconst 1, 1) := by decide +kernel
theorem dX10_floatOf_7 : decode cX10_floatOf 7 = .ok (.goto 4, 3) := by decide +kernel
theorem dX10_floatOf_10 : decode cX10_floatOf 10 = .ok (.iconst 0, 1) := by decide +kernel
theorem dX10_floatOf_11 : decode cX10_floatOf 11 = .ok (.lload_n 0, 1) := by decide +kernel
theorem dX10_floatOf_12 : decode cX10_floatOf 12 = .ok (.lconst 0, 1) := by decide +kernel
theorem dX10_floatOf_13 : decode cX10_floatOf 13 = .ok (.lcmp, 1) := by decide +kernel
theorem dX10_floatOf_14 : decode cX10_floatOf 14 = .ok (.ifCond .ge 8, 3) := by decide +kernel
theorem dX10_floatOf_17 : decode cX10_floatOf 17 = .ok (.lload_n 0, 1) := by decide +kernel
theorem dX10_floatOf_18 : decode cX10_floatOf 18 = .ok (.lneg, 1) := by decide +kernel
theorem dX10_floatOf_19 : decode cX10_floatOf 19 = .ok (.goto 4, 3) := by decide +kernel
theorem dX10_floatOf_22 : decode cX10_floatOf 22 = .ok (.lload_n 0, 1) := by decide +kernel
theorem dX10_floatOf_23 : decode cX10_floatOf 23 = .ok (.iconst 0, 1) := by decide +kernel
theorem dX10_floatOf_24 : decode cX10_floatOf 24 = .ok (.invokestatic 140, 3) := by decide +kernel
theorem dX10_floatOf_27 : decode cX10_floatOf 27 = .ok (.ireturn, 1) := by decide +kernel
theorem dX10_isCode_0 : decode cX10_isCode 0 = .ok (.iload_n 0, 1) := by decide +kernel
theorem dX10_isCode_1 : decode cX10_isCode 1 = .ok (.i2l, 1) := by decide +kernel
theorem dX10_isCode_2 : decode cX10_isCode 2 = .ok (.lconst 0, 1) := by decide +kernel
theorem dX10_isCode_3 : decode cX10_isCode 3 = .ok (.ldc2_w 148, 3) := by decide +kernel
theorem dX10_isCode_6 : decode cX10_isCode 6 = .ok (.invokestatic 86, 3) := by decide +kernel
theorem dX10_isCode_9 : decode cX10_isCode 9 = .ok (.ifCond .eq 45, 3) := by decide +kernel
theorem dX10_isCode_12 : decode cX10_isCode 12 = .ok (.iload_n 1, 1) := by decide +kernel
theorem dX10_isCode_13 : decode cX10_isCode 13 = .ok (.i2l, 1) := by decide +kernel
theorem dX10_isCode_14 : decode cX10_isCode 14 = .ok (.lconst 0, 1) := by decide +kernel
theorem dX10_isCode_15 : decode cX10_isCode 15 = .ok (.ldc2_w 150, 3) := by decide +kernel
theorem dX10_isCode_18 : decode cX10_isCode 18 = .ok (.invokestatic 86, 3) := by decide +kernel
theorem dX10_isCode_21 : decode cX10_isCode 21 = .ok (.ifCond .eq 33, 3) := by decide +kernel
theorem dX10_isCode_24 : decode cX10_isCode 24 = .ok (.iload_n 2, 1) := by decide +kernel
theorem dX10_isCode_25 : decode cX10_isCode 25 = .ok (.i2l, 1) := by decide +kernel
theorem dX10_isCode_26 : decode cX10_isCode 26 = .ok (.ldc2_w 152, 3) := by decide +kernel
theorem dX10_isCode_29 : decode cX10_isCode 29 = .ok (.ldc2_w 154, 3) := by decide +kernel
theorem dX10_isCode_32 : decode cX10_isCode 32 = .ok (.invokestatic 86, 3) := by decide +kernel
theorem dX10_isCode_35 : decode cX10_isCode 35 = .ok (.ifCond .eq 19, 3) := by decide +kernel
theorem dX10_isCode_38 : decode cX10_isCode 38 = .ok (.iload_n 3, 1) := by decide +kernel
theorem dX10_isCode_39 : decode cX10_isCode 39 = .ok (.i2l, 1) := by decide +kernel
theorem dX10_isCode_40 : decode cX10_isCode 40 = .ok (.lconst 0, 1) := by decide +kernel
theorem dX10_isCode_41 : decode cX10_isCode 41 = .ok (.ldc2_w 156, 3) := by decide +kernel
theorem dX10_isCode_44 : decode cX10_isCode 44 = .ok (.invokestatic 86, 3) := by decide +kernel
theorem dX10_isCode_47 : decode cX10_isCode 47 = .ok (.ifCond .eq 7, 3) := by decide +kernel
theorem dX10_isCode_50 : decode cX10_isCode 50 = .ok (.iconst 1, 1) := by decide +kernel
theorem dX10_isCode_51 : decode cX10_isCode 51 = .ok (.goto 4, 3) := by decide +kernel
theorem dX10_isCode_54 : decode cX10_isCode 54 = .ok (.iconst 0, 1) := by decide +kernel
theorem dX10_isCode_55 : decode cX10_isCode 55 = .ok (.ireturn, 1) := by decide +kernel
theorem dX10_lays_0 : decode cX10_lays 0 = .ok (.aload_n 0, 1) := by decide +kernel
theorem dX10_lays_1 : decode cX10_lays 1 = .ok (.getfield 22, 3) := by decide +kernel
theorem dX10_lays_4 : decode cX10_lays 4 = .ok (.iconst 4, 1) := by decide +kernel
theorem dX10_lays_5 : decode cX10_lays 5 = .ok (.iload_n 1, 1) := by decide +kernel
theorem dX10_lays_6 : decode cX10_lays 6 = .ok (.imul, 1) := by decide +kernel
theorem dX10_lays_7 : decode cX10_lays 7 = .ok (.iload_n 2, 1) := by decide +kernel
theorem dX10_lays_8 : decode cX10_lays 8 = .ok (.iastore, 1) := by decide +kernel
theorem dX10_lays_9 : decode cX10_lays 9 = .ok (.aload_n 0, 1) := by decide +kernel
theorem dX10_lays_10 : decode cX10_lays 10 = .ok (.getfield 22, 3) := by decide +kernel
theorem dX10_lays_13 : decode cX10_lays 13 = .ok (.iconst 4, 1) := by decide +kernel
theorem dX10_lays_14 : decode cX10_lays 14 = .ok (.iload_n 1, 1) := by decide +kernel
theorem dX10_lays_15 : decode cX10_lays 15 = .ok (.imul, 1) := by decide +kernel
theorem dX10_lays_16 : decode cX10_lays 16 = .ok (.iconst 1, 1) := by decide +kernel
theorem dX10_lays_17 : decode cX10_lays 17 = .ok (.iadd, 1) := by decide +kernel
theorem dX10_lays_18 : decode cX10_lays 18 = .ok (.iload_n 3, 1) := by decide +kernel
theorem dX10_lays_19 : decode cX10_lays 19 = .ok (.iastore, 1) := by decide +kernel
theorem dX10_lays_20 : decode cX10_lays 20 = .ok (.aload_n 0, 1) := by decide +kernel
theorem dX10_lays_21 : decode cX10_lays 21 = .ok (.getfield 22, 3) := by decide +kernel
theorem dX10_lays_24 : decode cX10_lays 24 = .ok (.iconst 4, 1) := by decide +kernel
theorem dX10_lays_25 : decode cX10_lays 25 = .ok (.iload_n 1, 1) := by decide +kernel
theorem dX10_lays_26 : decode cX10_lays 26 = .ok (.imul, 1) := by decide +kernel
theorem dX10_lays_27 : decode cX10_lays 27 = .ok (.iconst 2, 1) := by decide +kernel
theorem dX10_lays_28 : decode cX10_lays 28 = .ok (.iadd, 1) := by decide +kernel
theorem dX10_lays_29 : decode cX10_lays 29 = .ok (.iload 4, 2) := by decide +kernel
theorem dX10_lays_31 : decode cX10_lays 31 = .ok (.iastore, 1) := by decide +kernel
theorem dX10_lays_32 : decode cX10_lays 32 = .ok (.aload_n 0, 1) := by decide +kernel
theorem dX10_lays_33 : decode cX10_lays 33 = .ok (.getfield 22, 3) := by decide +kernel
theorem dX10_lays_36 : decode cX10_lays 36 = .ok (.iconst 4, 1) := by decide +kernel
theorem dX10_lays_37 : decode cX10_lays 37 = .ok (.iload_n 1, 1) := by decide +kernel
theorem dX10_lays_38 : decode cX10_lays 38 = .ok (.imul, 1) := by decide +kernel
theorem dX10_lays_39 : decode cX10_lays 39 = .ok (.iconst 3, 1) := by decide +kernel
theorem dX10_lays_40 : decode cX10_lays 40 = .ok (.iadd, 1) := by decide +kernel
theorem dX10_lays_41 : decode cX10_lays 41 = .ok (.iload 5, 2) := by decide +kernel
theorem dX10_lays_43 : decode cX10_lays 43 = .ok (.iastore, 1) := by decide +kernel
theorem dX10_lays_44 : decode cX10_lays 44 = .ok (.return_, 1) := by decide +kernel
theorem dX10_add_0 : decode cX10_add 0 = .ok (.iload_n 1, 1) := by decide +kernel
theorem dX10_add_1 : decode cX10_add 1 = .ok (.iload_n 2, 1) := by decide +kernel
theorem dX10_add_2 : decode cX10_add 2 = .ok (.iload_n 3, 1) := by decide +kernel
theorem dX10_add_3 : decode cX10_add 3 = .ok (.iload 4, 2) := by decide +kernel
theorem dX10_add_5 : decode cX10_add 5 = .ok (.invokestatic 158, 3) := by decide +kernel
theorem dX10_add_8 : decode cX10_add 8 = .ok (.ifCond .ne 6, 3) := by decide +kernel
theorem dX10_add_11 : decode cX10_add 11 = .ok (.bipush (-2), 2) := by decide +kernel
theorem dX10_add_13 : decode cX10_add 13 = .ok (.ireturn, 1) := by decide +kernel
theorem dX10_add_14 : decode cX10_add 14 = .ok (.aload_n 0, 1) := by decide +kernel
theorem dX10_add_15 : decode cX10_add 15 = .ok (.getfield 162, 3) := by decide +kernel
theorem dX10_add_18 : decode cX10_add 18 = .ok (.bipush 24, 2) := by decide +kernel
theorem dX10_add_20 : decode cX10_add 20 = .ok (.if_icmp .ne 6, 3) := by decide +kernel
theorem dX10_add_23 : decode cX10_add 23 = .ok (.bipush (-4), 2) := by decide +kernel
theorem dX10_add_25 : decode cX10_add 25 = .ok (.ireturn, 1) := by decide +kernel
theorem dX10_add_26 : decode cX10_add 26 = .ok (.aload_n 0, 1) := by decide +kernel
theorem dX10_add_27 : decode cX10_add 27 = .ok (.aload_n 0, 1) := by decide +kernel
theorem dX10_add_28 : decode cX10_add 28 = .ok (.getfield 162, 3) := by decide +kernel
theorem dX10_add_31 : decode cX10_add 31 = .ok (.iload_n 1, 1) := by decide +kernel
theorem dX10_add_32 : decode cX10_add 32 = .ok (.iload_n 2, 1) := by decide +kernel
theorem dX10_add_33 : decode cX10_add 33 = .ok (.iload_n 3, 1) := by decide +kernel
theorem dX10_add_34 : decode cX10_add 34 = .ok (.iload 4, 2) := by decide +kernel
theorem dX10_add_36 : decode cX10_add 36 = .ok (.invokevirtual 165, 3) := by decide +kernel
theorem dX10_add_39 : decode cX10_add 39 = .ok (.aload_n 0, 1) := by decide +kernel
theorem dX10_add_40 : decode cX10_add 40 = .ok (.dup, 1) := by decide +kernel
theorem dX10_add_41 : decode cX10_add 41 = .ok (.getfield 162, 3) := by decide +kernel
theorem dX10_add_44 : decode cX10_add 44 = .ok (.iconst 1, 1) := by decide +kernel
theorem dX10_add_45 : decode cX10_add 45 = .ok (.iadd, 1) := by decide +kernel
theorem dX10_add_46 : decode cX10_add 46 = .ok (.putfield 162, 3) := by decide +kernel
theorem dX10_add_49 : decode cX10_add 49 = .ok (.aload_n 0, 1) := by decide +kernel
theorem dX10_add_50 : decode cX10_add 50 = .ok (.getfield 162, 3) := by decide +kernel
theorem dX10_add_53 : decode cX10_add 53 = .ok (.ireturn, 1) := by decide +kernel
theorem dX10_isPoint_0 : decode cX10_isPoint 0 = .ok (.iload_n 1, 1) := by decide +kernel
theorem dX10_isPoint_1 : decode cX10_isPoint 1 = .ok (.i2l, 1) := by decide +kernel
theorem dX10_isPoint_2 : decode cX10_isPoint 2 = .ok (.lconst 0, 1) := by decide +kernel
theorem dX10_isPoint_3 : decode cX10_isPoint 3 = .ok (.aload_n 0, 1) := by decide +kernel
theorem dX10_isPoint_4 : decode cX10_isPoint 4 = .ok (.getfield 162, 3) := by decide +kernel
theorem dX10_isPoint_7 : decode cX10_isPoint 7 = .ok (.iconst 1, 1) := by decide +kernel
theorem dX10_isPoint_8 : decode cX10_isPoint 8 = .ok (.isub, 1) := by decide +kernel
theorem dX10_isPoint_9 : decode cX10_isPoint 9 = .ok (.i2l, 1) := by decide +kernel
theorem dX10_isPoint_10 : decode cX10_isPoint 10 = .ok (.invokestatic 86, 3) := by decide +kernel
theorem dX10_isPoint_13 : decode cX10_isPoint 13 = .ok (.ireturn, 1) := by decide +kernel
theorem dX10_alter_0 : decode cX10_alter 0 = .ok (.aload_n 0, 1) := by decide +kernel
theorem dX10_alter_1 : decode cX10_alter 1 = .ok (.iload_n 1, 1) := by decide +kernel
theorem dX10_alter_2 : decode cX10_alter 2 = .ok (.invokevirtual 169, 3) := by decide +kernel
theorem dX10_alter_5 : decode cX10_alter 5 = .ok (.ifCond .eq 15, 3) := by decide +kernel
theorem dX10_alter_8 : decode cX10_alter 8 = .ok (.iload_n 2, 1) := by decide +kernel
theorem dX10_alter_9 : decode cX10_alter 9 = .ok (.iload_n 3, 1) := by decide +kernel
theorem dX10_alter_10 : decode cX10_alter 10 = .ok (.iload 4, 2) := by decide +kernel
theorem dX10_alter_12 : decode cX10_alter 12 = .ok (.iload 5, 2) := by decide +kernel
theorem dX10_alter_14 : decode cX10_alter 14 = .ok (.invokestatic 158, 3) := by decide +kernel
theorem dX10_alter_17 : decode cX10_alter 17 = .ok (.ifCond .ne 6, 3) := by decide +kernel
theorem dX10_alter_20 : decode cX10_alter 20 = .ok (.bipush (-2), 2) := by decide +kernel
theorem dX10_alter_22 : decode cX10_alter 22 = .ok (.ireturn, 1) := by decide +kernel
theorem dX10_alter_23 : decode cX10_alter 23 = .ok (.aload_n 0, 1) := by decide +kernel
theorem dX10_alter_24 : decode cX10_alter 24 = .ok (.iload_n 1, 1) := by decide +kernel
theorem dX10_alter_25 : decode cX10_alter 25 = .ok (.iload_n 2, 1) := by decide +kernel
theorem dX10_alter_26 : decode cX10_alter 26 = .ok (.iload_n 3, 1) := by decide +kernel
theorem dX10_alter_27 : decode cX10_alter 27 = .ok (.iload 4, 2) := by decide +kernel
theorem dX10_alter_29 : decode cX10_alter 29 = .ok (.iload 5, 2) := by decide +kernel
theorem dX10_alter_31 : decode cX10_alter 31 = .ok (.invokevirtual 165, 3) := by decide +kernel
theorem dX10_alter_34 : decode cX10_alter 34 = .ok (.iconst 1, 1) := by decide +kernel
theorem dX10_alter_35 : decode cX10_alter 35 = .ok (.ireturn, 1) := by decide +kernel
theorem dX10_back_0 : decode cX10_back 0 = .ok (.aload_n 0, 1) := by decide +kernel
theorem dX10_back_1 : decode cX10_back 1 = .ok (.getfield 162, 3) := by decide +kernel
theorem dX10_back_4 : decode cX10_back 4 = .ok (.ifCond .ne 6, 3) := by decide +kernel
theorem dX10_back_7 : decode cX10_back 7 = .ok (.bipush (-3), 2) := by decide +kernel
theorem dX10_back_9 : decode cX10_back 9 = .ok (.ireturn, 1) := by decide +kernel
theorem dX10_back_10 : decode cX10_back 10 = .ok (.aload_n 0, 1) := by decide +kernel
theorem dX10_back_11 : decode cX10_back 11 = .ok (.dup, 1) := by decide +kernel
theorem dX10_back_12 : decode cX10_back 12 = .ok (.getfield 162, 3) := by decide +kernel
theorem dX10_back_15 : decode cX10_back 15 = .ok (.iconst 1, 1) := by decide +kernel
theorem dX10_back_16 : decode cX10_back 16 = .ok (.isub, 1) := by decide +kernel
theorem dX10_back_17 : decode cX10_back 17 = .ok (.putfield 162, 3) := by decide +kernel
theorem dX10_back_20 : decode cX10_back 20 = .ok (.aload_n 0, 1) := by decide +kernel
theorem dX10_back_21 : decode cX10_back 21 = .ok (.getfield 162, 3) := by decide +kernel
theorem dX10_back_24 : decode cX10_back 24 = .ok (.ireturn, 1) := by decide +kernel
theorem dX10_code_0 : decode cX10_code 0 = .ok (.aload_n 0, 1) := by decide +kernel
theorem dX10_code_1 : decode cX10_code 1 = .ok (.iload_n 1, 1) := by decide +kernel
theorem dX10_code_2 : decode cX10_code 2 = .ok (.invokevirtual 169, 3) := by decide +kernel
theorem dX10_code_5 : decode cX10_code 5 = .ok (.ifCond .eq 28, 3) := by decide +kernel
theorem dX10_code_8 : decode cX10_code 8 = .ok (.iload_n 2, 1) := by decide +kernel
theorem dX10_code_9 : decode cX10_code 9 = .ok (.i2l, 1) := by decide +kernel
theorem dX10_code_10 : decode cX10_code 10 = .ok (.lconst 0, 1) := by decide +kernel
theorem dX10_code_11 : decode cX10_code 11 = .ok (.ldc2_w 93, 3) := by decide +kernel
theorem dX10_code_14 : decode cX10_code 14 = .ok (.invokestatic 86, 3) := by decide +kernel
theorem dX10_code_17 : decode cX10_code 17 = .ok (.ifCond .eq 16, 3) := by decide +kernel
theorem dX10_code_20 : decode cX10_code 20 = .ok (.aload_n 0, 1) := by decide +kernel
theorem dX10_code_21 : decode cX10_code 21 = .ok (.getfield 22, 3) := by decide +kernel
theorem dX10_code_24 : decode cX10_code 24 = .ok (.iconst 4, 1) := by decide +kernel
theorem dX10_code_25 : decode cX10_code 25 = .ok (.iload_n 1, 1) := by decide +kernel
theorem dX10_code_26 : decode cX10_code 26 = .ok (.imul, 1) := by decide +kernel
theorem dX10_code_27 : decode cX10_code 27 = .ok (.iload_n 2, 1) := by decide +kernel
theorem dX10_code_28 : decode cX10_code 28 = .ok (.iadd, 1) := by decide +kernel
theorem dX10_code_29 : decode cX10_code 29 = .ok (.iaload, 1) := by decide +kernel
theorem dX10_code_30 : decode cX10_code 30 = .ok (.goto 5, 3) := by decide +kernel
theorem dX10_code_33 : decode cX10_code 33 = .ok (.ldc 113, 2) := by decide +kernel
theorem dX10_code_35 : decode cX10_code 35 = .ok (.ireturn, 1) := by decide +kernel
theorem dX10_isRegister_0 : decode cX10_isRegister 0 = .ok (.iload_n 0, 1) := by decide +kernel
theorem dX10_isRegister_1 : decode cX10_isRegister 1 = .ok (.i2l, 1) := by decide +kernel
theorem dX10_isRegister_2 : decode cX10_isRegister 2 = .ok (.lconst 0, 1) := by decide +kernel
theorem dX10_isRegister_3 : decode cX10_isRegister 3 = .ok (.ldc2_w 156, 3) := by decide +kernel
theorem dX10_isRegister_6 : decode cX10_isRegister 6 = .ok (.invokestatic 86, 3) := by decide +kernel
theorem dX10_isRegister_9 : decode cX10_isRegister 9 = .ok (.ireturn, 1) := by decide +kernel
theorem dX10_load_0 : decode cX10_load 0 = .ok (.iload_n 1, 1) := by decide +kernel
theorem dX10_load_1 : decode cX10_load 1 = .ok (.invokestatic 172, 3) := by decide +kernel
theorem dX10_load_4 : decode cX10_load 4 = .ok (.ifCond .eq 10, 3) := by decide +kernel
theorem dX10_load_7 : decode cX10_load 7 = .ok (.iload_n 2, 1) := by decide +kernel
theorem dX10_load_8 : decode cX10_load 8 = .ok (.invokestatic 175, 3) := by decide +kernel
theorem dX10_load_11 : decode cX10_load 11 = .ok (.ifCond .ne 6, 3) := by decide +kernel
theorem dX10_load_14 : decode cX10_load 14 = .ok (.bipush (-2), 2) := by decide +kernel
theorem dX10_load_16 : decode cX10_load 16 = .ok (.ireturn, 1) := by decide +kernel
theorem dX10_load_17 : decode cX10_load 17 = .ok (.aload_n 0, 1) := by decide +kernel
theorem dX10_load_18 : decode cX10_load 18 = .ok (.getfield 25, 3) := by decide +kernel
theorem dX10_load_21 : decode cX10_load 21 = .ok (.iload_n 1, 1) := by decide +kernel
theorem dX10_load_22 : decode cX10_load 22 = .ok (.iload_n 2, 1) := by decide +kernel
theorem dX10_load_23 : decode cX10_load 23 = .ok (.iastore, 1) := by decide +kernel
theorem dX10_load_24 : decode cX10_load 24 = .ok (.aload_n 0, 1) := by decide +kernel
theorem dX10_load_25 : decode cX10_load 25 = .ok (.getfield 28, 3) := by decide +kernel
theorem dX10_load_28 : decode cX10_load 28 = .ok (.iload_n 1, 1) := by decide +kernel
theorem dX10_load_29 : decode cX10_load 29 = .ok (.iload_n 2, 1) := by decide +kernel
theorem dX10_load_30 : decode cX10_load 30 = .ok (.ifCond .ne 7, 3) := by decide +kernel
theorem dX10_load_33 : decode cX10_load 33 = .ok (.iload_n 3, 1) := by decide +kernel
theorem dX10_load_34 : decode cX10_load 34 = .ok (.goto 13, 3) := by decide +kernel
theorem dX10_load_37 : decode cX10_load 37 = .ok (.iload_n 3, 1) := by decide +kernel
theorem dX10_load_38 : decode cX10_load 38 = .ok (.i2l, 1) := by decide +kernel
theorem dX10_load_39 : decode cX10_load 39 = .ok (.invokestatic 178, 3) := by decide +kernel
theorem dX10_load_42 : decode cX10_load 42 = .ok (.ldc 181, 2) := by decide +kernel
theorem dX10_load_44 : decode cX10_load 44 = .ok (.invokestatic 182, 3) := by decide +kernel
theorem dX10_load_47 : decode cX10_load 47 = .ok (.iastore, 1) := by decide +kernel
theorem dX10_load_48 : decode cX10_load 48 = .ok (.iconst 1, 1) := by decide +kernel
theorem dX10_load_49 : decode cX10_load 49 = .ok (.ireturn, 1) := by decide +kernel
theorem dX10_set_0 : decode cX10_set 0 = .ok (.iload_n 1, 1) := by decide +kernel
theorem dX10_set_1 : decode cX10_set 1 = .ok (.ifCond .ne 27, 3) := by decide +kernel
theorem dX10_set_4 : decode cX10_set 4 = .ok (.iload_n 2, 1) := by decide +kernel
theorem dX10_set_5 : decode cX10_set 5 = .ok (.i2l, 1) := by decide +kernel
theorem dX10_set_6 : decode cX10_set 6 = .ok (.lconst 0, 1) := by decide +kernel
theorem dX10_set_7 : decode cX10_set 7 = .ok (.ldc2_w 185, 3) := by decide +kernel
theorem dX10_set_10 : decode cX10_set 10 = .ok (.invokestatic 86, 3) := by decide +kernel
theorem dX10_set_13 : decode cX10_set 13 = .ok (.ifCond .eq 15, 3) := by decide +kernel
theorem dX10_set_16 : decode cX10_set 16 = .ok (.aload_n 0, 1) := by decide +kernel
theorem dX10_set_17 : decode cX10_set 17 = .ok (.getfield 79, 3) := by decide +kernel
theorem dX10_set_20 : decode cX10_set 20 = .ok (.istore_n 3, 1) := by decide +kernel
theorem dX10_set_21 : decode cX10_set 21 = .ok (.aload_n 0, 1) := by decide +kernel
theorem dX10_set_22 : decode cX10_set 22 = .ok (.iload_n 2, 1) := by decide +kernel
theorem dX10_set_23 : decode cX10_set 23 = .ok (.putfield 79, 3) := by decide +kernel
theorem dX10_set_26 : decode cX10_set 26 = .ok (.iload_n 3, 1) := by decide +kernel
theorem dX10_set_27 : decode cX10_set 27 = .ok (.ireturn, 1) := by decide +kernel
theorem dX10_set_28 : decode cX10_set 28 = .ok (.iload_n 1, 1) := by decide +kernel
theorem dX10_set_29 : decode cX10_set 29 = .ok (.iconst 1, 1) := by decide +kernel
theorem dX10_set_30 : decode cX10_set 30 = .ok (.if_icmp .ne 29, 3) := by decide +kernel
theorem dX10_set_33 : decode cX10_set 33 = .ok (.iload_n 2, 1) := by decide +kernel
theorem dX10_set_34 : decode cX10_set 34 = .ok (.i2l, 1) := by decide +kernel
theorem dX10_set_35 : decode cX10_set 35 = .ok (.ldc2_w 99, 3) := by decide +kernel
theorem dX10_set_38 : decode cX10_set 38 = .ok (.ldc2_w 148, 3) := by decide +kernel
theorem dX10_set_41 : decode cX10_set 41 = .ok (.invokestatic 86, 3) := by decide +kernel
theorem dX10_set_44 : decode cX10_set 44 = .ok (.ifCond .eq 15, 3) := by decide +kernel
theorem dX10_set_47 : decode cX10_set 47 = .ok (.aload_n 0, 1) := by decide +kernel
theorem dX10_set_48 : decode cX10_set 48 = .ok (.getfield 83, 3) := by decide +kernel
theorem dX10_set_51 : decode cX10_set 51 = .ok (.istore_n 3, 1) := by decide +kernel
theorem dX10_set_52 : decode cX10_set 52 = .ok (.aload_n 0, 1) := by decide +kernel
theorem dX10_set_53 : decode cX10_set 53 = .ok (.iload_n 2, 1) := by decide +kernel
theorem dX10_set_54 : decode cX10_set 54 = .ok (.putfield 83, 3) := by decide +kernel
theorem dX10_set_57 : decode cX10_set 57 = .ok (.iload_n 3, 1) := by decide +kernel
theorem dX10_set_58 : decode cX10_set 58 = .ok (.ireturn, 1) := by decide +kernel
theorem dX10_set_59 : decode cX10_set 59 = .ok (.bipush (-2), 2) := by decide +kernel
theorem dX10_set_61 : decode cX10_set 61 = .ok (.ireturn, 1) := by decide +kernel
theorem dX10_read_0 : decode cX10_read 0 = .ok (.iload_n 1, 1) := by decide +kernel
theorem dX10_read_1 : decode cX10_read 1 = .ok (.invokestatic 95, 3) := by decide +kernel
theorem dX10_read_4 : decode cX10_read 4 = .ok (.ifCond .ne 6, 3) := by decide +kernel
theorem dX10_read_7 : decode cX10_read 7 = .ok (.bipush (-2), 2) := by decide +kernel
theorem dX10_read_9 : decode cX10_read 9 = .ok (.ireturn, 1) := by decide +kernel
theorem dX10_read_10 : decode cX10_read 10 = .ok (.aload_n 0, 1) := by decide +kernel
theorem dX10_read_11 : decode cX10_read 11 = .ok (.getfield 7, 3) := by decide +kernel
theorem dX10_read_14 : decode cX10_read 14 = .ok (.iload_n 1, 1) := by decide +kernel
theorem dX10_read_15 : decode cX10_read 15 = .ok (.iaload, 1) := by decide +kernel
theorem dX10_read_16 : decode cX10_read 16 = .ok (.ifCond .ge 9, 3) := by decide +kernel
theorem dX10_read_19 : decode cX10_read 19 = .ok (.aload_n 0, 1) := by decide +kernel
theorem dX10_read_20 : decode cX10_read 20 = .ok (.iconst 1, 1) := by decide +kernel
theorem dX10_read_21 : decode cX10_read 21 = .ok (.invokevirtual 101, 3) := by decide +kernel
theorem dX10_read_24 : decode cX10_read 24 = .ok (.ireturn, 1) := by decide +kernel
theorem dX10_read_25 : decode cX10_read 25 = .ok (.iconst 0, 1) := by decide +kernel
theorem dX10_read_26 : decode cX10_read 26 = .ok (.istore_n 2, 1) := by decide +kernel
theorem dX10_read_27 : decode cX10_read 27 = .ok (.iconst 1, 1) := by decide +kernel
theorem dX10_read_28 : decode cX10_read 28 = .ok (.istore_n 3, 1) := by decide +kernel
theorem dX10_read_29 : decode cX10_read 29 = .ok (.iload_n 3, 1) := by decide +kernel
theorem dX10_read_30 : decode cX10_read 30 = .ok (.ifCond .eq 89, 3) := by decide +kernel
theorem dX10_read_33 : decode cX10_read 33 = .ok (.iconst 4, 1) := by decide +kernel
theorem dX10_read_34 : decode cX10_read 34 = .ok (.iload_n 2, 1) := by decide +kernel
theorem dX10_read_35 : decode cX10_read 35 = .ok (.imul, 1) := by decide +kernel
theorem dX10_read_36 : decode cX10_read 36 = .ok (.iconst 4, 1) := by decide +kernel
theorem dX10_read_37 : decode cX10_read 37 = .ok (.iadd, 1) := by decide +kernel
theorem dX10_read_38 : decode cX10_read 38 = .ok (.aload_n 0, 1) := by decide +kernel
theorem dX10_read_39 : decode cX10_read 39 = .ok (.getfield 13, 3) := by decide +kernel
theorem dX10_read_42 : decode cX10_read 42 = .ok (.iload_n 1, 1) := by decide +kernel
theorem dX10_read_43 : decode cX10_read 43 = .ok (.iaload, 1) := by decide +kernel
theorem dX10_read_44 : decode cX10_read 44 = .ok (.if_icmp .gt 75, 3) := by decide +kernel
theorem dX10_read_47 : decode cX10_read 47 = .ok (.bipush 60, 2) := by decide +kernel
theorem dX10_read_49 : decode cX10_read 49 = .ok (.iload_n 1, 1) := by decide +kernel
theorem dX10_read_50 : decode cX10_read 50 = .ok (.imul, 1) := by decide +kernel
theorem dX10_read_51 : decode cX10_read 51 = .ok (.iconst 4, 1) := by decide +kernel
theorem dX10_read_52 : decode cX10_read 52 = .ok (.iload_n 2, 1) := by decide +kernel
theorem dX10_read_53 : decode cX10_read 53 = .ok (.imul, 1) := by decide +kernel
theorem dX10_read_54 : decode cX10_read 54 = .ok (.iadd, 1) := by decide +kernel
theorem dX10_read_55 : decode cX10_read 55 = .ok (.istore 4, 2) := by decide +kernel
theorem dX10_read_57 : decode cX10_read 57 = .ok (.aload_n 0, 1) := by decide +kernel
theorem dX10_read_58 : decode cX10_read 58 = .ok (.aload_n 0, 1) := by decide +kernel
theorem dX10_read_59 : decode cX10_read 59 = .ok (.getfield 16, 3) := by decide +kernel
theorem dX10_read_62 : decode cX10_read 62 = .ok (.iload 4, 2) := by decide +kernel
theorem dX10_read_64 : decode cX10_read 64 = .ok (.iaload, 1) := by decide +kernel
theorem dX10_read_65 : decode cX10_read 65 = .ok (.aload_n 0, 1) := by decide +kernel
theorem dX10_read_66 : decode cX10_read 66 = .ok (.getfield 16, 3) := by decide +kernel
theorem dX10_read_69 : decode cX10_read 69 = .ok (.iload 4, 2) := by decide +kernel
theorem dX10_read_71 : decode cX10_read 71 = .ok (.iconst 1, 1) := by decide +kernel
theorem dX10_read_72 : decode cX10_read 72 = .ok (.iadd, 1) := by decide +kernel
theorem dX10_read_73 : decode cX10_read 73 = .ok (.iaload, 1) := by decide +kernel
theorem dX10_read_74 : decode cX10_read 74 = .ok (.aload_n 0, 1) := by decide +kernel
theorem dX10_read_75 : decode cX10_read 75 = .ok (.getfield 16, 3) := by decide +kernel
theorem dX10_read_78 : decode cX10_read 78 = .ok (.iload 4, 2) := by decide +kernel
theorem dX10_read_80 : decode cX10_read 80 = .ok (.iconst 2, 1) := by decide +kernel
theorem dX10_read_81 : decode cX10_read 81 = .ok (.iadd, 1) := by decide +kernel
theorem dX10_read_82 : decode cX10_read 82 = .ok (.iaload, 1) := by decide +kernel
theorem dX10_read_83 : decode cX10_read 83 = .ok (.aload_n 0, 1) := by decide +kernel
theorem dX10_read_84 : decode cX10_read 84 = .ok (.getfield 16, 3) := by decide +kernel
theorem dX10_read_87 : decode cX10_read 87 = .ok (.iload 4, 2) := by decide +kernel
theorem dX10_read_89 : decode cX10_read 89 = .ok (.iconst 3, 1) := by decide +kernel
theorem dX10_read_90 : decode cX10_read 90 = .ok (.iadd, 1) := by decide +kernel
theorem dX10_read_91 : decode cX10_read 91 = .ok (.iaload, 1) := by decide +kernel
theorem dX10_read_92 : decode cX10_read 92 = .ok (.invokevirtual 187, 3) := by decide +kernel
theorem dX10_read_95 : decode cX10_read 95 = .ok (.ifCond .lt 7, 3) := by decide +kernel
theorem dX10_read_98 : decode cX10_read 98 = .ok (.iconst 1, 1) := by decide +kernel
theorem dX10_read_99 : decode cX10_read 99 = .ok (.goto 4, 3) := by decide +kernel
theorem dX10_read_102 : decode cX10_read 102 = .ok (.iconst 0, 1) := by decide +kernel
theorem dX10_read_103 : decode cX10_read 103 = .ok (.istore_n 3, 1) := by decide +kernel
theorem dX10_read_104 : decode cX10_read 104 = .ok (.iload_n 2, 1) := by decide +kernel
theorem dX10_read_105 : decode cX10_read 105 = .ok (.iload_n 3, 1) := by decide +kernel
theorem dX10_read_106 : decode cX10_read 106 = .ok (.ifCond .eq 7, 3) := by decide +kernel
theorem dX10_read_109 : decode cX10_read 109 = .ok (.iconst 1, 1) := by decide +kernel
theorem dX10_read_110 : decode cX10_read 110 = .ok (.goto 4, 3) := by decide +kernel
theorem dX10_read_113 : decode cX10_read 113 = .ok (.iconst 0, 1) := by decide +kernel
theorem dX10_read_114 : decode cX10_read 114 = .ok (.iadd, 1) := by decide +kernel
theorem dX10_read_115 : decode cX10_read 115 = .ok (.istore_n 2, 1) := by decide +kernel
theorem dX10_read_116 : decode cX10_read 116 = .ok (.goto (-87), 3) := by decide +kernel
theorem dX10_read_119 : decode cX10_read 119 = .ok (.iload_n 2, 1) := by decide +kernel
theorem dX10_read_120 : decode cX10_read 120 = .ok (.ireturn, 1) := by decide +kernel
theorem dX10_rootOf_0 : decode cX10_rootOf 0 = .ok (.iconst (-1), 1) := by decide +kernel
theorem dX10_rootOf_1 : decode cX10_rootOf 1 = .ok (.istore_n 2, 1) := by decide +kernel
theorem dX10_rootOf_2 : decode cX10_rootOf 2 = .ok (.iconst 0, 1) := by decide +kernel
theorem dX10_rootOf_3 : decode cX10_rootOf 3 = .ok (.istore_n 3, 1) := by decide +kernel
theorem dX10_rootOf_4 : decode cX10_rootOf 4 = .ok (.iload_n 3, 1) := by decide +kernel
theorem dX10_rootOf_5 : decode cX10_rootOf 5 = .ok (.aload_n 0, 1) := by decide +kernel
theorem dX10_rootOf_6 : decode cX10_rootOf 6 = .ok (.getfield 253, 3) := by decide +kernel
theorem dX10_rootOf_9 : decode cX10_rootOf 9 = .ok (.if_icmp .ge 35, 3) := by decide +kernel
theorem dX10_rootOf_12 : decode cX10_rootOf 12 = .ok (.aload_n 0, 1) := by decide +kernel
theorem dX10_rootOf_13 : decode cX10_rootOf 13 = .ok (.getfield 43, 3) := by decide +kernel
theorem dX10_rootOf_16 : decode cX10_rootOf 16 = .ok (.iload_n 3, 1) := by decide +kernel
theorem dX10_rootOf_17 : decode cX10_rootOf 17 = .ok (.iaload, 1) := by decide +kernel
theorem dX10_rootOf_18 : decode cX10_rootOf 18 = .ok (.iload_n 1, 1) := by decide +kernel
theorem dX10_rootOf_19 : decode cX10_rootOf 19 = .ok (.if_icmp .ne 17, 3) := by decide +kernel
theorem dX10_rootOf_22 : decode cX10_rootOf 22 = .ok (.aload_n 0, 1) := by decide +kernel
theorem dX10_rootOf_23 : decode cX10_rootOf 23 = .ok (.getfield 46, 3) := by decide +kernel
theorem dX10_rootOf_26 : decode cX10_rootOf 26 = .ok (.iload_n 3, 1) := by decide +kernel
theorem dX10_rootOf_27 : decode cX10_rootOf 27 = .ok (.iaload, 1) := by decide +kernel
theorem dX10_rootOf_28 : decode cX10_rootOf 28 = .ok (.iconst (-1), 1) := by decide +kernel
theorem dX10_rootOf_29 : decode cX10_rootOf 29 = .ok (.if_icmp .ne 7, 3) := by decide +kernel
theorem dX10_rootOf_32 : decode cX10_rootOf 32 = .ok (.iload_n 3, 1) := by decide +kernel
theorem dX10_rootOf_33 : decode cX10_rootOf 33 = .ok (.goto 4, 3) := by decide +kernel
theorem dX10_rootOf_36 : decode cX10_rootOf 36 = .ok (.iload_n 2, 1) := by decide +kernel
theorem dX10_rootOf_37 : decode cX10_rootOf 37 = .ok (.istore_n 2, 1) := by decide +kernel
theorem dX10_rootOf_38 : decode cX10_rootOf 38 = .ok (.iinc 3 1, 3) := by decide +kernel
theorem dX10_rootOf_41 : decode cX10_rootOf 41 = .ok (.goto (-37), 3) := by decide +kernel
theorem dX10_rootOf_44 : decode cX10_rootOf 44 = .ok (.iload_n 2, 1) := by decide +kernel
theorem dX10_rootOf_45 : decode cX10_rootOf 45 = .ok (.ireturn, 1) := by decide +kernel
theorem dX10_runs_0 : decode cX10_runs 0 = .ok (.iconst 0, 1) := by decide +kernel
theorem dX10_runs_1 : decode cX10_runs 1 = .ok (.istore_n 2, 1) := by decide +kernel
theorem dX10_runs_2 : decode cX10_runs 2 = .ok (.iload_n 2, 1) := by decide +kernel
theorem dX10_runs_3 : decode cX10_runs 3 = .ok (.bipush 8, 2) := by decide +kernel
theorem dX10_runs_5 : decode cX10_runs 5 = .ok (.if_icmp .ge 33, 3) := by decide +kernel
theorem dX10_runs_8 : decode cX10_runs 8 = .ok (.aload_n 0, 1) := by decide +kernel
theorem dX10_runs_9 : decode cX10_runs 9 = .ok (.getfield 31, 3) := by decide +kernel
theorem dX10_runs_12 : decode cX10_runs 12 = .ok (.iload_n 2, 1) := by decide +kernel
theorem dX10_runs_13 : decode cX10_runs 13 = .ok (.aload_n 0, 1) := by decide +kernel
theorem dX10_runs_14 : decode cX10_runs 14 = .ok (.getfield 25, 3) := by decide +kernel
theorem dX10_runs_17 : decode cX10_runs 17 = .ok (.iload_n 2, 1) := by decide +kernel
theorem dX10_runs_18 : decode cX10_runs 18 = .ok (.iaload, 1) := by decide +kernel
theorem dX10_runs_19 : decode cX10_runs 19 = .ok (.iastore, 1) := by decide +kernel
theorem dX10_runs_20 : decode cX10_runs 20 = .ok (.aload_n 0, 1) := by decide +kernel
theorem dX10_runs_21 : decode cX10_runs 21 = .ok (.getfield 34, 3) := by decide +kernel
theorem dX10_runs_24 : decode cX10_runs 24 = .ok (.iload_n 2, 1) := by decide +kernel
theorem dX10_runs_25 : decode cX10_runs 25 = .ok (.aload_n 0, 1) := by decide +kernel
theorem dX10_runs_26 : decode cX10_runs 26 = .ok (.getfield 28, 3) := by decide +kernel
theorem dX10_runs_29 : decode cX10_runs 29 = .ok (.iload_n 2, 1) := by decide +kernel
theorem dX10_runs_30 : decode cX10_runs 30 = .ok (.iaload, 1) := by decide +kernel
theorem dX10_runs_31 : decode cX10_runs 31 = .ok (.iastore, 1) := by decide +kernel
theorem dX10_runs_32 : decode cX10_runs 32 = .ok (.iinc 2 1, 3) := by decide +kernel
theorem dX10_runs_35 : decode cX10_runs 35 = .ok (.goto (-33), 3) := by decide +kernel
theorem dX10_runs_38 : decode cX10_runs 38 = .ok (.iconst 0, 1) := by decide +kernel
theorem dX10_runs_39 : decode cX10_runs 39 = .ok (.istore_n 2, 1) := by decide +kernel
theorem dX10_runs_40 : decode cX10_runs 40 = .ok (.iload_n 2, 1) := by decide +kernel
theorem dX10_runs_41 : decode cX10_runs 41 = .ok (.bipush 24, 2) := by decide +kernel
theorem dX10_runs_43 : decode cX10_runs 43 = .ok (.if_icmp .ge 23, 3) := by decide +kernel
theorem dX10_runs_46 : decode cX10_runs 46 = .ok (.aload_n 0, 1) := by decide +kernel
theorem dX10_runs_47 : decode cX10_runs 47 = .ok (.getfield 37, 3) := by decide +kernel
theorem dX10_runs_50 : decode cX10_runs 50 = .ok (.iload_n 2, 1) := by decide +kernel
theorem dX10_runs_51 : decode cX10_runs 51 = .ok (.iconst 0, 1) := by decide +kernel
theorem dX10_runs_52 : decode cX10_runs 52 = .ok (.iastore, 1) := by decide +kernel
theorem dX10_runs_53 : decode cX10_runs 53 = .ok (.aload_n 0, 1) := by decide +kernel
theorem dX10_runs_54 : decode cX10_runs 54 = .ok (.getfield 40, 3) := by decide +kernel
theorem dX10_runs_57 : decode cX10_runs 57 = .ok (.iload_n 2, 1) := by decide +kernel
theorem dX10_runs_58 : decode cX10_runs 58 = .ok (.iconst 0, 1) := by decide +kernel
theorem dX10_runs_59 : decode cX10_runs 59 = .ok (.iastore, 1) := by decide +kernel
theorem dX10_runs_60 : decode cX10_runs 60 = .ok (.iinc 2 1, 3) := by decide +kernel
theorem dX10_runs_63 : decode cX10_runs 63 = .ok (.goto (-23), 3) := by decide +kernel
theorem dX10_runs_66 : decode cX10_runs 66 = .ok (.aload_n 0, 1) := by decide +kernel
theorem dX10_runs_67 : decode cX10_runs 67 = .ok (.iconst 0, 1) := by decide +kernel
theorem dX10_runs_68 : decode cX10_runs 68 = .ok (.putfield 241, 3) := by decide +kernel
theorem dX10_runs_71 : decode cX10_runs 71 = .ok (.aload_n 0, 1) := by decide +kernel
theorem dX10_runs_72 : decode cX10_runs 72 = .ok (.iconst 0, 1) := by decide +kernel
theorem dX10_runs_73 : decode cX10_runs 73 = .ok (.putfield 250, 3) := by decide +kernel
theorem dX10_runs_76 : decode cX10_runs 76 = .ok (.aload_n 0, 1) := by decide +kernel
theorem dX10_runs_77 : decode cX10_runs 77 = .ok (.iconst 0, 1) := by decide +kernel
theorem dX10_runs_78 : decode cX10_runs 78 = .ok (.putfield 307, 3) := by decide +kernel
theorem dX10_runs_81 : decode cX10_runs 81 = .ok (.aload_n 0, 1) := by decide +kernel
theorem dX10_runs_82 : decode cX10_runs 82 = .ok (.iconst 0, 1) := by decide +kernel
theorem dX10_runs_83 : decode cX10_runs 83 = .ok (.putfield 292, 3) := by decide +kernel
theorem dX10_runs_86 : decode cX10_runs 86 = .ok (.aload_n 0, 1) := by decide +kernel
theorem dX10_runs_87 : decode cX10_runs 87 = .ok (.iconst 0, 1) := by decide +kernel
theorem dX10_runs_88 : decode cX10_runs 88 = .ok (.putfield 271, 3) := by decide +kernel
theorem dX10_runs_91 : decode cX10_runs 91 = .ok (.aload_n 0, 1) := by decide +kernel
theorem dX10_runs_92 : decode cX10_runs 92 = .ok (.iconst 0, 1) := by decide +kernel
theorem dX10_runs_93 : decode cX10_runs 93 = .ok (.putfield 253, 3) := by decide +kernel
theorem dX10_runs_96 : decode cX10_runs 96 = .ok (.aload_n 0, 1) := by decide +kernel
theorem dX10_runs_97 : decode cX10_runs 97 = .ok (.iconst (-1), 1) := by decide +kernel
theorem dX10_runs_98 : decode cX10_runs 98 = .ok (.putfield 286, 3) := by decide +kernel
theorem dX10_runs_101 : decode cX10_runs 101 = .ok (.aload_n 0, 1) := by decide +kernel
theorem dX10_runs_102 : decode cX10_runs 102 = .ok (.iconst 0, 1) := by decide +kernel
theorem dX10_runs_103 : decode cX10_runs 103 = .ok (.putfield 256, 3) := by decide +kernel
theorem dX10_runs_106 : decode cX10_runs 106 = .ok (.aload_n 0, 1) := by decide +kernel
theorem dX10_runs_107 : decode cX10_runs 107 = .ok (.iconst 0, 1) := by decide +kernel
theorem dX10_runs_108 : decode cX10_runs 108 = .ok (.putfield 301, 3) := by decide +kernel
theorem dX10_runs_111 : decode cX10_runs 111 = .ok (.aload_n 0, 1) := by decide +kernel
theorem dX10_runs_112 : decode cX10_runs 112 = .ok (.iconst 1, 1) := by decide +kernel
theorem dX10_runs_113 : decode cX10_runs 113 = .ok (.putfield 316, 3) := by decide +kernel
theorem dX10_runs_116 : decode cX10_runs 116 = .ok (.aload_n 0, 1) := by decide +kernel
theorem dX10_runs_117 : decode cX10_runs 117 = .ok (.getfield 316, 3) := by decide +kernel
theorem dX10_runs_120 : decode cX10_runs 120 = .ok (.ifCond .eq 59, 3) := by decide +kernel
theorem dX10_runs_123 : decode cX10_runs 123 = .ok (.aload_n 0, 1) := by decide +kernel
theorem dX10_runs_124 : decode cX10_runs 124 = .ok (.getfield 250, 3) := by decide +kernel
theorem dX10_runs_127 : decode cX10_runs 127 = .ok (.aload_n 0, 1) := by decide +kernel
theorem dX10_runs_128 : decode cX10_runs 128 = .ok (.getfield 79, 3) := by decide +kernel
theorem dX10_runs_131 : decode cX10_runs 131 = .ok (.if_icmp .ne 16, 3) := by decide +kernel
theorem dX10_runs_134 : decode cX10_runs 134 = .ok (.aload_n 0, 1) := by decide +kernel
theorem dX10_runs_135 : decode cX10_runs 135 = .ok (.iconst 0, 1) := by decide +kernel
theorem dX10_runs_136 : decode cX10_runs 136 = .ok (.putfield 316, 3) := by decide +kernel
theorem dX10_runs_139 : decode cX10_runs 139 = .ok (.aload_n 0, 1) := by decide +kernel
theorem dX10_runs_140 : decode cX10_runs 140 = .ok (.iconst 0, 1) := by decide +kernel
theorem dX10_runs_141 : decode cX10_runs 141 = .ok (.putfield 319, 3) := by decide +kernel
theorem dX10_runs_144 : decode cX10_runs 144 = .ok (.goto (-28), 3) := by decide +kernel
theorem dX10_runs_147 : decode cX10_runs 147 = .ok (.aload_n 0, 1) := by decide +kernel
theorem dX10_runs_148 : decode cX10_runs 148 = .ok (.getfield 241, 3) := by decide +kernel
theorem dX10_runs_151 : decode cX10_runs 151 = .ok (.aload_n 0, 1) := by decide +kernel
theorem dX10_runs_152 : decode cX10_runs 152 = .ok (.getfield 162, 3) := by decide +kernel
theorem dX10_runs_155 : decode cX10_runs 155 = .ok (.if_icmp .lt 16, 3) := by decide +kernel
theorem dX10_runs_158 : decode cX10_runs 158 = .ok (.aload_n 0, 1) := by decide +kernel
theorem dX10_runs_159 : decode cX10_runs 159 = .ok (.iconst 0, 1) := by decide +kernel
theorem dX10_runs_160 : decode cX10_runs 160 = .ok (.putfield 316, 3) := by decide +kernel
theorem dX10_runs_163 : decode cX10_runs 163 = .ok (.aload_n 0, 1) := by decide +kernel
theorem dX10_runs_164 : decode cX10_runs 164 = .ok (.iconst 2, 1) := by decide +kernel
theorem dX10_runs_165 : decode cX10_runs 165 = .ok (.putfield 319, 3) := by decide +kernel
theorem dX10_runs_168 : decode cX10_runs 168 = .ok (.goto (-52), 3) := by decide +kernel
theorem dX10_runs_171 : decode cX10_runs 171 = .ok (.aload_n 0, 1) := by decide +kernel
theorem dX10_runs_172 : decode cX10_runs 172 = .ok (.iload_n 1, 1) := by decide +kernel
theorem dX10_runs_173 : decode cX10_runs 173 = .ok (.invokevirtual 341, 3) := by decide +kernel
theorem dX10_runs_176 : decode cX10_runs 176 = .ok (.goto (-60), 3) := by decide +kernel
theorem dX10_runs_179 : decode cX10_runs 179 = .ok (.aload_n 0, 1) := by decide +kernel
theorem dX10_runs_180 : decode cX10_runs 180 = .ok (.getfield 256, 3) := by decide +kernel
theorem dX10_runs_183 : decode cX10_runs 183 = .ok (.ifCond .eq 7, 3) := by decide +kernel
theorem dX10_runs_186 : decode cX10_runs 186 = .ok (.aload_n 0, 1) := by decide +kernel
theorem dX10_runs_187 : decode cX10_runs 187 = .ok (.invokevirtual 280, 3) := by decide +kernel
theorem dX10_runs_190 : decode cX10_runs 190 = .ok (.return_, 1) := by decide +kernel
theorem dX10_valueBy_0 : decode cX10_valueBy 0 = .ok (.iload_n 2, 1) := by decide +kernel
theorem dX10_valueBy_1 : decode cX10_valueBy 1 = .ok (.ifCond .ne 12, 3) := by decide +kernel
theorem dX10_valueBy_4 : decode cX10_valueBy 4 = .ok (.aload_n 0, 1) := by decide +kernel
theorem dX10_valueBy_5 : decode cX10_valueBy 5 = .ok (.getfield 31, 3) := by decide +kernel
theorem dX10_valueBy_8 : decode cX10_valueBy 8 = .ok (.iload_n 1, 1) := by decide +kernel
theorem dX10_valueBy_9 : decode cX10_valueBy 9 = .ok (.iaload, 1) := by decide +kernel
theorem dX10_valueBy_10 : decode cX10_valueBy 10 = .ok (.goto 9, 3) := by decide +kernel
theorem dX10_valueBy_13 : decode cX10_valueBy 13 = .ok (.aload_n 0, 1) := by decide +kernel
theorem dX10_valueBy_14 : decode cX10_valueBy 14 = .ok (.getfield 34, 3) := by decide +kernel
theorem dX10_valueBy_17 : decode cX10_valueBy 17 = .ok (.iload_n 1, 1) := by decide +kernel
theorem dX10_valueBy_18 : decode cX10_valueBy 18 = .ok (.iaload, 1) := by decide +kernel
theorem dX10_valueBy_19 : decode cX10_valueBy 19 = .ok (.ireturn, 1) := by decide +kernel
theorem dX10_value_0 : decode cX10_value 0 = .ok (.aload_n 0, 1) := by decide +kernel
theorem dX10_value_1 : decode cX10_value 1 = .ok (.aload_n 0, 1) := by decide +kernel
theorem dX10_value_2 : decode cX10_value 2 = .ok (.getfield 83, 3) := by decide +kernel
theorem dX10_value_5 : decode cX10_value 5 = .ok (.invokevirtual 344, 3) := by decide +kernel
theorem dX10_value_8 : decode cX10_value 8 = .ok (.iload_n 1, 1) := by decide +kernel
theorem dX10_value_9 : decode cX10_value 9 = .ok (.invokestatic 172, 3) := by decide +kernel
theorem dX10_value_12 : decode cX10_value 12 = .ok (.ifCond .eq 19, 3) := by decide +kernel
theorem dX10_value_15 : decode cX10_value 15 = .ok (.iload_n 2, 1) := by decide +kernel
theorem dX10_value_16 : decode cX10_value 16 = .ok (.invokestatic 175, 3) := by decide +kernel
theorem dX10_value_19 : decode cX10_value 19 = .ok (.ifCond .eq 12, 3) := by decide +kernel
theorem dX10_value_22 : decode cX10_value 22 = .ok (.aload_n 0, 1) := by decide +kernel
theorem dX10_value_23 : decode cX10_value 23 = .ok (.iload_n 1, 1) := by decide +kernel
theorem dX10_value_24 : decode cX10_value 24 = .ok (.iload_n 2, 1) := by decide +kernel
theorem dX10_value_25 : decode cX10_value 25 = .ok (.invokevirtual 347, 3) := by decide +kernel
theorem dX10_value_28 : decode cX10_value 28 = .ok (.goto 5, 3) := by decide +kernel
theorem dX10_value_31 : decode cX10_value 31 = .ok (.ldc 113, 2) := by decide +kernel
theorem dX10_value_33 : decode cX10_value 33 = .ok (.ireturn, 1) := by decide +kernel
theorem dX10_plain_0 : decode cX10_plain 0 = .ok (.aload_n 0, 1) := by decide +kernel
theorem dX10_plain_1 : decode cX10_plain 1 = .ok (.iconst 0, 1) := by decide +kernel
theorem dX10_plain_2 : decode cX10_plain 2 = .ok (.invokevirtual 344, 3) := by decide +kernel
theorem dX10_plain_5 : decode cX10_plain 5 = .ok (.iload_n 1, 1) := by decide +kernel
theorem dX10_plain_6 : decode cX10_plain 6 = .ok (.invokestatic 172, 3) := by decide +kernel
theorem dX10_plain_9 : decode cX10_plain 9 = .ok (.ifCond .eq 19, 3) := by decide +kernel
theorem dX10_plain_12 : decode cX10_plain 12 = .ok (.iload_n 2, 1) := by decide +kernel
theorem dX10_plain_13 : decode cX10_plain 13 = .ok (.invokestatic 175, 3) := by decide +kernel
theorem dX10_plain_16 : decode cX10_plain 16 = .ok (.ifCond .eq 12, 3) := by decide +kernel
theorem dX10_plain_19 : decode cX10_plain 19 = .ok (.aload_n 0, 1) := by decide +kernel
theorem dX10_plain_20 : decode cX10_plain 20 = .ok (.iload_n 1, 1) := by decide +kernel
theorem dX10_plain_21 : decode cX10_plain 21 = .ok (.iload_n 2, 1) := by decide +kernel
theorem dX10_plain_22 : decode cX10_plain 22 = .ok (.invokevirtual 347, 3) := by decide +kernel
theorem dX10_plain_25 : decode cX10_plain 25 = .ok (.goto 5, 3) := by decide +kernel
theorem dX10_plain_28 : decode cX10_plain 28 = .ok (.ldc 113, 2) := by decide +kernel
theorem dX10_plain_30 : decode cX10_plain 30 = .ok (.ireturn, 1) := by decide +kernel
theorem dX10_endsBy_0 : decode cX10_endsBy 0 = .ok (.iload_n 1, 1) := by decide +kernel
theorem dX10_endsBy_1 : decode cX10_endsBy 1 = .ok (.tableswitch 60 0 4 #[35, 40, 45, 50, 55], 35) := by decide +kernel
theorem dX10_endsBy_36 : decode cX10_endsBy 36 = .ok (.aload_n 0, 1) := by decide +kernel
theorem dX10_endsBy_37 : decode cX10_endsBy 37 = .ok (.getfield 319, 3) := by decide +kernel
theorem dX10_endsBy_40 : decode cX10_endsBy 40 = .ok (.ireturn, 1) := by decide +kernel
theorem dX10_endsBy_41 : decode cX10_endsBy 41 = .ok (.aload_n 0, 1) := by decide +kernel
theorem dX10_endsBy_42 : decode cX10_endsBy 42 = .ok (.getfield 241, 3) := by decide +kernel
theorem dX10_endsBy_45 : decode cX10_endsBy 45 = .ok (.ireturn, 1) := by decide +kernel
theorem dX10_endsBy_46 : decode cX10_endsBy 46 = .ok (.aload_n 0, 1) := by decide +kernel
theorem dX10_endsBy_47 : decode cX10_endsBy 47 = .ok (.getfield 250, 3) := by decide +kernel
theorem dX10_endsBy_50 : decode cX10_endsBy 50 = .ok (.ireturn, 1) := by decide +kernel
theorem dX10_endsBy_51 : decode cX10_endsBy 51 = .ok (.aload_n 0, 1) := by decide +kernel
theorem dX10_endsBy_52 : decode cX10_endsBy 52 = .ok (.getfield 307, 3) := by decide +kernel
theorem dX10_endsBy_55 : decode cX10_endsBy 55 = .ok (.ireturn, 1) := by decide +kernel
theorem dX10_endsBy_56 : decode cX10_endsBy 56 = .ok (.aload_n 0, 1) := by decide +kernel
theorem dX10_endsBy_57 : decode cX10_endsBy 57 = .ok (.getfield 292, 3) := by decide +kernel
theorem dX10_endsBy_60 : decode cX10_endsBy 60 = .ok (.ireturn, 1) := by decide +kernel
theorem dX10_endsBy_61 : decode cX10_endsBy 61 = .ok (.aload_n 0, 1) := by decide +kernel
theorem dX10_endsBy_62 : decode cX10_endsBy 62 = .ok (.getfield 271, 3) := by decide +kernel
theorem dX10_endsBy_65 : decode cX10_endsBy 65 = .ok (.ireturn, 1) := by decide +kernel
theorem dX10_ends_0 : decode cX10_ends 0 = .ok (.aload_n 0, 1) := by decide +kernel
theorem dX10_ends_1 : decode cX10_ends 1 = .ok (.aload_n 0, 1) := by decide +kernel
theorem dX10_ends_2 : decode cX10_ends 2 = .ok (.getfield 83, 3) := by decide +kernel
theorem dX10_ends_5 : decode cX10_ends 5 = .ok (.invokevirtual 344, 3) := by decide +kernel
theorem dX10_ends_8 : decode cX10_ends 8 = .ok (.iload_n 1, 1) := by decide +kernel
theorem dX10_ends_9 : decode cX10_ends 9 = .ok (.i2l, 1) := by decide +kernel
theorem dX10_ends_10 : decode cX10_ends 10 = .ok (.lconst 0, 1) := by decide +kernel
theorem dX10_ends_11 : decode cX10_ends 11 = .ok (.ldc2_w 239, 3) := by decide +kernel
theorem dX10_ends_14 : decode cX10_ends 14 = .ok (.invokestatic 86, 3) := by decide +kernel
theorem dX10_ends_17 : decode cX10_ends 17 = .ok (.ifCond .eq 11, 3) := by decide +kernel
theorem dX10_ends_20 : decode cX10_ends 20 = .ok (.aload_n 0, 1) := by decide +kernel
theorem dX10_ends_21 : decode cX10_ends 21 = .ok (.iload_n 1, 1) := by decide +kernel
theorem dX10_ends_22 : decode cX10_ends 22 = .ok (.invokevirtual 350, 3) := by decide +kernel
theorem dX10_ends_25 : decode cX10_ends 25 = .ok (.goto 5, 3) := by decide +kernel
theorem dX10_ends_28 : decode cX10_ends 28 = .ok (.bipush (-2), 2) := by decide +kernel
theorem dX10_ends_30 : decode cX10_ends 30 = .ok (.ireturn, 1) := by decide +kernel
theorem dX10_heatBy_0 : decode cX10_heatBy 0 = .ok (.iload_n 2, 1) := by decide +kernel
theorem dX10_heatBy_1 : decode cX10_heatBy 1 = .ok (.ifCond .ne 12, 3) := by decide +kernel
theorem dX10_heatBy_4 : decode cX10_heatBy 4 = .ok (.aload_n 0, 1) := by decide +kernel
theorem dX10_heatBy_5 : decode cX10_heatBy 5 = .ok (.getfield 37, 3) := by decide +kernel
theorem dX10_heatBy_8 : decode cX10_heatBy 8 = .ok (.iload_n 1, 1) := by decide +kernel
theorem dX10_heatBy_9 : decode cX10_heatBy 9 = .ok (.iaload, 1) := by decide +kernel
theorem dX10_heatBy_10 : decode cX10_heatBy 10 = .ok (.goto 31, 3) := by decide +kernel
theorem dX10_heatBy_13 : decode cX10_heatBy 13 = .ok (.iload_n 2, 1) := by decide +kernel
theorem dX10_heatBy_14 : decode cX10_heatBy 14 = .ok (.iconst 1, 1) := by decide +kernel
theorem dX10_heatBy_15 : decode cX10_heatBy 15 = .ok (.if_icmp .ne 21, 3) := by decide +kernel
theorem dX10_heatBy_18 : decode cX10_heatBy 18 = .ok (.aload_n 0, 1) := by decide +kernel
theorem dX10_heatBy_19 : decode cX10_heatBy 19 = .ok (.getfield 40, 3) := by decide +kernel
theorem dX10_heatBy_22 : decode cX10_heatBy 22 = .ok (.iload_n 1, 1) := by decide +kernel
theorem dX10_heatBy_23 : decode cX10_heatBy 23 = .ok (.iaload, 1) := by decide +kernel
theorem dX10_heatBy_24 : decode cX10_heatBy 24 = .ok (.iconst 1, 1) := by decide +kernel
theorem dX10_heatBy_25 : decode cX10_heatBy 25 = .ok (.if_icmp .le 7, 3) := by decide +kernel
theorem dX10_heatBy_28 : decode cX10_heatBy 28 = .ok (.iconst 1, 1) := by decide +kernel
theorem dX10_heatBy_29 : decode cX10_heatBy 29 = .ok (.goto 12, 3) := by decide +kernel
theorem dX10_heatBy_32 : decode cX10_heatBy 32 = .ok (.iconst 0, 1) := by decide +kernel
theorem dX10_heatBy_33 : decode cX10_heatBy 33 = .ok (.goto 8, 3) := by decide +kernel
theorem dX10_heatBy_36 : decode cX10_heatBy 36 = .ok (.aload_n 0, 1) := by decide +kernel
theorem dX10_heatBy_37 : decode cX10_heatBy 37 = .ok (.iload_n 1, 1) := by decide +kernel
theorem dX10_heatBy_38 : decode cX10_heatBy 38 = .ok (.invokevirtual 277, 3) := by decide +kernel
theorem dX10_heatBy_41 : decode cX10_heatBy 41 = .ok (.ireturn, 1) := by decide +kernel
theorem dX10_heat_0 : decode cX10_heat 0 = .ok (.aload_n 0, 1) := by decide +kernel
theorem dX10_heat_1 : decode cX10_heat 1 = .ok (.aload_n 0, 1) := by decide +kernel
theorem dX10_heat_2 : decode cX10_heat 2 = .ok (.getfield 83, 3) := by decide +kernel
theorem dX10_heat_5 : decode cX10_heat 5 = .ok (.invokevirtual 344, 3) := by decide +kernel
theorem dX10_heat_8 : decode cX10_heat 8 = .ok (.iload_n 1, 1) := by decide +kernel
theorem dX10_heat_9 : decode cX10_heat 9 = .ok (.i2l, 1) := by decide +kernel
theorem dX10_heat_10 : decode cX10_heat 10 = .ok (.lconst 0, 1) := by decide +kernel
theorem dX10_heat_11 : decode cX10_heat 11 = .ok (.ldc2_w 150, 3) := by decide +kernel
theorem dX10_heat_14 : decode cX10_heat 14 = .ok (.invokestatic 86, 3) := by decide +kernel
theorem dX10_heat_17 : decode cX10_heat 17 = .ok (.ifCond .eq 24, 3) := by decide +kernel
theorem dX10_heat_20 : decode cX10_heat 20 = .ok (.iload_n 2, 1) := by decide +kernel
theorem dX10_heat_21 : decode cX10_heat 21 = .ok (.i2l, 1) := by decide +kernel
theorem dX10_heat_22 : decode cX10_heat 22 = .ok (.lconst 0, 1) := by decide +kernel
theorem dX10_heat_23 : decode cX10_heat 23 = .ok (.ldc2_w 99, 3) := by decide +kernel
theorem dX10_heat_26 : decode cX10_heat 26 = .ok (.invokestatic 86, 3) := by decide +kernel
theorem dX10_heat_29 : decode cX10_heat 29 = .ok (.ifCond .eq 12, 3) := by decide +kernel
theorem dX10_heat_32 : decode cX10_heat 32 = .ok (.aload_n 0, 1) := by decide +kernel
theorem dX10_heat_33 : decode cX10_heat 33 = .ok (.iload_n 1, 1) := by decide +kernel
theorem dX10_heat_34 : decode cX10_heat 34 = .ok (.iload_n 2, 1) := by decide +kernel
theorem dX10_heat_35 : decode cX10_heat 35 = .ok (.invokevirtual 353, 3) := by decide +kernel
theorem dX10_heat_38 : decode cX10_heat 38 = .ok (.goto 5, 3) := by decide +kernel
theorem dX10_heat_41 : decode cX10_heat 41 = .ok (.bipush (-2), 2) := by decide +kernel
theorem dX10_heat_43 : decode cX10_heat 43 = .ok (.ireturn, 1) := by decide +kernel
theorem dX10_isTrace_0 : decode cX10_isTrace 0 = .ok (.iload_n 1, 1) := by decide +kernel
theorem dX10_isTrace_1 : decode cX10_isTrace 1 = .ok (.i2l, 1) := by decide +kernel
theorem dX10_isTrace_2 : decode cX10_isTrace 2 = .ok (.lconst 0, 1) := by decide +kernel
theorem dX10_isTrace_3 : decode cX10_isTrace 3 = .ok (.aload_n 0, 1) := by decide +kernel
theorem dX10_isTrace_4 : decode cX10_isTrace 4 = .ok (.getfield 253, 3) := by decide +kernel
theorem dX10_isTrace_7 : decode cX10_isTrace 7 = .ok (.iconst 1, 1) := by decide +kernel
theorem dX10_isTrace_8 : decode cX10_isTrace 8 = .ok (.isub, 1) := by decide +kernel
theorem dX10_isTrace_9 : decode cX10_isTrace 9 = .ok (.i2l, 1) := by decide +kernel
theorem dX10_isTrace_10 : decode cX10_isTrace 10 = .ok (.invokestatic 86, 3) := by decide +kernel
theorem dX10_isTrace_13 : decode cX10_isTrace 13 = .ok (.ireturn, 1) := by decide +kernel
theorem dX10_traceOf_0 : decode cX10_traceOf 0 = .ok (.aload_n 0, 1) := by decide +kernel
theorem dX10_traceOf_1 : decode cX10_traceOf 1 = .ok (.iload_n 1, 1) := by decide +kernel
theorem dX10_traceOf_2 : decode cX10_traceOf 2 = .ok (.invokevirtual 356, 3) := by decide +kernel
theorem dX10_traceOf_5 : decode cX10_traceOf 5 = .ok (.ifCond .eq 24, 3) := by decide +kernel
theorem dX10_traceOf_8 : decode cX10_traceOf 8 = .ok (.iload_n 2, 1) := by decide +kernel
theorem dX10_traceOf_9 : decode cX10_traceOf 9 = .ok (.i2l, 1) := by decide +kernel
theorem dX10_traceOf_10 : decode cX10_traceOf 10 = .ok (.lconst 0, 1) := by decide +kernel
theorem dX10_traceOf_11 : decode cX10_traceOf 11 = .ok (.ldc2_w 359, 3) := by decide +kernel
theorem dX10_traceOf_14 : decode cX10_traceOf 14 = .ok (.invokestatic 86, 3) := by decide +kernel
theorem dX10_traceOf_17 : decode cX10_traceOf 17 = .ok (.ifCond .eq 12, 3) := by decide +kernel
theorem dX10_traceOf_20 : decode cX10_traceOf 20 = .ok (.aload_n 0, 1) := by decide +kernel
theorem dX10_traceOf_21 : decode cX10_traceOf 21 = .ok (.iload_n 1, 1) := by decide +kernel
theorem dX10_traceOf_22 : decode cX10_traceOf 22 = .ok (.iload_n 2, 1) := by decide +kernel
theorem dX10_traceOf_23 : decode cX10_traceOf 23 = .ok (.invokevirtual 361, 3) := by decide +kernel
theorem dX10_traceOf_26 : decode cX10_traceOf 26 = .ok (.goto 5, 3) := by decide +kernel
theorem dX10_traceOf_29 : decode cX10_traceOf 29 = .ok (.bipush (-2), 2) := by decide +kernel
theorem dX10_traceOf_31 : decode cX10_traceOf 31 = .ok (.ireturn, 1) := by decide +kernel
theorem dX10_trace_0 : decode cX10_trace 0 = .ok (.aload_n 0, 1) := by decide +kernel
theorem dX10_trace_1 : decode cX10_trace 1 = .ok (.aload_n 0, 1) := by decide +kernel
theorem dX10_trace_2 : decode cX10_trace 2 = .ok (.getfield 83, 3) := by decide +kernel
theorem dX10_trace_5 : decode cX10_trace 5 = .ok (.invokevirtual 344, 3) := by decide +kernel
theorem dX10_trace_8 : decode cX10_trace 8 = .ok (.aload_n 0, 1) := by decide +kernel
theorem dX10_trace_9 : decode cX10_trace 9 = .ok (.iload_n 1, 1) := by decide +kernel
theorem dX10_trace_10 : decode cX10_trace 10 = .ok (.iload_n 2, 1) := by decide +kernel
theorem dX10_trace_11 : decode cX10_trace 11 = .ok (.invokevirtual 364, 3) := by decide +kernel
theorem dX10_trace_14 : decode cX10_trace 14 = .ok (.ireturn, 1) := by decide +kernel
theorem dX10_isEntry_0 : decode cX10_isEntry 0 = .ok (.aload_n 0, 1) := by decide +kernel
theorem dX10_isEntry_1 : decode cX10_isEntry 1 = .ok (.iload_n 1, 1) := by decide +kernel
theorem dX10_isEntry_2 : decode cX10_isEntry 2 = .ok (.invokevirtual 356, 3) := by decide +kernel
theorem dX10_isEntry_5 : decode cX10_isEntry 5 = .ok (.ifCond .eq 25, 3) := by decide +kernel
theorem dX10_isEntry_8 : decode cX10_isEntry 8 = .ok (.iload_n 2, 1) := by decide +kernel
theorem dX10_isEntry_9 : decode cX10_isEntry 9 = .ok (.i2l, 1) := by decide +kernel
theorem dX10_isEntry_10 : decode cX10_isEntry 10 = .ok (.lconst 0, 1) := by decide +kernel
theorem dX10_isEntry_11 : decode cX10_isEntry 11 = .ok (.aload_n 0, 1) := by decide +kernel
theorem dX10_isEntry_12 : decode cX10_isEntry 12 = .ok (.getfield 52, 3) := by decide +kernel
theorem dX10_isEntry_15 : decode cX10_isEntry 15 = .ok (.iload_n 1, 1) := by decide +kernel
theorem dX10_isEntry_16 : decode cX10_isEntry 16 = .ok (.iaload, 1) := by decide +kernel
theorem dX10_isEntry_17 : decode cX10_isEntry 17 = .ok (.iconst 1, 1) := by decide +kernel
theorem dX10_isEntry_18 : decode cX10_isEntry 18 = .ok (.isub, 1) := by decide +kernel
theorem dX10_isEntry_19 : decode cX10_isEntry 19 = .ok (.i2l, 1) := by decide +kernel
theorem dX10_isEntry_20 : decode cX10_isEntry 20 = .ok (.invokestatic 86, 3) := by decide +kernel
theorem dX10_isEntry_23 : decode cX10_isEntry 23 = .ok (.ifCond .eq 7, 3) := by decide +kernel
theorem dX10_isEntry_26 : decode cX10_isEntry 26 = .ok (.iconst 1, 1) := by decide +kernel
theorem dX10_isEntry_27 : decode cX10_isEntry 27 = .ok (.goto 4, 3) := by decide +kernel
theorem dX10_isEntry_30 : decode cX10_isEntry 30 = .ok (.iconst 0, 1) := by decide +kernel
theorem dX10_isEntry_31 : decode cX10_isEntry 31 = .ok (.ireturn, 1) := by decide +kernel
theorem dX10_entryOf_0 : decode cX10_entryOf 0 = .ok (.aload_n 0, 1) := by decide +kernel
theorem dX10_entryOf_1 : decode cX10_entryOf 1 = .ok (.iload_n 1, 1) := by decide +kernel
theorem dX10_entryOf_2 : decode cX10_entryOf 2 = .ok (.iload_n 2, 1) := by decide +kernel
theorem dX10_entryOf_3 : decode cX10_entryOf 3 = .ok (.invokevirtual 367, 3) := by decide +kernel
theorem dX10_entryOf_6 : decode cX10_entryOf 6 = .ok (.ifCond .eq 29, 3) := by decide +kernel
theorem dX10_entryOf_9 : decode cX10_entryOf 9 = .ok (.iload_n 3, 1) := by decide +kernel
theorem dX10_entryOf_10 : decode cX10_entryOf 10 = .ok (.i2l, 1) := by decide +kernel
theorem dX10_entryOf_11 : decode cX10_entryOf 11 = .ok (.lconst 0, 1) := by decide +kernel
theorem dX10_entryOf_12 : decode cX10_entryOf 12 = .ok (.ldc2_w 239, 3) := by decide +kernel
theorem dX10_entryOf_15 : decode cX10_entryOf 15 = .ok (.invokestatic 86, 3) := by decide +kernel
theorem dX10_entryOf_18 : decode cX10_entryOf 18 = .ok (.ifCond .eq 17, 3) := by decide +kernel
theorem dX10_entryOf_21 : decode cX10_entryOf 21 = .ok (.aload_n 0, 1) := by decide +kernel
theorem dX10_entryOf_22 : decode cX10_entryOf 22 = .ok (.bipush 16, 2) := by decide +kernel
theorem dX10_entryOf_24 : decode cX10_entryOf 24 = .ok (.iload_n 1, 1) := by decide +kernel
theorem dX10_entryOf_25 : decode cX10_entryOf 25 = .ok (.imul, 1) := by decide +kernel
theorem dX10_entryOf_26 : decode cX10_entryOf 26 = .ok (.iload_n 2, 1) := by decide +kernel
theorem dX10_entryOf_27 : decode cX10_entryOf 27 = .ok (.iadd, 1) := by decide +kernel
theorem dX10_entryOf_28 : decode cX10_entryOf 28 = .ok (.iload_n 3, 1) := by decide +kernel
theorem dX10_entryOf_29 : decode cX10_entryOf 29 = .ok (.invokevirtual 370, 3) := by decide +kernel
theorem dX10_entryOf_32 : decode cX10_entryOf 32 = .ok (.goto 5, 3) := by decide +kernel
theorem dX10_entryOf_35 : decode cX10_entryOf 35 = .ok (.bipush (-2), 2) := by decide +kernel
theorem dX10_entryOf_37 : decode cX10_entryOf 37 = .ok (.ireturn, 1) := by decide +kernel
theorem dX10_entry_0 : decode cX10_entry 0 = .ok (.aload_n 0, 1) := by decide +kernel
theorem dX10_entry_1 : decode cX10_entry 1 = .ok (.aload_n 0, 1) := by decide +kernel
theorem dX10_entry_2 : decode cX10_entry 2 = .ok (.getfield 83, 3) := by decide +kernel
theorem dX10_entry_5 : decode cX10_entry 5 = .ok (.invokevirtual 344, 3) := by decide +kernel
theorem dX10_entry_8 : decode cX10_entry 8 = .ok (.aload_n 0, 1) := by decide +kernel
theorem dX10_entry_9 : decode cX10_entry 9 = .ok (.iload_n 1, 1) := by decide +kernel
theorem dX10_entry_10 : decode cX10_entry 10 = .ok (.iload_n 2, 1) := by decide +kernel
theorem dX10_entry_11 : decode cX10_entry 11 = .ok (.iload_n 3, 1) := by decide +kernel
theorem dX10_entry_12 : decode cX10_entry 12 = .ok (.invokevirtual 373, 3) := by decide +kernel
theorem dX10_entry_15 : decode cX10_entry 15 = .ok (.ireturn, 1) := by decide +kernel
theorem dX10_checksOf_0 : decode cX10_checksOf 0 = .ok (.aload_n 0, 1) := by decide +kernel
theorem dX10_checksOf_1 : decode cX10_checksOf 1 = .ok (.iload_n 1, 1) := by decide +kernel
theorem dX10_checksOf_2 : decode cX10_checksOf 2 = .ok (.invokevirtual 356, 3) := by decide +kernel
theorem dX10_checksOf_5 : decode cX10_checksOf 5 = .ok (.ifCond .eq 24, 3) := by decide +kernel
theorem dX10_checksOf_8 : decode cX10_checksOf 8 = .ok (.iload_n 2, 1) := by decide +kernel
theorem dX10_checksOf_9 : decode cX10_checksOf 9 = .ok (.i2l, 1) := by decide +kernel
theorem dX10_checksOf_10 : decode cX10_checksOf 10 = .ok (.lconst 0, 1) := by decide +kernel
theorem dX10_checksOf_11 : decode cX10_checksOf 11 = .ok (.ldc2_w 99, 3) := by decide +kernel
theorem dX10_checksOf_14 : decode cX10_checksOf 14 = .ok (.invokestatic 86, 3) := by decide +kernel
theorem dX10_checksOf_17 : decode cX10_checksOf 17 = .ok (.ifCond .eq 12, 3) := by decide +kernel
theorem dX10_checksOf_20 : decode cX10_checksOf 20 = .ok (.aload_n 0, 1) := by decide +kernel
theorem dX10_checksOf_21 : decode cX10_checksOf 21 = .ok (.iload_n 1, 1) := by decide +kernel
theorem dX10_checksOf_22 : decode cX10_checksOf 22 = .ok (.iload_n 2, 1) := by decide +kernel
theorem dX10_checksOf_23 : decode cX10_checksOf 23 = .ok (.invokevirtual 382, 3) := by decide +kernel
theorem dX10_checksOf_26 : decode cX10_checksOf 26 = .ok (.goto 5, 3) := by decide +kernel
theorem dX10_checksOf_29 : decode cX10_checksOf 29 = .ok (.bipush (-2), 2) := by decide +kernel
theorem dX10_checksOf_31 : decode cX10_checksOf 31 = .ok (.ireturn, 1) := by decide +kernel
theorem dX10_checks_0 : decode cX10_checks 0 = .ok (.aload_n 0, 1) := by decide +kernel
theorem dX10_checks_1 : decode cX10_checks 1 = .ok (.aload_n 0, 1) := by decide +kernel
theorem dX10_checks_2 : decode cX10_checks 2 = .ok (.getfield 83, 3) := by decide +kernel
theorem dX10_checks_5 : decode cX10_checks 5 = .ok (.invokevirtual 344, 3) := by decide +kernel
theorem dX10_checks_8 : decode cX10_checks 8 = .ok (.aload_n 0, 1) := by decide +kernel
theorem dX10_checks_9 : decode cX10_checks 9 = .ok (.iload_n 1, 1) := by decide +kernel
theorem dX10_checks_10 : decode cX10_checks 10 = .ok (.iload_n 2, 1) := by decide +kernel
theorem dX10_checks_11 : decode cX10_checks 11 = .ok (.invokevirtual 385, 3) := by decide +kernel
theorem dX10_checks_14 : decode cX10_checks 14 = .ok (.ireturn, 1) := by decide +kernel
theorem dX10_snapshotOf_0 : decode cX10_snapshotOf 0 = .ok (.aload_n 0, 1) := by decide +kernel
theorem dX10_snapshotOf_1 : decode cX10_snapshotOf 1 = .ok (.iload_n 1, 1) := by decide +kernel
theorem dX10_snapshotOf_2 : decode cX10_snapshotOf 2 = .ok (.iload_n 2, 1) := by decide +kernel
theorem dX10_snapshotOf_3 : decode cX10_snapshotOf 3 = .ok (.invokevirtual 367, 3) := by decide +kernel
theorem dX10_snapshotOf_6 : decode cX10_snapshotOf 6 = .ok (.ifCond .eq 20, 3) := by decide +kernel
theorem dX10_snapshotOf_9 : decode cX10_snapshotOf 9 = .ok (.iload_n 3, 1) := by decide +kernel
theorem dX10_snapshotOf_10 : decode cX10_snapshotOf 10 = .ok (.invokestatic 175, 3) := by decide +kernel
theorem dX10_snapshotOf_13 : decode cX10_snapshotOf 13 = .ok (.ifCond .eq 13, 3) := by decide +kernel
theorem dX10_snapshotOf_16 : decode cX10_snapshotOf 16 = .ok (.aload_n 0, 1) := by decide +kernel
theorem dX10_snapshotOf_17 : decode cX10_snapshotOf 17 = .ok (.iload_n 1, 1) := by decide +kernel
theorem dX10_snapshotOf_18 : decode cX10_snapshotOf 18 = .ok (.iload_n 2, 1) := by decide +kernel
theorem dX10_snapshotOf_19 : decode cX10_snapshotOf 19 = .ok (.iload_n 3, 1) := by decide +kernel
theorem dX10_snapshotOf_20 : decode cX10_snapshotOf 20 = .ok (.invokevirtual 388, 3) := by decide +kernel
theorem dX10_snapshotOf_23 : decode cX10_snapshotOf 23 = .ok (.goto 5, 3) := by decide +kernel
theorem dX10_snapshotOf_26 : decode cX10_snapshotOf 26 = .ok (.bipush (-2), 2) := by decide +kernel
theorem dX10_snapshotOf_28 : decode cX10_snapshotOf 28 = .ok (.ireturn, 1) := by decide +kernel
theorem dX10_snapshot_0 : decode cX10_snapshot 0 = .ok (.aload_n 0, 1) := by decide +kernel
theorem dX10_snapshot_1 : decode cX10_snapshot 1 = .ok (.aload_n 0, 1) := by decide +kernel
theorem dX10_snapshot_2 : decode cX10_snapshot 2 = .ok (.getfield 83, 3) := by decide +kernel
theorem dX10_snapshot_5 : decode cX10_snapshot 5 = .ok (.invokevirtual 344, 3) := by decide +kernel
theorem dX10_snapshot_8 : decode cX10_snapshot 8 = .ok (.aload_n 0, 1) := by decide +kernel
theorem dX10_snapshot_9 : decode cX10_snapshot 9 = .ok (.iload_n 1, 1) := by decide +kernel
theorem dX10_snapshot_10 : decode cX10_snapshot 10 = .ok (.iload_n 2, 1) := by decide +kernel
theorem dX10_snapshot_11 : decode cX10_snapshot 11 = .ok (.iload_n 3, 1) := by decide +kernel
theorem dX10_snapshot_12 : decode cX10_snapshot 12 = .ok (.invokevirtual 391, 3) := by decide +kernel
theorem dX10_snapshot_15 : decode cX10_snapshot 15 = .ok (.ireturn, 1) := by decide +kernel
theorem dX10_writesOf_0 : decode cX10_writesOf 0 = .ok (.aload_n 0, 1) := by decide +kernel
theorem dX10_writesOf_1 : decode cX10_writesOf 1 = .ok (.iload_n 1, 1) := by decide +kernel
theorem dX10_writesOf_2 : decode cX10_writesOf 2 = .ok (.invokevirtual 356, 3) := by decide +kernel
theorem dX10_writesOf_5 : decode cX10_writesOf 5 = .ok (.ifCond .eq 17, 3) := by decide +kernel
theorem dX10_writesOf_8 : decode cX10_writesOf 8 = .ok (.aload_n 0, 1) := by decide +kernel
theorem dX10_writesOf_9 : decode cX10_writesOf 9 = .ok (.iload_n 1, 1) := by decide +kernel
theorem dX10_writesOf_10 : decode cX10_writesOf 10 = .ok (.aload_n 0, 1) := by decide +kernel
theorem dX10_writesOf_11 : decode cX10_writesOf 11 = .ok (.getfield 52, 3) := by decide +kernel
theorem dX10_writesOf_14 : decode cX10_writesOf 14 = .ok (.iload_n 1, 1) := by decide +kernel
theorem dX10_writesOf_15 : decode cX10_writesOf 15 = .ok (.iaload, 1) := by decide +kernel
theorem dX10_writesOf_16 : decode cX10_writesOf 16 = .ok (.invokevirtual 376, 3) := by decide +kernel
theorem dX10_writesOf_19 : decode cX10_writesOf 19 = .ok (.goto 5, 3) := by decide +kernel
theorem dX10_writesOf_22 : decode cX10_writesOf 22 = .ok (.bipush (-2), 2) := by decide +kernel
theorem dX10_writesOf_24 : decode cX10_writesOf 24 = .ok (.ireturn, 1) := by decide +kernel
theorem dX10_writes_0 : decode cX10_writes 0 = .ok (.aload_n 0, 1) := by decide +kernel
theorem dX10_writes_1 : decode cX10_writes 1 = .ok (.aload_n 0, 1) := by decide +kernel
theorem dX10_writes_2 : decode cX10_writes 2 = .ok (.getfield 83, 3) := by decide +kernel
theorem dX10_writes_5 : decode cX10_writes 5 = .ok (.invokevirtual 344, 3) := by decide +kernel
theorem dX10_writes_8 : decode cX10_writes 8 = .ok (.aload_n 0, 1) := by decide +kernel
theorem dX10_writes_9 : decode cX10_writes 9 = .ok (.iload_n 1, 1) := by decide +kernel
theorem dX10_writes_10 : decode cX10_writes 10 = .ok (.invokevirtual 394, 3) := by decide +kernel
theorem dX10_writes_13 : decode cX10_writes 13 = .ok (.ireturn, 1) := by decide +kernel
theorem dX10_betterBy_0 : decode cX10_betterBy 0 = .ok (.iconst (-1), 1) := by decide +kernel
theorem dX10_betterBy_1 : decode cX10_betterBy 1 = .ok (.istore_n 2, 1) := by decide +kernel
theorem dX10_betterBy_2 : decode cX10_betterBy 2 = .ok (.iconst (-1), 1) := by decide +kernel
theorem dX10_betterBy_3 : decode cX10_betterBy 3 = .ok (.istore_n 3, 1) := by decide +kernel
theorem dX10_betterBy_4 : decode cX10_betterBy 4 = .ok (.iconst 2, 1) := by decide +kernel
theorem dX10_betterBy_5 : decode cX10_betterBy 5 = .ok (.istore 4, 2) := by decide +kernel
theorem dX10_betterBy_7 : decode cX10_betterBy 7 = .ok (.iload 4, 2) := by decide +kernel
theorem dX10_betterBy_9 : decode cX10_betterBy 9 = .ok (.bipush 10, 2) := by decide +kernel
theorem dX10_betterBy_11 : decode cX10_betterBy 11 = .ok (.if_icmp .ge 39, 3) := by decide +kernel
theorem dX10_betterBy_14 : decode cX10_betterBy 14 = .ok (.aload_n 0, 1) := by decide +kernel
theorem dX10_betterBy_15 : decode cX10_betterBy 15 = .ok (.iload 4, 2) := by decide +kernel
theorem dX10_betterBy_17 : decode cX10_betterBy 17 = .ok (.invokevirtual 344, 3) := by decide +kernel
theorem dX10_betterBy_20 : decode cX10_betterBy 20 = .ok (.aload_n 0, 1) := by decide +kernel
theorem dX10_betterBy_21 : decode cX10_betterBy 21 = .ok (.getfield 307, 3) := by decide +kernel
theorem dX10_betterBy_24 : decode cX10_betterBy 24 = .ok (.iload_n 3, 1) := by decide +kernel
theorem dX10_betterBy_25 : decode cX10_betterBy 25 = .ok (.if_icmp .le 8, 3) := by decide +kernel
theorem dX10_betterBy_28 : decode cX10_betterBy 28 = .ok (.iload 4, 2) := by decide +kernel
theorem dX10_betterBy_30 : decode cX10_betterBy 30 = .ok (.goto 4, 3) := by decide +kernel
theorem dX10_betterBy_33 : decode cX10_betterBy 33 = .ok (.iload_n 2, 1) := by decide +kernel
theorem dX10_betterBy_34 : decode cX10_betterBy 34 = .ok (.istore_n 2, 1) := by decide +kernel
theorem dX10_betterBy_35 : decode cX10_betterBy 35 = .ok (.aload_n 0, 1) := by decide +kernel
theorem dX10_betterBy_36 : decode cX10_betterBy 36 = .ok (.getfield 307, 3) := by decide +kernel
theorem dX10_betterBy_39 : decode cX10_betterBy 39 = .ok (.iload_n 3, 1) := by decide +kernel
theorem dX10_betterBy_40 : decode cX10_betterBy 40 = .ok (.invokestatic 397, 3) := by decide +kernel
theorem dX10_betterBy_43 : decode cX10_betterBy 43 = .ok (.istore_n 3, 1) := by decide +kernel
theorem dX10_betterBy_44 : decode cX10_betterBy 44 = .ok (.iinc 4 1, 3) := by decide +kernel
theorem dX10_betterBy_47 : decode cX10_betterBy 47 = .ok (.goto (-40), 3) := by decide +kernel
theorem dX10_betterBy_50 : decode cX10_betterBy 50 = .ok (.iload_n 1, 1) := by decide +kernel
theorem dX10_betterBy_51 : decode cX10_betterBy 51 = .ok (.ifCond .ne 7, 3) := by decide +kernel
theorem dX10_betterBy_54 : decode cX10_betterBy 54 = .ok (.iload_n 2, 1) := by decide +kernel
theorem dX10_betterBy_55 : decode cX10_betterBy 55 = .ok (.goto 4, 3) := by decide +kernel
theorem dX10_betterBy_58 : decode cX10_betterBy 58 = .ok (.iload_n 3, 1) := by decide +kernel
theorem dX10_betterBy_59 : decode cX10_betterBy 59 = .ok (.ireturn, 1) := by decide +kernel
theorem dX10_better_0 : decode cX10_better 0 = .ok (.iload_n 1, 1) := by decide +kernel
theorem dX10_better_1 : decode cX10_better 1 = .ok (.invokestatic 175, 3) := by decide +kernel
theorem dX10_better_4 : decode cX10_better 4 = .ok (.ifCond .eq 11, 3) := by decide +kernel
theorem dX10_better_7 : decode cX10_better 7 = .ok (.aload_n 0, 1) := by decide +kernel
theorem dX10_better_8 : decode cX10_better 8 = .ok (.iload_n 1, 1) := by decide +kernel
theorem dX10_better_9 : decode cX10_better 9 = .ok (.invokevirtual 400, 3) := by decide +kernel
theorem dX10_better_12 : decode cX10_better 12 = .ok (.goto 5, 3) := by decide +kernel
theorem dX10_better_15 : decode cX10_better 15 = .ok (.bipush (-2), 2) := by decide +kernel
theorem dX10_better_17 : decode cX10_better 17 = .ok (.ireturn, 1) := by decide +kernel
theorem dX10_write_0 : decode cX10_write 0 = .ok (.aload_n 0, 1) := by decide +kernel
theorem dX10_write_1 : decode cX10_write 1 = .ok (.aload_n 0, 1) := by decide +kernel
theorem dX10_write_2 : decode cX10_write 2 = .ok (.getfield 83, 3) := by decide +kernel
theorem dX10_write_5 : decode cX10_write 5 = .ok (.invokevirtual 344, 3) := by decide +kernel
theorem dX10_write_8 : decode cX10_write 8 = .ok (.aload_n 0, 1) := by decide +kernel
theorem dX10_write_9 : decode cX10_write 9 = .ok (.iload_n 1, 1) := by decide +kernel
theorem dX10_write_10 : decode cX10_write 10 = .ok (.invokevirtual 356, 3) := by decide +kernel
theorem dX10_write_13 : decode cX10_write 13 = .ok (.ifCond .eq 10, 3) := by decide +kernel
theorem dX10_write_16 : decode cX10_write 16 = .ok (.iload_n 2, 1) := by decide +kernel
theorem dX10_write_17 : decode cX10_write 17 = .ok (.invokestatic 95, 3) := by decide +kernel
theorem dX10_write_20 : decode cX10_write 20 = .ok (.ifCond .ne 6, 3) := by decide +kernel
theorem dX10_write_23 : decode cX10_write 23 = .ok (.bipush (-2), 2) := by decide +kernel
theorem dX10_write_25 : decode cX10_write 25 = .ok (.ireturn, 1) := by decide +kernel
theorem dX10_write_26 : decode cX10_write 26 = .ok (.aload_n 0, 1) := by decide +kernel
theorem dX10_write_27 : decode cX10_write 27 = .ok (.getfield 7, 3) := by decide +kernel
theorem dX10_write_30 : decode cX10_write 30 = .ok (.iload_n 2, 1) := by decide +kernel
theorem dX10_write_31 : decode cX10_write 31 = .ok (.iaload, 1) := by decide +kernel
theorem dX10_write_32 : decode cX10_write 32 = .ok (.ifCond .ge 9, 3) := by decide +kernel
theorem dX10_write_35 : decode cX10_write 35 = .ok (.aload_n 0, 1) := by decide +kernel
theorem dX10_write_36 : decode cX10_write 36 = .ok (.iconst 1, 1) := by decide +kernel
theorem dX10_write_37 : decode cX10_write 37 = .ok (.invokevirtual 101, 3) := by decide +kernel
theorem dX10_write_40 : decode cX10_write 40 = .ok (.ireturn, 1) := by decide +kernel
theorem dX10_write_41 : decode cX10_write 41 = .ok (.aload_n 0, 1) := by decide +kernel
theorem dX10_write_42 : decode cX10_write 42 = .ok (.getfield 13, 3) := by decide +kernel
theorem dX10_write_45 : decode cX10_write 45 = .ok (.iload_n 2, 1) := by decide +kernel
theorem dX10_write_46 : decode cX10_write 46 = .ok (.iaload, 1) := by decide +kernel
theorem dX10_write_47 : decode cX10_write 47 = .ok (.aload_n 0, 1) := by decide +kernel
theorem dX10_write_48 : decode cX10_write 48 = .ok (.getfield 52, 3) := by decide +kernel
theorem dX10_write_51 : decode cX10_write 51 = .ok (.iload_n 1, 1) := by decide +kernel
theorem dX10_write_52 : decode cX10_write 52 = .ok (.iaload, 1) := by decide +kernel
theorem dX10_write_53 : decode cX10_write 53 = .ok (.invokestatic 403, 3) := by decide +kernel
theorem dX10_write_56 : decode cX10_write 56 = .ok (.istore_n 3, 1) := by decide +kernel
theorem dX10_write_57 : decode cX10_write 57 = .ok (.iconst 0, 1) := by decide +kernel
theorem dX10_write_58 : decode cX10_write 58 = .ok (.istore 4, 2) := by decide +kernel
theorem dX10_write_60 : decode cX10_write 60 = .ok (.iload 4, 2) := by decide +kernel
theorem dX10_write_62 : decode cX10_write 62 = .ok (.iload_n 3, 1) := by decide +kernel
theorem dX10_write_63 : decode cX10_write 63 = .ok (.if_icmp .ge 42, 3) := by decide +kernel
theorem dX10_write_66 : decode cX10_write 66 = .ok (.aload_n 0, 1) := by decide +kernel
theorem dX10_write_67 : decode cX10_write 67 = .ok (.getfield 16, 3) := by decide +kernel
theorem dX10_write_70 : decode cX10_write 70 = .ok (.bipush 60, 2) := by decide +kernel
theorem dX10_write_72 : decode cX10_write 72 = .ok (.iload_n 2, 1) := by decide +kernel
theorem dX10_write_73 : decode cX10_write 73 = .ok (.imul, 1) := by decide +kernel
theorem dX10_write_74 : decode cX10_write 74 = .ok (.iload 4, 2) := by decide +kernel
theorem dX10_write_76 : decode cX10_write 76 = .ok (.iadd, 1) := by decide +kernel
theorem dX10_write_77 : decode cX10_write 77 = .ok (.aload_n 0, 1) := by decide +kernel
theorem dX10_write_78 : decode cX10_write 78 = .ok (.getfield 7, 3) := by decide +kernel
theorem dX10_write_81 : decode cX10_write 81 = .ok (.iload_n 2, 1) := by decide +kernel
theorem dX10_write_82 : decode cX10_write 82 = .ok (.iaload, 1) := by decide +kernel
theorem dX10_write_83 : decode cX10_write 83 = .ok (.aload_n 0, 1) := by decide +kernel
theorem dX10_write_84 : decode cX10_write 84 = .ok (.getfield 58, 3) := by decide +kernel
theorem dX10_write_87 : decode cX10_write 87 = .ok (.bipush 16, 2) := by decide +kernel
theorem dX10_write_89 : decode cX10_write 89 = .ok (.iload_n 1, 1) := by decide +kernel
theorem dX10_write_90 : decode cX10_write 90 = .ok (.imul, 1) := by decide +kernel
theorem dX10_write_91 : decode cX10_write 91 = .ok (.iload 4, 2) := by decide +kernel
theorem dX10_write_93 : decode cX10_write 93 = .ok (.iadd, 1) := by decide +kernel
theorem dX10_write_94 : decode cX10_write 94 = .ok (.iaload, 1) := by decide +kernel
theorem dX10_write_95 : decode cX10_write 95 = .ok (.invokestatic 109, 3) := by decide +kernel
theorem dX10_write_98 : decode cX10_write 98 = .ok (.iastore, 1) := by decide +kernel
theorem dX10_write_99 : decode cX10_write 99 = .ok (.iinc 4 1, 3) := by decide +kernel
theorem dX10_write_102 : decode cX10_write 102 = .ok (.goto (-42), 3) := by decide +kernel
theorem dX10_write_105 : decode cX10_write 105 = .ok (.iload_n 3, 1) := by decide +kernel
theorem dX10_write_106 : decode cX10_write 106 = .ok (.ireturn, 1) := by decide +kernel
theorem dX10_allEntries_0 : decode cX10_allEntries 0 = .ok (.iconst 0, 1) := by decide +kernel
theorem dX10_allEntries_1 : decode cX10_allEntries 1 = .ok (.istore_n 1, 1) := by decide +kernel
theorem dX10_allEntries_2 : decode cX10_allEntries 2 = .ok (.iconst 0, 1) := by decide +kernel
theorem dX10_allEntries_3 : decode cX10_allEntries 3 = .ok (.istore_n 2, 1) := by decide +kernel
theorem dX10_allEntries_4 : decode cX10_allEntries 4 = .ok (.iload_n 2, 1) := by decide +kernel
theorem dX10_allEntries_5 : decode cX10_allEntries 5 = .ok (.aload_n 0, 1) := by decide +kernel
theorem dX10_allEntries_6 : decode cX10_allEntries 6 = .ok (.getfield 253, 3) := by decide +kernel
theorem dX10_allEntries_9 : decode cX10_allEntries 9 = .ok (.if_icmp .ge 18, 3) := by decide +kernel
theorem dX10_allEntries_12 : decode cX10_allEntries 12 = .ok (.iload_n 1, 1) := by decide +kernel
theorem dX10_allEntries_13 : decode cX10_allEntries 13 = .ok (.aload_n 0, 1) := by decide +kernel
theorem dX10_allEntries_14 : decode cX10_allEntries 14 = .ok (.getfield 52, 3) := by decide +kernel
theorem dX10_allEntries_17 : decode cX10_allEntries 17 = .ok (.iload_n 2, 1) := by decide +kernel
theorem dX10_allEntries_18 : decode cX10_allEntries 18 = .ok (.iaload, 1) := by decide +kernel
theorem dX10_allEntries_19 : decode cX10_allEntries 19 = .ok (.iadd, 1) := by decide +kernel
theorem dX10_allEntries_20 : decode cX10_allEntries 20 = .ok (.istore_n 1, 1) := by decide +kernel
theorem dX10_allEntries_21 : decode cX10_allEntries 21 = .ok (.iinc 2 1, 3) := by decide +kernel
theorem dX10_allEntries_24 : decode cX10_allEntries 24 = .ok (.goto (-20), 3) := by decide +kernel
theorem dX10_allEntries_27 : decode cX10_allEntries 27 = .ok (.iload_n 1, 1) := by decide +kernel
theorem dX10_allEntries_28 : decode cX10_allEntries 28 = .ok (.ireturn, 1) := by decide +kernel
theorem dX10_count_0 : decode cX10_count 0 = .ok (.aload_n 0, 1) := by decide +kernel
theorem dX10_count_1 : decode cX10_count 1 = .ok (.aload_n 0, 1) := by decide +kernel
theorem dX10_count_2 : decode cX10_count 2 = .ok (.getfield 83, 3) := by decide +kernel
theorem dX10_count_5 : decode cX10_count 5 = .ok (.invokevirtual 344, 3) := by decide +kernel
theorem dX10_count_8 : decode cX10_count 8 = .ok (.iload_n 1, 1) := by decide +kernel
theorem dX10_count_9 : decode cX10_count 9 = .ok (.tableswitch 89 0 8 #[51, 56, 61, 66, 71, 71, 71, 79, 84], 51) := by decide +kernel
theorem dX10_count_60 : decode cX10_count 60 = .ok (.aload_n 0, 1) := by decide +kernel
theorem dX10_count_61 : decode cX10_count 61 = .ok (.getfield 162, 3) := by decide +kernel
theorem dX10_count_64 : decode cX10_count 64 = .ok (.ireturn, 1) := by decide +kernel
theorem dX10_count_65 : decode cX10_count 65 = .ok (.aload_n 0, 1) := by decide +kernel
theorem dX10_count_66 : decode cX10_count 66 = .ok (.getfield 79, 3) := by decide +kernel
theorem dX10_count_69 : decode cX10_count 69 = .ok (.ireturn, 1) := by decide +kernel
theorem dX10_count_70 : decode cX10_count 70 = .ok (.aload_n 0, 1) := by decide +kernel
theorem dX10_count_71 : decode cX10_count 71 = .ok (.getfield 83, 3) := by decide +kernel
theorem dX10_count_74 : decode cX10_count 74 = .ok (.ireturn, 1) := by decide +kernel
theorem dX10_count_75 : decode cX10_count 75 = .ok (.aload_n 0, 1) := by decide +kernel
theorem dX10_count_76 : decode cX10_count 76 = .ok (.getfield 253, 3) := by decide +kernel
theorem dX10_count_79 : decode cX10_count 79 = .ok (.ireturn, 1) := by decide +kernel
theorem dX10_count_80 : decode cX10_count 80 = .ok (.aload_n 0, 1) := by decide +kernel
theorem dX10_count_81 : decode cX10_count 81 = .ok (.iload_n 1, 1) := by decide +kernel
theorem dX10_count_82 : decode cX10_count 82 = .ok (.iconst 2, 1) := by decide +kernel
theorem dX10_count_83 : decode cX10_count 83 = .ok (.isub, 1) := by decide +kernel
theorem dX10_count_84 : decode cX10_count 84 = .ok (.invokevirtual 350, 3) := by decide +kernel
theorem dX10_count_87 : decode cX10_count 87 = .ok (.ireturn, 1) := by decide +kernel
theorem dX10_count_88 : decode cX10_count 88 = .ok (.aload_n 0, 1) := by decide +kernel
theorem dX10_count_89 : decode cX10_count 89 = .ok (.invokevirtual 406, 3) := by decide +kernel
theorem dX10_count_92 : decode cX10_count 92 = .ok (.ireturn, 1) := by decide +kernel
theorem dX10_count_93 : decode cX10_count 93 = .ok (.aload_n 0, 1) := by decide +kernel
theorem dX10_count_94 : decode cX10_count 94 = .ok (.getfield 90, 3) := by decide +kernel
theorem dX10_count_97 : decode cX10_count 97 = .ok (.ireturn, 1) := by decide +kernel
theorem dX10_count_98 : decode cX10_count 98 = .ok (.bipush (-2), 2) := by decide +kernel
theorem dX10_count_100 : decode cX10_count 100 = .ok (.ireturn, 1) := by decide +kernel
theorem dX10_tellsTrace_0 : decode cX10_tellsTrace 0 = .ok (.lload_n 1, 1) := by decide +kernel
theorem dX10_tellsTrace_1 : decode cX10_tellsTrace 1 = .ok (.lstore 4, 2) := by decide +kernel
theorem dX10_tellsTrace_3 : decode cX10_tellsTrace 3 = .ok (.iconst 0, 1) := by decide +kernel
theorem dX10_tellsTrace_4 : decode cX10_tellsTrace 4 = .ok (.istore 6, 2) := by decide +kernel
theorem dX10_tellsTrace_6 : decode cX10_tellsTrace 6 = .ok (.iload 6, 2) := by decide +kernel
theorem dX10_tellsTrace_8 : decode cX10_tellsTrace 8 = .ok (.iconst 5, 1) := by decide +kernel
theorem dX10_tellsTrace_9 : decode cX10_tellsTrace 9 = .ok (.if_icmp .ge 26, 3) := by decide +kernel
theorem dX10_tellsTrace_12 : decode cX10_tellsTrace 12 = .ok (.ldc2_w 410, 3) := by decide +kernel
theorem dX10_tellsTrace_15 : decode cX10_tellsTrace 15 = .ok (.lload 4, 2) := by decide +kernel
theorem dX10_tellsTrace_17 : decode cX10_tellsTrace 17 = .ok (.lmul, 1) := by decide +kernel
theorem dX10_tellsTrace_18 : decode cX10_tellsTrace 18 = .ok (.aload_n 0, 1) := by decide +kernel
theorem dX10_tellsTrace_19 : decode cX10_tellsTrace 19 = .ok (.iload_n 3, 1) := by decide +kernel
theorem dX10_tellsTrace_20 : decode cX10_tellsTrace 20 = .ok (.iload 6, 2) := by decide +kernel
theorem dX10_tellsTrace_22 : decode cX10_tellsTrace 22 = .ok (.invokevirtual 364, 3) := by decide +kernel
theorem dX10_tellsTrace_25 : decode cX10_tellsTrace 25 = .ok (.i2l, 1) := by decide +kernel
theorem dX10_tellsTrace_26 : decode cX10_tellsTrace 26 = .ok (.ladd, 1) := by decide +kernel
theorem dX10_tellsTrace_27 : decode cX10_tellsTrace 27 = .ok (.lstore 4, 2) := by decide +kernel
theorem dX10_tellsTrace_29 : decode cX10_tellsTrace 29 = .ok (.iinc 6 1, 3) := by decide +kernel
theorem dX10_tellsTrace_32 : decode cX10_tellsTrace 32 = .ok (.goto (-26), 3) := by decide +kernel
theorem dX10_tellsTrace_35 : decode cX10_tellsTrace 35 = .ok (.iconst 0, 1) := by decide +kernel
theorem dX10_tellsTrace_36 : decode cX10_tellsTrace 36 = .ok (.istore 6, 2) := by decide +kernel
theorem dX10_tellsTrace_38 : decode cX10_tellsTrace 38 = .ok (.iload 6, 2) := by decide +kernel
theorem dX10_tellsTrace_40 : decode cX10_tellsTrace 40 = .ok (.iconst 3, 1) := by decide +kernel
theorem dX10_tellsTrace_41 : decode cX10_tellsTrace 41 = .ok (.if_icmp .ge 26, 3) := by decide +kernel
theorem dX10_tellsTrace_44 : decode cX10_tellsTrace 44 = .ok (.ldc2_w 410, 3) := by decide +kernel
theorem dX10_tellsTrace_47 : decode cX10_tellsTrace 47 = .ok (.lload 4, 2) := by decide +kernel
theorem dX10_tellsTrace_49 : decode cX10_tellsTrace 49 = .ok (.lmul, 1) := by decide +kernel
theorem dX10_tellsTrace_50 : decode cX10_tellsTrace 50 = .ok (.aload_n 0, 1) := by decide +kernel
theorem dX10_tellsTrace_51 : decode cX10_tellsTrace 51 = .ok (.iload_n 3, 1) := by decide +kernel
theorem dX10_tellsTrace_52 : decode cX10_tellsTrace 52 = .ok (.iload 6, 2) := by decide +kernel
theorem dX10_tellsTrace_54 : decode cX10_tellsTrace 54 = .ok (.invokevirtual 385, 3) := by decide +kernel
theorem dX10_tellsTrace_57 : decode cX10_tellsTrace 57 = .ok (.i2l, 1) := by decide +kernel
theorem dX10_tellsTrace_58 : decode cX10_tellsTrace 58 = .ok (.ladd, 1) := by decide +kernel
theorem dX10_tellsTrace_59 : decode cX10_tellsTrace 59 = .ok (.lstore 4, 2) := by decide +kernel
theorem dX10_tellsTrace_61 : decode cX10_tellsTrace 61 = .ok (.iinc 6 1, 3) := by decide +kernel
theorem dX10_tellsTrace_64 : decode cX10_tellsTrace 64 = .ok (.goto (-26), 3) := by decide +kernel
theorem dX10_tellsTrace_67 : decode cX10_tellsTrace 67 = .ok (.ldc2_w 410, 3) := by decide +kernel
theorem dX10_tellsTrace_70 : decode cX10_tellsTrace 70 = .ok (.lload 4, 2) := by decide +kernel
theorem dX10_tellsTrace_72 : decode cX10_tellsTrace 72 = .ok (.lmul, 1) := by decide +kernel
theorem dX10_tellsTrace_73 : decode cX10_tellsTrace 73 = .ok (.aload_n 0, 1) := by decide +kernel
theorem dX10_tellsTrace_74 : decode cX10_tellsTrace 74 = .ok (.iload_n 3, 1) := by decide +kernel
theorem dX10_tellsTrace_75 : decode cX10_tellsTrace 75 = .ok (.invokevirtual 394, 3) := by decide +kernel
theorem dX10_tellsTrace_78 : decode cX10_tellsTrace 78 = .ok (.i2l, 1) := by decide +kernel
theorem dX10_tellsTrace_79 : decode cX10_tellsTrace 79 = .ok (.ladd, 1) := by decide +kernel
theorem dX10_tellsTrace_80 : decode cX10_tellsTrace 80 = .ok (.lstore 4, 2) := by decide +kernel
theorem dX10_tellsTrace_82 : decode cX10_tellsTrace 82 = .ok (.iconst 0, 1) := by decide +kernel
theorem dX10_tellsTrace_83 : decode cX10_tellsTrace 83 = .ok (.istore 6, 2) := by decide +kernel
theorem dX10_tellsTrace_85 : decode cX10_tellsTrace 85 = .ok (.iload 6, 2) := by decide +kernel
theorem dX10_tellsTrace_87 : decode cX10_tellsTrace 87 = .ok (.bipush 16, 2) := by decide +kernel
theorem dX10_tellsTrace_89 : decode cX10_tellsTrace 89 = .ok (.if_icmp .ge 78, 3) := by decide +kernel
theorem dX10_tellsTrace_92 : decode cX10_tellsTrace 92 = .ok (.iconst 0, 1) := by decide +kernel
theorem dX10_tellsTrace_93 : decode cX10_tellsTrace 93 = .ok (.istore 7, 2) := by decide +kernel
theorem dX10_tellsTrace_95 : decode cX10_tellsTrace 95 = .ok (.iload 7, 2) := by decide +kernel
theorem dX10_tellsTrace_97 : decode cX10_tellsTrace 97 = .ok (.bipush 6, 2) := by decide +kernel
theorem dX10_tellsTrace_99 : decode cX10_tellsTrace 99 = .ok (.if_icmp .ge 28, 3) := by decide +kernel
theorem dX10_tellsTrace_102 : decode cX10_tellsTrace 102 = .ok (.ldc2_w 410, 3) := by decide +kernel
theorem dX10_tellsTrace_105 : decode cX10_tellsTrace 105 = .ok (.lload 4, 2) := by decide +kernel
theorem dX10_tellsTrace_107 : decode cX10_tellsTrace 107 = .ok (.lmul, 1) := by decide +kernel
theorem dX10_tellsTrace_108 : decode cX10_tellsTrace 108 = .ok (.aload_n 0, 1) := by decide +kernel
theorem dX10_tellsTrace_109 : decode cX10_tellsTrace 109 = .ok (.iload_n 3, 1) := by decide +kernel
theorem dX10_tellsTrace_110 : decode cX10_tellsTrace 110 = .ok (.iload 6, 2) := by decide +kernel
theorem dX10_tellsTrace_112 : decode cX10_tellsTrace 112 = .ok (.iload 7, 2) := by decide +kernel
theorem dX10_tellsTrace_114 : decode cX10_tellsTrace 114 = .ok (.invokevirtual 373, 3) := by decide +kernel
theorem dX10_tellsTrace_117 : decode cX10_tellsTrace 117 = .ok (.i2l, 1) := by decide +kernel
theorem dX10_tellsTrace_118 : decode cX10_tellsTrace 118 = .ok (.ladd, 1) := by decide +kernel
theorem dX10_tellsTrace_119 : decode cX10_tellsTrace 119 = .ok (.lstore 4, 2) := by decide +kernel
theorem dX10_tellsTrace_121 : decode cX10_tellsTrace 121 = .ok (.iinc 7 1, 3) := by decide +kernel
theorem dX10_tellsTrace_124 : decode cX10_tellsTrace 124 = .ok (.goto (-29), 3) := by decide +kernel
theorem dX10_tellsTrace_127 : decode cX10_tellsTrace 127 = .ok (.iconst 0, 1) := by decide +kernel
theorem dX10_tellsTrace_128 : decode cX10_tellsTrace 128 = .ok (.istore 7, 2) := by decide +kernel
theorem dX10_tellsTrace_130 : decode cX10_tellsTrace 130 = .ok (.iload 7, 2) := by decide +kernel
theorem dX10_tellsTrace_132 : decode cX10_tellsTrace 132 = .ok (.iconst 2, 1) := by decide +kernel
theorem dX10_tellsTrace_133 : decode cX10_tellsTrace 133 = .ok (.if_icmp .ge 28, 3) := by decide +kernel
theorem dX10_tellsTrace_136 : decode cX10_tellsTrace 136 = .ok (.ldc2_w 410, 3) := by decide +kernel
theorem dX10_tellsTrace_139 : decode cX10_tellsTrace 139 = .ok (.lload 4, 2) := by decide +kernel
theorem dX10_tellsTrace_141 : decode cX10_tellsTrace 141 = .ok (.lmul, 1) := by decide +kernel
theorem dX10_tellsTrace_142 : decode cX10_tellsTrace 142 = .ok (.aload_n 0, 1) := by decide +kernel
theorem dX10_tellsTrace_143 : decode cX10_tellsTrace 143 = .ok (.iload_n 3, 1) := by decide +kernel
theorem dX10_tellsTrace_144 : decode cX10_tellsTrace 144 = .ok (.iload 6, 2) := by decide +kernel
theorem dX10_tellsTrace_146 : decode cX10_tellsTrace 146 = .ok (.iload 7, 2) := by decide +kernel
theorem dX10_tellsTrace_148 : decode cX10_tellsTrace 148 = .ok (.invokevirtual 391, 3) := by decide +kernel
theorem dX10_tellsTrace_151 : decode cX10_tellsTrace 151 = .ok (.i2l, 1) := by decide +kernel
theorem dX10_tellsTrace_152 : decode cX10_tellsTrace 152 = .ok (.ladd, 1) := by decide +kernel
theorem dX10_tellsTrace_153 : decode cX10_tellsTrace 153 = .ok (.lstore 4, 2) := by decide +kernel
theorem dX10_tellsTrace_155 : decode cX10_tellsTrace 155 = .ok (.iinc 7 1, 3) := by decide +kernel
theorem dX10_tellsTrace_158 : decode cX10_tellsTrace 158 = .ok (.goto (-28), 3) := by decide +kernel
theorem dX10_tellsTrace_161 : decode cX10_tellsTrace 161 = .ok (.iinc 6 1, 3) := by decide +kernel
theorem dX10_tellsTrace_164 : decode cX10_tellsTrace 164 = .ok (.goto (-79), 3) := by decide +kernel
theorem dX10_tellsTrace_167 : decode cX10_tellsTrace 167 = .ok (.lload 4, 2) := by decide +kernel
theorem dX10_tellsTrace_169 : decode cX10_tellsTrace 169 = .ok (.lreturn, 1) := by decide +kernel
theorem dX10_digest_0 : decode cX10_digest 0 = .ok (.ldc2_w 412, 3) := by decide +kernel
theorem dX10_digest_3 : decode cX10_digest 3 = .ok (.lstore_n 1, 1) := by decide +kernel
theorem dX10_digest_4 : decode cX10_digest 4 = .ok (.iconst 0, 1) := by decide +kernel
theorem dX10_digest_5 : decode cX10_digest 5 = .ok (.istore_n 3, 1) := by decide +kernel
theorem dX10_digest_6 : decode cX10_digest 6 = .ok (.iload_n 3, 1) := by decide +kernel
theorem dX10_digest_7 : decode cX10_digest 7 = .ok (.bipush 8, 2) := by decide +kernel
theorem dX10_digest_9 : decode cX10_digest 9 = .ok (.if_icmp .ge 22, 3) := by decide +kernel
theorem dX10_digest_12 : decode cX10_digest 12 = .ok (.ldc2_w 410, 3) := by decide +kernel
theorem dX10_digest_15 : decode cX10_digest 15 = .ok (.lload_n 1, 1) := by decide +kernel
theorem dX10_digest_16 : decode cX10_digest 16 = .ok (.lmul, 1) := by decide +kernel
theorem dX10_digest_17 : decode cX10_digest 17 = .ok (.aload_n 0, 1) := by decide +kernel
theorem dX10_digest_18 : decode cX10_digest 18 = .ok (.iload_n 3, 1) := by decide +kernel
theorem dX10_digest_19 : decode cX10_digest 19 = .ok (.invokevirtual 414, 3) := by decide +kernel
theorem dX10_digest_22 : decode cX10_digest 22 = .ok (.i2l, 1) := by decide +kernel
theorem dX10_digest_23 : decode cX10_digest 23 = .ok (.ladd, 1) := by decide +kernel
theorem dX10_digest_24 : decode cX10_digest 24 = .ok (.lstore_n 1, 1) := by decide +kernel
theorem dX10_digest_25 : decode cX10_digest 25 = .ok (.iinc 3 1, 3) := by decide +kernel
theorem dX10_digest_28 : decode cX10_digest 28 = .ok (.goto (-22), 3) := by decide +kernel
theorem dX10_digest_31 : decode cX10_digest 31 = .ok (.iconst 0, 1) := by decide +kernel
theorem dX10_digest_32 : decode cX10_digest 32 = .ok (.istore_n 3, 1) := by decide +kernel
theorem dX10_digest_33 : decode cX10_digest 33 = .ok (.iload_n 3, 1) := by decide +kernel
theorem dX10_digest_34 : decode cX10_digest 34 = .ok (.bipush 6, 2) := by decide +kernel
theorem dX10_digest_36 : decode cX10_digest 36 = .ok (.if_icmp .ge 22, 3) := by decide +kernel
theorem dX10_digest_39 : decode cX10_digest 39 = .ok (.ldc2_w 410, 3) := by decide +kernel
theorem dX10_digest_42 : decode cX10_digest 42 = .ok (.lload_n 1, 1) := by decide +kernel
theorem dX10_digest_43 : decode cX10_digest 43 = .ok (.lmul, 1) := by decide +kernel
theorem dX10_digest_44 : decode cX10_digest 44 = .ok (.aload_n 0, 1) := by decide +kernel
theorem dX10_digest_45 : decode cX10_digest 45 = .ok (.iload_n 3, 1) := by decide +kernel
theorem dX10_digest_46 : decode cX10_digest 46 = .ok (.invokevirtual 350, 3) := by decide +kernel
theorem dX10_digest_49 : decode cX10_digest 49 = .ok (.i2l, 1) := by decide +kernel
theorem dX10_digest_50 : decode cX10_digest 50 = .ok (.ladd, 1) := by decide +kernel
theorem dX10_digest_51 : decode cX10_digest 51 = .ok (.lstore_n 1, 1) := by decide +kernel
theorem dX10_digest_52 : decode cX10_digest 52 = .ok (.iinc 3 1, 3) := by decide +kernel
theorem dX10_digest_55 : decode cX10_digest 55 = .ok (.goto (-22), 3) := by decide +kernel
theorem dX10_digest_58 : decode cX10_digest 58 = .ok (.iconst 0, 1) := by decide +kernel
theorem dX10_digest_59 : decode cX10_digest 59 = .ok (.istore_n 3, 1) := by decide +kernel
theorem dX10_digest_60 : decode cX10_digest 60 = .ok (.iload_n 3, 1) := by decide +kernel
theorem dX10_digest_61 : decode cX10_digest 61 = .ok (.bipush 16, 2) := by decide +kernel
theorem dX10_digest_63 : decode cX10_digest 63 = .ok (.if_icmp .ge 25, 3) := by decide +kernel
theorem dX10_digest_66 : decode cX10_digest 66 = .ok (.aload_n 0, 1) := by decide +kernel
theorem dX10_digest_67 : decode cX10_digest 67 = .ok (.getfield 76, 3) := by decide +kernel
theorem dX10_digest_70 : decode cX10_digest 70 = .ok (.iload_n 3, 1) := by decide +kernel
theorem dX10_digest_71 : decode cX10_digest 71 = .ok (.aload_n 0, 1) := by decide +kernel
theorem dX10_digest_72 : decode cX10_digest 72 = .ok (.iload_n 3, 1) := by decide +kernel
theorem dX10_digest_73 : decode cX10_digest 73 = .ok (.iconst 2, 1) := by decide +kernel
theorem dX10_digest_74 : decode cX10_digest 74 = .ok (.idiv, 1) := by decide +kernel
theorem dX10_digest_75 : decode cX10_digest 75 = .ok (.iload_n 3, 1) := by decide +kernel
theorem dX10_digest_76 : decode cX10_digest 76 = .ok (.iconst 2, 1) := by decide +kernel
theorem dX10_digest_77 : decode cX10_digest 77 = .ok (.irem, 1) := by decide +kernel
theorem dX10_digest_78 : decode cX10_digest 78 = .ok (.invokevirtual 347, 3) := by decide +kernel
theorem dX10_digest_81 : decode cX10_digest 81 = .ok (.iastore, 1) := by decide +kernel
theorem dX10_digest_82 : decode cX10_digest 82 = .ok (.iinc 3 1, 3) := by decide +kernel
theorem dX10_digest_85 : decode cX10_digest 85 = .ok (.goto (-25), 3) := by decide +kernel
theorem dX10_digest_88 : decode cX10_digest 88 = .ok (.aload_n 0, 1) := by decide +kernel
theorem dX10_digest_89 : decode cX10_digest 89 = .ok (.iconst 0, 1) := by decide +kernel
theorem dX10_digest_90 : decode cX10_digest 90 = .ok (.invokevirtual 344, 3) := by decide +kernel
theorem dX10_digest_93 : decode cX10_digest 93 = .ok (.iconst 0, 1) := by decide +kernel
theorem dX10_digest_94 : decode cX10_digest 94 = .ok (.istore_n 3, 1) := by decide +kernel
theorem dX10_digest_95 : decode cX10_digest 95 = .ok (.iload_n 3, 1) := by decide +kernel
theorem dX10_digest_96 : decode cX10_digest 96 = .ok (.bipush 8, 2) := by decide +kernel
theorem dX10_digest_98 : decode cX10_digest 98 = .ok (.if_icmp .ge 71, 3) := by decide +kernel
theorem dX10_digest_101 : decode cX10_digest 101 = .ok (.ldc2_w 410, 3) := by decide +kernel
theorem dX10_digest_104 : decode cX10_digest 104 = .ok (.lload_n 1, 1) := by decide +kernel
theorem dX10_digest_105 : decode cX10_digest 105 = .ok (.lmul, 1) := by decide +kernel
theorem dX10_digest_106 : decode cX10_digest 106 = .ok (.aload_n 0, 1) := by decide +kernel
theorem dX10_digest_107 : decode cX10_digest 107 = .ok (.getfield 76, 3) := by decide +kernel
theorem dX10_digest_110 : decode cX10_digest 110 = .ok (.iconst 2, 1) := by decide +kernel
theorem dX10_digest_111 : decode cX10_digest 111 = .ok (.iload_n 3, 1) := by decide +kernel
theorem dX10_digest_112 : decode cX10_digest 112 = .ok (.imul, 1) := by decide +kernel
theorem dX10_digest_113 : decode cX10_digest 113 = .ok (.iaload, 1) := by decide +kernel
theorem dX10_digest_114 : decode cX10_digest 114 = .ok (.i2l, 1) := by decide +kernel
theorem dX10_digest_115 : decode cX10_digest 115 = .ok (.ladd, 1) := by decide +kernel
theorem dX10_digest_116 : decode cX10_digest 116 = .ok (.lstore_n 1, 1) := by decide +kernel
theorem dX10_digest_117 : decode cX10_digest 117 = .ok (.ldc2_w 410, 3) := by decide +kernel
theorem dX10_digest_120 : decode cX10_digest 120 = .ok (.lload_n 1, 1) := by decide +kernel
theorem dX10_digest_121 : decode cX10_digest 121 = .ok (.lmul, 1) := by decide +kernel
theorem dX10_digest_122 : decode cX10_digest 122 = .ok (.aload_n 0, 1) := by decide +kernel
theorem dX10_digest_123 : decode cX10_digest 123 = .ok (.getfield 76, 3) := by decide +kernel
theorem dX10_digest_126 : decode cX10_digest 126 = .ok (.iconst 2, 1) := by decide +kernel
theorem dX10_digest_127 : decode cX10_digest 127 = .ok (.iload_n 3, 1) := by decide +kernel
theorem dX10_digest_128 : decode cX10_digest 128 = .ok (.imul, 1) := by decide +kernel
theorem dX10_digest_129 : decode cX10_digest 129 = .ok (.iconst 1, 1) := by decide +kernel
theorem dX10_digest_130 : decode cX10_digest 130 = .ok (.iadd, 1) := by decide +kernel
theorem dX10_digest_131 : decode cX10_digest 131 = .ok (.iaload, 1) := by decide +kernel
theorem dX10_digest_132 : decode cX10_digest 132 = .ok (.i2l, 1) := by decide +kernel
theorem dX10_digest_133 : decode cX10_digest 133 = .ok (.ladd, 1) := by decide +kernel
theorem dX10_digest_134 : decode cX10_digest 134 = .ok (.lstore_n 1, 1) := by decide +kernel
theorem dX10_digest_135 : decode cX10_digest 135 = .ok (.ldc2_w 410, 3) := by decide +kernel
theorem dX10_digest_138 : decode cX10_digest 138 = .ok (.lload_n 1, 1) := by decide +kernel
theorem dX10_digest_139 : decode cX10_digest 139 = .ok (.lmul, 1) := by decide +kernel
theorem dX10_digest_140 : decode cX10_digest 140 = .ok (.aload_n 0, 1) := by decide +kernel
theorem dX10_digest_141 : decode cX10_digest 141 = .ok (.iload_n 3, 1) := by decide +kernel
theorem dX10_digest_142 : decode cX10_digest 142 = .ok (.iconst 0, 1) := by decide +kernel
theorem dX10_digest_143 : decode cX10_digest 143 = .ok (.invokevirtual 347, 3) := by decide +kernel
theorem dX10_digest_146 : decode cX10_digest 146 = .ok (.i2l, 1) := by decide +kernel
theorem dX10_digest_147 : decode cX10_digest 147 = .ok (.ladd, 1) := by decide +kernel
theorem dX10_digest_148 : decode cX10_digest 148 = .ok (.lstore_n 1, 1) := by decide +kernel
theorem dX10_digest_149 : decode cX10_digest 149 = .ok (.ldc2_w 410, 3) := by decide +kernel
theorem dX10_digest_152 : decode cX10_digest 152 = .ok (.lload_n 1, 1) := by decide +kernel
theorem dX10_digest_153 : decode cX10_digest 153 = .ok (.lmul, 1) := by decide +kernel
theorem dX10_digest_154 : decode cX10_digest 154 = .ok (.aload_n 0, 1) := by decide +kernel
theorem dX10_digest_155 : decode cX10_digest 155 = .ok (.iload_n 3, 1) := by decide +kernel
theorem dX10_digest_156 : decode cX10_digest 156 = .ok (.iconst 1, 1) := by decide +kernel
theorem dX10_digest_157 : decode cX10_digest 157 = .ok (.invokevirtual 347, 3) := by decide +kernel
theorem dX10_digest_160 : decode cX10_digest 160 = .ok (.i2l, 1) := by decide +kernel
theorem dX10_digest_161 : decode cX10_digest 161 = .ok (.ladd, 1) := by decide +kernel
theorem dX10_digest_162 : decode cX10_digest 162 = .ok (.lstore_n 1, 1) := by decide +kernel
theorem dX10_digest_163 : decode cX10_digest 163 = .ok (.iinc 3 1, 3) := by decide +kernel
theorem dX10_digest_166 : decode cX10_digest 166 = .ok (.goto (-71), 3) := by decide +kernel
theorem dX10_digest_169 : decode cX10_digest 169 = .ok (.aload_n 0, 1) := by decide +kernel
theorem dX10_digest_170 : decode cX10_digest 170 = .ok (.aload_n 0, 1) := by decide +kernel
theorem dX10_digest_171 : decode cX10_digest 171 = .ok (.getfield 83, 3) := by decide +kernel
theorem dX10_digest_174 : decode cX10_digest 174 = .ok (.invokevirtual 344, 3) := by decide +kernel
theorem dX10_digest_177 : decode cX10_digest 177 = .ok (.iconst 0, 1) := by decide +kernel
theorem dX10_digest_178 : decode cX10_digest 178 = .ok (.istore_n 3, 1) := by decide +kernel
theorem dX10_digest_179 : decode cX10_digest 179 = .ok (.iload_n 3, 1) := by decide +kernel
theorem dX10_digest_180 : decode cX10_digest 180 = .ok (.bipush 24, 2) := by decide +kernel
theorem dX10_digest_182 : decode cX10_digest 182 = .ok (.if_icmp .ge 69, 3) := by decide +kernel
theorem dX10_digest_185 : decode cX10_digest 185 = .ok (.iconst 0, 1) := by decide +kernel
theorem dX10_digest_186 : decode cX10_digest 186 = .ok (.istore 4, 2) := by decide +kernel
theorem dX10_digest_188 : decode cX10_digest 188 = .ok (.iload 4, 2) := by decide +kernel
theorem dX10_digest_190 : decode cX10_digest 190 = .ok (.iconst 4, 1) := by decide +kernel
theorem dX10_digest_191 : decode cX10_digest 191 = .ok (.if_icmp .ge 24, 3) := by decide +kernel
theorem dX10_digest_194 : decode cX10_digest 194 = .ok (.ldc2_w 410, 3) := by decide +kernel
theorem dX10_digest_197 : decode cX10_digest 197 = .ok (.lload_n 1, 1) := by decide +kernel
theorem dX10_digest_198 : decode cX10_digest 198 = .ok (.lmul, 1) := by decide +kernel
theorem dX10_digest_199 : decode cX10_digest 199 = .ok (.aload_n 0, 1) := by decide +kernel
theorem dX10_digest_200 : decode cX10_digest 200 = .ok (.iload_n 3, 1) := by decide +kernel
theorem dX10_digest_201 : decode cX10_digest 201 = .ok (.iload 4, 2) := by decide +kernel
theorem dX10_digest_203 : decode cX10_digest 203 = .ok (.invokevirtual 417, 3) := by decide +kernel
theorem dX10_digest_206 : decode cX10_digest 206 = .ok (.i2l, 1) := by decide +kernel
theorem dX10_digest_207 : decode cX10_digest 207 = .ok (.ladd, 1) := by decide +kernel
theorem dX10_digest_208 : decode cX10_digest 208 = .ok (.lstore_n 1, 1) := by decide +kernel
theorem dX10_digest_209 : decode cX10_digest 209 = .ok (.iinc 4 1, 3) := by decide +kernel
theorem dX10_digest_212 : decode cX10_digest 212 = .ok (.goto (-24), 3) := by decide +kernel
theorem dX10_digest_215 : decode cX10_digest 215 = .ok (.iconst 0, 1) := by decide +kernel
theorem dX10_digest_216 : decode cX10_digest 216 = .ok (.istore 4, 2) := by decide +kernel
theorem dX10_digest_218 : decode cX10_digest 218 = .ok (.iload 4, 2) := by decide +kernel
theorem dX10_digest_220 : decode cX10_digest 220 = .ok (.iconst 3, 1) := by decide +kernel
theorem dX10_digest_221 : decode cX10_digest 221 = .ok (.if_icmp .ge 24, 3) := by decide +kernel
theorem dX10_digest_224 : decode cX10_digest 224 = .ok (.ldc2_w 410, 3) := by decide +kernel
theorem dX10_digest_227 : decode cX10_digest 227 = .ok (.lload_n 1, 1) := by decide +kernel
theorem dX10_digest_228 : decode cX10_digest 228 = .ok (.lmul, 1) := by decide +kernel
theorem dX10_digest_229 : decode cX10_digest 229 = .ok (.aload_n 0, 1) := by decide +kernel
theorem dX10_digest_230 : decode cX10_digest 230 = .ok (.iload_n 3, 1) := by decide +kernel
theorem dX10_digest_231 : decode cX10_digest 231 = .ok (.iload 4, 2) := by decide +kernel
theorem dX10_digest_233 : decode cX10_digest 233 = .ok (.invokevirtual 353, 3) := by decide +kernel
theorem dX10_digest_236 : decode cX10_digest 236 = .ok (.i2l, 1) := by decide +kernel
theorem dX10_digest_237 : decode cX10_digest 237 = .ok (.ladd, 1) := by decide +kernel
theorem dX10_digest_238 : decode cX10_digest 238 = .ok (.lstore_n 1, 1) := by decide +kernel
theorem dX10_digest_239 : decode cX10_digest 239 = .ok (.iinc 4 1, 3) := by decide +kernel
theorem dX10_digest_242 : decode cX10_digest 242 = .ok (.goto (-24), 3) := by decide +kernel
theorem dX10_digest_245 : decode cX10_digest 245 = .ok (.iinc 3 1, 3) := by decide +kernel
theorem dX10_digest_248 : decode cX10_digest 248 = .ok (.goto (-69), 3) := by decide +kernel
theorem dX10_digest_251 : decode cX10_digest 251 = .ok (.iconst 0, 1) := by decide +kernel
theorem dX10_digest_252 : decode cX10_digest 252 = .ok (.istore_n 3, 1) := by decide +kernel
theorem dX10_digest_253 : decode cX10_digest 253 = .ok (.iload_n 3, 1) := by decide +kernel
theorem dX10_digest_254 : decode cX10_digest 254 = .ok (.bipush 8, 2) := by decide +kernel
theorem dX10_digest_256 : decode cX10_digest 256 = .ok (.if_icmp .ge 16, 3) := by decide +kernel
theorem dX10_digest_259 : decode cX10_digest 259 = .ok (.aload_n 0, 1) := by decide +kernel
theorem dX10_digest_260 : decode cX10_digest 260 = .ok (.lload_n 1, 1) := by decide +kernel
theorem dX10_digest_261 : decode cX10_digest 261 = .ok (.iload_n 3, 1) := by decide +kernel
theorem dX10_digest_262 : decode cX10_digest 262 = .ok (.invokevirtual 419, 3) := by decide +kernel
theorem dX10_digest_265 : decode cX10_digest 265 = .ok (.lstore_n 1, 1) := by decide +kernel
theorem dX10_digest_266 : decode cX10_digest 266 = .ok (.iinc 3 1, 3) := by decide +kernel
theorem dX10_digest_269 : decode cX10_digest 269 = .ok (.goto (-16), 3) := by decide +kernel
theorem dX10_digest_272 : decode cX10_digest 272 = .ok (.ldc2_w 410, 3) := by decide +kernel
theorem dX10_digest_275 : decode cX10_digest 275 = .ok (.lload_n 1, 1) := by decide +kernel
theorem dX10_digest_276 : decode cX10_digest 276 = .ok (.lmul, 1) := by decide +kernel
theorem dX10_digest_277 : decode cX10_digest 277 = .ok (.aload_n 0, 1) := by decide +kernel
theorem dX10_digest_278 : decode cX10_digest 278 = .ok (.iconst 0, 1) := by decide +kernel
theorem dX10_digest_279 : decode cX10_digest 279 = .ok (.invokevirtual 400, 3) := by decide +kernel
theorem dX10_digest_282 : decode cX10_digest 282 = .ok (.i2l, 1) := by decide +kernel
theorem dX10_digest_283 : decode cX10_digest 283 = .ok (.ladd, 1) := by decide +kernel
theorem dX10_digest_284 : decode cX10_digest 284 = .ok (.lstore_n 1, 1) := by decide +kernel
theorem dX10_digest_285 : decode cX10_digest 285 = .ok (.ldc2_w 410, 3) := by decide +kernel
theorem dX10_digest_288 : decode cX10_digest 288 = .ok (.lload_n 1, 1) := by decide +kernel
theorem dX10_digest_289 : decode cX10_digest 289 = .ok (.lmul, 1) := by decide +kernel
theorem dX10_digest_290 : decode cX10_digest 290 = .ok (.aload_n 0, 1) := by decide +kernel
theorem dX10_digest_291 : decode cX10_digest 291 = .ok (.iconst 1, 1) := by decide +kernel
theorem dX10_digest_292 : decode cX10_digest 292 = .ok (.invokevirtual 400, 3) := by decide +kernel
theorem dX10_digest_295 : decode cX10_digest 295 = .ok (.i2l, 1) := by decide +kernel
theorem dX10_digest_296 : decode cX10_digest 296 = .ok (.ladd, 1) := by decide +kernel
theorem dX10_digest_297 : decode cX10_digest 297 = .ok (.lreturn, 1) := by decide +kernel
