theorem dX0_init_0 : decode cX0_init 0 = .ok (.aload_n 0, 1) := by decide +kernel
theorem dX0_init_1 : decode cX0_init 1 = .ok (.invokespecial 3, 3) := by decide +kernel
theorem dX0_init_4 : decode cX0_init 4 = .ok (.return_, 1) := by decide +kernel
theorem dX0_foresee_0 : decode cX0_foresee 0 = .ok (.aload_n 1, 1) := by decide +kernel
theorem dX0_foresee_1 : decode cX0_foresee 1 = .ok (.iload_n 2, 1) := by decide +kernel
theorem dX0_foresee_2 : decode cX0_foresee 2 = .ok (.invokevirtual 9, 3) := by decide +kernel
theorem dX0_foresee_5 : decode cX0_foresee 5 = .ok (.istore 4, 2) := by decide +kernel
theorem dX0_foresee_7 : decode cX0_foresee 7 = .ok (.aload_n 1, 1) := by decide +kernel
theorem dX0_foresee_8 : decode cX0_foresee 8 = .ok (.iload_n 2, 1) := by decide +kernel
theorem dX0_foresee_9 : decode cX0_foresee 9 = .ok (.invokevirtual 15, 3) := by decide +kernel
theorem dX0_foresee_12 : decode cX0_foresee 12 = .ok (.istore 5, 2) := by decide +kernel
theorem dX0_foresee_14 : decode cX0_foresee 14 = .ok (.aload_n 1, 1) := by decide +kernel
theorem dX0_foresee_15 : decode cX0_foresee 15 = .ok (.getfield 18, 3) := by decide +kernel
theorem dX0_foresee_18 : decode cX0_foresee 18 = .ok (.iload_n 2, 1) := by decide +kernel
theorem dX0_foresee_19 : decode cX0_foresee 19 = .ok (.iaload, 1) := by decide +kernel
theorem dX0_foresee_20 : decode cX0_foresee 20 = .ok (.istore 6, 2) := by decide +kernel
theorem dX0_foresee_22 : decode cX0_foresee 22 = .ok (.aload_n 0, 1) := by decide +kernel
theorem dX0_foresee_23 : decode cX0_foresee 23 = .ok (.aload_n 3, 1) := by decide +kernel
theorem dX0_foresee_24 : decode cX0_foresee 24 = .ok (.getfield 22, 3) := by decide +kernel
theorem dX0_foresee_27 : decode cX0_foresee 27 = .ok (.iload 4, 2) := by decide +kernel
theorem dX0_foresee_29 : decode cX0_foresee 29 = .ok (.iaload, 1) := by decide +kernel
theorem dX0_foresee_30 : decode cX0_foresee 30 = .ok (.putfield 25, 3) := by decide +kernel
theorem dX0_foresee_33 : decode cX0_foresee 33 = .ok (.aload_n 0, 1) := by decide +kernel
theorem dX0_foresee_34 : decode cX0_foresee 34 = .ok (.aload_n 3, 1) := by decide +kernel
theorem dX0_foresee_35 : decode cX0_foresee 35 = .ok (.getfield 22, 3) := by decide +kernel
theorem dX0_foresee_38 : decode cX0_foresee 38 = .ok (.iload 5, 2) := by decide +kernel
theorem dX0_foresee_40 : decode cX0_foresee 40 = .ok (.iaload, 1) := by decide +kernel
theorem dX0_foresee_41 : decode cX0_foresee 41 = .ok (.putfield 31, 3) := by decide +kernel
theorem dX0_foresee_44 : decode cX0_foresee 44 = .ok (.aload_n 0, 1) := by decide +kernel
theorem dX0_foresee_45 : decode cX0_foresee 45 = .ok (.iconst 0, 1) := by decide +kernel
theorem dX0_foresee_46 : decode cX0_foresee 46 = .ok (.putfield 34, 3) := by decide +kernel
theorem dX0_foresee_49 : decode cX0_foresee 49 = .ok (.aload_n 0, 1) := by decide +kernel
theorem dX0_foresee_50 : decode cX0_foresee 50 = .ok (.iconst 0, 1) := by decide +kernel
theorem dX0_foresee_51 : decode cX0_foresee 51 = .ok (.putfield 37, 3) := by decide +kernel
theorem dX0_foresee_54 : decode cX0_foresee 54 = .ok (.iload 6, 2) := by decide +kernel
theorem dX0_foresee_56 : decode cX0_foresee 56 = .ok (.ifCond .ne 17, 3) := by decide +kernel
theorem dX0_foresee_59 : decode cX0_foresee 59 = .ok (.aload_n 0, 1) := by decide +kernel
theorem dX0_foresee_60 : decode cX0_foresee 60 = .ok (.iconst 0, 1) := by decide +kernel
theorem dX0_foresee_61 : decode cX0_foresee 61 = .ok (.aload_n 1, 1) := by decide +kernel
theorem dX0_foresee_62 : decode cX0_foresee 62 = .ok (.getfield 41, 3) := by decide +kernel
theorem dX0_foresee_65 : decode cX0_foresee 65 = .ok (.iload_n 2, 1) := by decide +kernel
theorem dX0_foresee_66 : decode cX0_foresee 66 = .ok (.iaload, 1) := by decide +kernel
theorem dX0_foresee_67 : decode cX0_foresee 67 = .ok (.invokevirtual 44, 3) := by decide +kernel
theorem dX0_foresee_70 : decode cX0_foresee 70 = .ok (.goto 206, 3) := by decide +kernel
theorem dX0_foresee_73 : decode cX0_foresee 73 = .ok (.iload 6, 2) := by decide +kernel
theorem dX0_foresee_75 : decode cX0_foresee 75 = .ok (.iconst 1, 1) := by decide +kernel
theorem dX0_foresee_76 : decode cX0_foresee 76 = .ok (.if_icmp .ne 21, 3) := by decide +kernel
theorem dX0_foresee_79 : decode cX0_foresee 79 = .ok (.aload_n 0, 1) := by decide +kernel
theorem dX0_foresee_80 : decode cX0_foresee 80 = .ok (.aload_n 0, 1) := by decide +kernel
theorem dX0_foresee_81 : decode cX0_foresee 81 = .ok (.getfield 31, 3) := by decide +kernel
theorem dX0_foresee_84 : decode cX0_foresee 84 = .ok (.aload_n 3, 1) := by decide +kernel
theorem dX0_foresee_85 : decode cX0_foresee 85 = .ok (.getfield 48, 3) := by decide +kernel
theorem dX0_foresee_88 : decode cX0_foresee 88 = .ok (.iload 5, 2) := by decide +kernel
theorem dX0_foresee_90 : decode cX0_foresee 90 = .ok (.iaload, 1) := by decide +kernel
theorem dX0_foresee_91 : decode cX0_foresee 91 = .ok (.invokevirtual 44, 3) := by decide +kernel
theorem dX0_foresee_94 : decode cX0_foresee 94 = .ok (.goto 182, 3) := by decide +kernel
theorem dX0_foresee_97 : decode cX0_foresee 97 = .ok (.iload 6, 2) := by decide +kernel
theorem dX0_foresee_99 : decode cX0_foresee 99 = .ok (.iconst 2, 1) := by decide +kernel
theorem dX0_foresee_100 : decode cX0_foresee 100 = .ok (.if_icmp .eq 15, 3) := by decide +kernel
theorem dX0_foresee_103 : decode cX0_foresee 103 = .ok (.iload 6, 2) := by decide +kernel
theorem dX0_foresee_105 : decode cX0_foresee 105 = .ok (.iconst 3, 1) := by decide +kernel
theorem dX0_foresee_106 : decode cX0_foresee 106 = .ok (.if_icmp .eq 9, 3) := by decide +kernel
theorem dX0_foresee_109 : decode cX0_foresee 109 = .ok (.iload 6, 2) := by decide +kernel
theorem dX0_foresee_111 : decode cX0_foresee 111 = .ok (.iconst 4, 1) := by decide +kernel
theorem dX0_foresee_112 : decode cX0_foresee 112 = .ok (.if_icmp .ne 34, 3) := by decide +kernel
theorem dX0_foresee_115 : decode cX0_foresee 115 = .ok (.aload_n 0, 1) := by decide +kernel
theorem dX0_foresee_116 : decode cX0_foresee 116 = .ok (.iload 6, 2) := by decide +kernel
theorem dX0_foresee_118 : decode cX0_foresee 118 = .ok (.aload_n 3, 1) := by decide +kernel
theorem dX0_foresee_119 : decode cX0_foresee 119 = .ok (.getfield 48, 3) := by decide +kernel
theorem dX0_foresee_122 : decode cX0_foresee 122 = .ok (.iload 4, 2) := by decide +kernel
theorem dX0_foresee_124 : decode cX0_foresee 124 = .ok (.iaload, 1) := by decide +kernel
theorem dX0_foresee_125 : decode cX0_foresee 125 = .ok (.aload_n 3, 1) := by decide +kernel
theorem dX0_foresee_126 : decode cX0_foresee 126 = .ok (.getfield 48, 3) := by decide +kernel
theorem dX0_foresee_129 : decode cX0_foresee 129 = .ok (.iload 5, 2) := by decide +kernel
theorem dX0_foresee_131 : decode cX0_foresee 131 = .ok (.iaload, 1) := by decide +kernel
theorem dX0_foresee_132 : decode cX0_foresee 132 = .ok (.invokevirtual 51, 3) := by decide +kernel
theorem dX0_foresee_135 : decode cX0_foresee 135 = .ok (.aload_n 0, 1) := by decide +kernel
theorem dX0_foresee_136 : decode cX0_foresee 136 = .ok (.aload_n 0, 1) := by decide +kernel
theorem dX0_foresee_137 : decode cX0_foresee 137 = .ok (.getfield 55, 3) := by decide +kernel
theorem dX0_foresee_140 : decode cX0_foresee 140 = .ok (.putfield 34, 3) := by decide +kernel
theorem dX0_foresee_143 : decode cX0_foresee 143 = .ok (.goto 133, 3) := by decide +kernel
theorem dX0_foresee_146 : decode cX0_foresee 146 = .ok (.iload 6, 2) := by decide +kernel
theorem dX0_foresee_148 : decode cX0_foresee 148 = .ok (.iconst 5, 1) := by decide +kernel
theorem dX0_foresee_149 : decode cX0_foresee 149 = .ok (.if_icmp .ne 25, 3) := by decide +kernel
theorem dX0_foresee_152 : decode cX0_foresee 152 = .ok (.aload_n 0, 1) := by decide +kernel
theorem dX0_foresee_153 : decode cX0_foresee 153 = .ok (.aload_n 3, 1) := by decide +kernel
theorem dX0_foresee_154 : decode cX0_foresee 154 = .ok (.getfield 48, 3) := by decide +kernel
theorem dX0_foresee_157 : decode cX0_foresee 157 = .ok (.iload 5, 2) := by decide +kernel
theorem dX0_foresee_159 : decode cX0_foresee 159 = .ok (.iaload, 1) := by decide +kernel
theorem dX0_foresee_160 : decode cX0_foresee 160 = .ok (.invokevirtual 57, 3) := by decide +kernel
theorem dX0_foresee_163 : decode cX0_foresee 163 = .ok (.aload_n 0, 1) := by decide +kernel
theorem dX0_foresee_164 : decode cX0_foresee 164 = .ok (.aload_n 0, 1) := by decide +kernel
theorem dX0_foresee_165 : decode cX0_foresee 165 = .ok (.getfield 55, 3) := by decide +kernel
theorem dX0_foresee_168 : decode cX0_foresee 168 = .ok (.putfield 34, 3) := by decide +kernel
theorem dX0_foresee_171 : decode cX0_foresee 171 = .ok (.goto 105, 3) := by decide +kernel
theorem dX0_foresee_174 : decode cX0_foresee 174 = .ok (.iload 6, 2) := by decide +kernel
theorem dX0_foresee_176 : decode cX0_foresee 176 = .ok (.bipush 6, 2) := by decide +kernel
theorem dX0_foresee_178 : decode cX0_foresee 178 = .ok (.if_icmp .ne 44, 3) := by decide +kernel
theorem dX0_foresee_181 : decode cX0_foresee 181 = .ok (.aload_n 0, 1) := by decide +kernel
theorem dX0_foresee_182 : decode cX0_foresee 182 = .ok (.aload_n 0, 1) := by decide +kernel
theorem dX0_foresee_183 : decode cX0_foresee 183 = .ok (.aload_n 3, 1) := by decide +kernel
theorem dX0_foresee_184 : decode cX0_foresee 184 = .ok (.getfield 48, 3) := by decide +kernel
theorem dX0_foresee_187 : decode cX0_foresee 187 = .ok (.iload 4, 2) := by decide +kernel
theorem dX0_foresee_189 : decode cX0_foresee 189 = .ok (.iaload, 1) := by decide +kernel
theorem dX0_foresee_190 : decode cX0_foresee 190 = .ok (.aload_n 3, 1) := by decide +kernel
theorem dX0_foresee_191 : decode cX0_foresee 191 = .ok (.getfield 48, 3) := by decide +kernel
theorem dX0_foresee_194 : decode cX0_foresee 194 = .ok (.iload 5, 2) := by decide +kernel
theorem dX0_foresee_196 : decode cX0_foresee 196 = .ok (.iaload, 1) := by decide +kernel
theorem dX0_foresee_197 : decode cX0_foresee 197 = .ok (.invokevirtual 61, 3) := by decide +kernel
theorem dX0_foresee_200 : decode cX0_foresee 200 = .ok (.putfield 37, 3) := by decide +kernel
theorem dX0_foresee_203 : decode cX0_foresee 203 = .ok (.aload_n 0, 1) := by decide +kernel
theorem dX0_foresee_204 : decode cX0_foresee 204 = .ok (.aload_n 0, 1) := by decide +kernel
theorem dX0_foresee_205 : decode cX0_foresee 205 = .ok (.getfield 37, 3) := by decide +kernel
theorem dX0_foresee_208 : decode cX0_foresee 208 = .ok (.ifCond .eq 7, 3) := by decide +kernel
theorem dX0_foresee_211 : decode cX0_foresee 211 = .ok (.iconst 1, 1) := by decide +kernel
theorem dX0_foresee_212 : decode cX0_foresee 212 = .ok (.goto 4, 3) := by decide +kernel
theorem dX0_foresee_215 : decode cX0_foresee 215 = .ok (.iconst 0, 1) := by decide +kernel
theorem dX0_foresee_216 : decode cX0_foresee 216 = .ok (.putfield 34, 3) := by decide +kernel
theorem dX0_foresee_219 : decode cX0_foresee 219 = .ok (.goto 57, 3) := by decide +kernel
theorem dX0_foresee_222 : decode cX0_foresee 222 = .ok (.iload 6, 2) := by decide +kernel
theorem dX0_foresee_224 : decode cX0_foresee 224 = .ok (.bipush 7, 2) := by decide +kernel
theorem dX0_foresee_226 : decode cX0_foresee 226 = .ok (.if_icmp .ne 11, 3) := by decide +kernel
theorem dX0_foresee_229 : decode cX0_foresee 229 = .ok (.aload_n 0, 1) := by decide +kernel
theorem dX0_foresee_230 : decode cX0_foresee 230 = .ok (.iconst 1, 1) := by decide +kernel
theorem dX0_foresee_231 : decode cX0_foresee 231 = .ok (.putfield 37, 3) := by decide +kernel
theorem dX0_foresee_234 : decode cX0_foresee 234 = .ok (.goto 42, 3) := by decide +kernel
theorem dX0_foresee_237 : decode cX0_foresee 237 = .ok (.iload 6, 2) := by decide +kernel
theorem dX0_foresee_239 : decode cX0_foresee 239 = .ok (.bipush 8, 2) := by decide +kernel
theorem dX0_foresee_241 : decode cX0_foresee 241 = .ok (.if_icmp .ne 35, 3) := by decide +kernel
theorem dX0_foresee_244 : decode cX0_foresee 244 = .ok (.aload_n 0, 1) := by decide +kernel
theorem dX0_foresee_245 : decode cX0_foresee 245 = .ok (.aload_n 0, 1) := by decide +kernel
theorem dX0_foresee_246 : decode cX0_foresee 246 = .ok (.getfield 31, 3) := by decide +kernel
theorem dX0_foresee_249 : decode cX0_foresee 249 = .ok (.ifCond .ne 7, 3) := by decide +kernel
theorem dX0_foresee_252 : decode cX0_foresee 252 = .ok (.iconst 1, 1) := by decide +kernel
theorem dX0_foresee_253 : decode cX0_foresee 253 = .ok (.goto 4, 3) := by decide +kernel
theorem dX0_foresee_256 : decode cX0_foresee 256 = .ok (.iconst 0, 1) := by decide +kernel
theorem dX0_foresee_257 : decode cX0_foresee 257 = .ok (.putfield 37, 3) := by decide +kernel
theorem dX0_foresee_260 : decode cX0_foresee 260 = .ok (.aload_n 0, 1) := by decide +kernel
theorem dX0_foresee_261 : decode cX0_foresee 261 = .ok (.aload_n 0, 1) := by decide +kernel
theorem dX0_foresee_262 : decode cX0_foresee 262 = .ok (.getfield 37, 3) := by decide +kernel
theorem dX0_foresee_265 : decode cX0_foresee 265 = .ok (.ifCond .eq 7, 3) := by decide +kernel
theorem dX0_foresee_268 : decode cX0_foresee 268 = .ok (.iconst 1, 1) := by decide +kernel
theorem dX0_foresee_269 : decode cX0_foresee 269 = .ok (.goto 4, 3) := by decide +kernel
theorem dX0_foresee_272 : decode cX0_foresee 272 = .ok (.iconst 0, 1) := by decide +kernel
theorem dX0_foresee_273 : decode cX0_foresee 273 = .ok (.putfield 34, 3) := by decide +kernel
theorem dX0_foresee_276 : decode cX0_foresee 276 = .ok (.return_, 1) := by decide +kernel
theorem dX0_become_0 : decode cX0_become 0 = .ok (.aload_n 0, 1) := by decide +kernel
theorem dX0_become_1 : decode cX0_become 1 = .ok (.iload_n 1, 1) := by decide +kernel
theorem dX0_become_2 : decode cX0_become 2 = .ok (.putfield 55, 3) := by decide +kernel
theorem dX0_become_5 : decode cX0_become 5 = .ok (.aload_n 0, 1) := by decide +kernel
theorem dX0_become_6 : decode cX0_become 6 = .ok (.iload_n 2, 1) := by decide +kernel
theorem dX0_become_7 : decode cX0_become 7 = .ok (.putfield 65, 3) := by decide +kernel
theorem dX0_become_10 : decode cX0_become 10 = .ok (.return_, 1) := by decide +kernel
theorem dX0_combine_0 : decode cX0_combine 0 = .ok (.aload_n 0, 1) := by decide +kernel
theorem dX0_combine_1 : decode cX0_combine 1 = .ok (.getfield 25, 3) := by decide +kernel
theorem dX0_combine_4 : decode cX0_combine 4 = .ok (.ifCond .ne 99, 3) := by decide +kernel
theorem dX0_combine_7 : decode cX0_combine 7 = .ok (.aload_n 0, 1) := by decide +kernel
theorem dX0_combine_8 : decode cX0_combine 8 = .ok (.getfield 31, 3) := by decide +kernel
theorem dX0_combine_11 : decode cX0_combine 11 = .ok (.ifCond .ne 92, 3) := by decide +kernel
theorem dX0_combine_14 : decode cX0_combine 14 = .ok (.iload_n 2, 1) := by decide +kernel
theorem dX0_combine_15 : decode cX0_combine 15 = .ok (.i2l, 1) := by decide +kernel
theorem dX0_combine_16 : decode cX0_combine 16 = .ok (.lstore 4, 2) := by decide +kernel
theorem dX0_combine_18 : decode cX0_combine 18 = .ok (.iload_n 3, 1) := by decide +kernel
theorem dX0_combine_19 : decode cX0_combine 19 = .ok (.i2l, 1) := by decide +kernel
theorem dX0_combine_20 : decode cX0_combine 20 = .ok (.lstore 6, 2) := by decide +kernel
theorem dX0_combine_22 : decode cX0_combine 22 = .ok (.iload_n 1, 1) := by decide +kernel
theorem dX0_combine_23 : decode cX0_combine 23 = .ok (.iconst 2, 1) := by decide +kernel
theorem dX0_combine_24 : decode cX0_combine 24 = .ok (.if_icmp .ne 11, 3) := by decide +kernel
theorem dX0_combine_27 : decode cX0_combine 27 = .ok (.lload 4, 2) := by decide +kernel
theorem dX0_combine_29 : decode cX0_combine 29 = .ok (.lload 6, 2) := by decide +kernel
theorem dX0_combine_31 : decode cX0_combine 31 = .ok (.ladd, 1) := by decide +kernel
theorem dX0_combine_32 : decode cX0_combine 32 = .ok (.goto 21, 3) := by decide +kernel
theorem dX0_combine_35 : decode cX0_combine 35 = .ok (.iload_n 1, 1) := by decide +kernel
theorem dX0_combine_36 : decode cX0_combine 36 = .ok (.iconst 3, 1) := by decide +kernel
theorem dX0_combine_37 : decode cX0_combine 37 = .ok (.if_icmp .ne 11, 3) := by decide +kernel
theorem dX0_combine_40 : decode cX0_combine 40 = .ok (.lload 4, 2) := by decide +kernel
theorem dX0_combine_42 : decode cX0_combine 42 = .ok (.lload 6, 2) := by decide +kernel
theorem dX0_combine_44 : decode cX0_combine 44 = .ok (.lsub, 1) := by decide +kernel
theorem dX0_combine_45 : decode cX0_combine 45 = .ok (.goto 8, 3) := by decide +kernel
theorem dX0_combine_48 : decode cX0_combine 48 = .ok (.lload 4, 2) := by decide +kernel
theorem dX0_combine_50 : decode cX0_combine 50 = .ok (.lload 6, 2) := by decide +kernel
theorem dX0_combine_52 : decode cX0_combine 52 = .ok (.lmul, 1) := by decide +kernel
theorem dX0_combine_53 : decode cX0_combine 53 = .ok (.lstore 8, 2) := by decide +kernel
theorem dX0_combine_55 : decode cX0_combine 55 = .ok (.lload 8, 2) := by decide +kernel
theorem dX0_combine_57 : decode cX0_combine 57 = .ok (.lload 8, 2) := by decide +kernel
theorem dX0_combine_59 : decode cX0_combine 59 = .ok (.l2i, 1) := by decide +kernel
theorem dX0_combine_60 : decode cX0_combine 60 = .ok (.i2l, 1) := by decide +kernel
theorem dX0_combine_61 : decode cX0_combine 61 = .ok (.lcmp, 1) := by decide +kernel
theorem dX0_combine_62 : decode cX0_combine 62 = .ok (.ifCond .ne 7, 3) := by decide +kernel
theorem dX0_combine_65 : decode cX0_combine 65 = .ok (.iconst 1, 1) := by decide +kernel
theorem dX0_combine_66 : decode cX0_combine 66 = .ok (.goto 4, 3) := by decide +kernel
theorem dX0_combine_69 : decode cX0_combine 69 = .ok (.iconst 0, 1) := by decide +kernel
theorem dX0_combine_70 : decode cX0_combine 70 = .ok (.istore 10, 2) := by decide +kernel
theorem dX0_combine_72 : decode cX0_combine 72 = .ok (.aload_n 0, 1) := by decide +kernel
theorem dX0_combine_73 : decode cX0_combine 73 = .ok (.iload 10, 2) := by decide +kernel
theorem dX0_combine_75 : decode cX0_combine 75 = .ok (.ifCond .eq 7, 3) := by decide +kernel
theorem dX0_combine_78 : decode cX0_combine 78 = .ok (.iconst 0, 1) := by decide +kernel
theorem dX0_combine_79 : decode cX0_combine 79 = .ok (.goto 4, 3) := by decide +kernel
theorem dX0_combine_82 : decode cX0_combine 82 = .ok (.iconst 1, 1) := by decide +kernel
theorem dX0_combine_83 : decode cX0_combine 83 = .ok (.iload 10, 2) := by decide +kernel
theorem dX0_combine_85 : decode cX0_combine 85 = .ok (.ifCond .eq 9, 3) := by decide +kernel
theorem dX0_combine_88 : decode cX0_combine 88 = .ok (.lload 8, 2) := by decide +kernel
theorem dX0_combine_90 : decode cX0_combine 90 = .ok (.l2i, 1) := by decide +kernel
theorem dX0_combine_91 : decode cX0_combine 91 = .ok (.goto 8, 3) := by decide +kernel
theorem dX0_combine_94 : decode cX0_combine 94 = .ok (.lload 8, 2) := by decide +kernel
theorem dX0_combine_96 : decode cX0_combine 96 = .ok (.invokestatic 67, 3) := by decide +kernel
theorem dX0_combine_99 : decode cX0_combine 99 = .ok (.invokevirtual 44, 3) := by decide +kernel
theorem dX0_combine_102 : decode cX0_combine 102 = .ok (.return_, 1) := by decide +kernel
theorem dX0_combine_103 : decode cX0_combine 103 = .ok (.aload_n 0, 1) := by decide +kernel
theorem dX0_combine_104 : decode cX0_combine 104 = .ok (.getfield 25, 3) := by decide +kernel
theorem dX0_combine_107 : decode cX0_combine 107 = .ok (.iload_n 2, 1) := by decide +kernel
theorem dX0_combine_108 : decode cX0_combine 108 = .ok (.invokestatic 73, 3) := by decide +kernel
theorem dX0_combine_111 : decode cX0_combine 111 = .ok (.istore 4, 2) := by decide +kernel
theorem dX0_combine_113 : decode cX0_combine 113 = .ok (.aload_n 0, 1) := by decide +kernel
theorem dX0_combine_114 : decode cX0_combine 114 = .ok (.getfield 31, 3) := by decide +kernel
theorem dX0_combine_117 : decode cX0_combine 117 = .ok (.iload_n 3, 1) := by decide +kernel
theorem dX0_combine_118 : decode cX0_combine 118 = .ok (.invokestatic 73, 3) := by decide +kernel
theorem dX0_combine_121 : decode cX0_combine 121 = .ok (.istore 5, 2) := by decide +kernel
theorem dX0_combine_123 : decode cX0_combine 123 = .ok (.aload_n 0, 1) := by decide +kernel
theorem dX0_combine_124 : decode cX0_combine 124 = .ok (.iconst 1, 1) := by decide +kernel
theorem dX0_combine_125 : decode cX0_combine 125 = .ok (.iload_n 1, 1) := by decide +kernel
theorem dX0_combine_126 : decode cX0_combine 126 = .ok (.iconst 4, 1) := by decide +kernel
theorem dX0_combine_127 : decode cX0_combine 127 = .ok (.if_icmp .ne 13, 3) := by decide +kernel
theorem dX0_combine_130 : decode cX0_combine 130 = .ok (.iload 4, 2) := by decide +kernel
theorem dX0_combine_132 : decode cX0_combine 132 = .ok (.iload 5, 2) := by decide +kernel
theorem dX0_combine_134 : decode cX0_combine 134 = .ok (.invokestatic 77, 3) := by decide +kernel
theorem dX0_combine_137 : decode cX0_combine 137 = .ok (.goto 23, 3) := by decide +kernel
theorem dX0_combine_140 : decode cX0_combine 140 = .ok (.iload 4, 2) := by decide +kernel
theorem dX0_combine_142 : decode cX0_combine 142 = .ok (.iload_n 1, 1) := by decide +kernel
theorem dX0_combine_143 : decode cX0_combine 143 = .ok (.iconst 3, 1) := by decide +kernel
theorem dX0_combine_144 : decode cX0_combine 144 = .ok (.if_icmp .ne 11, 3) := by decide +kernel
theorem dX0_combine_147 : decode cX0_combine 147 = .ok (.iload 5, 2) := by decide +kernel
theorem dX0_combine_149 : decode cX0_combine 149 = .ok (.invokestatic 80, 3) := by decide +kernel
theorem dX0_combine_152 : decode cX0_combine 152 = .ok (.goto 5, 3) := by decide +kernel
theorem dX0_combine_155 : decode cX0_combine 155 = .ok (.iload 5, 2) := by decide +kernel
theorem dX0_combine_157 : decode cX0_combine 157 = .ok (.invokestatic 83, 3) := by decide +kernel
theorem dX0_combine_160 : decode cX0_combine 160 = .ok (.invokevirtual 44, 3) := by decide +kernel
theorem dX0_combine_163 : decode cX0_combine 163 = .ok (.return_, 1) := by decide +kernel
theorem dX0_halve_0 : decode cX0_halve 0 = .ok (.aload_n 0, 1) := by decide +kernel
theorem dX0_halve_1 : decode cX0_halve 1 = .ok (.getfield 31, 3) := by decide +kernel
theorem dX0_halve_4 : decode cX0_halve 4 = .ok (.ifCond .ne 20, 3) := by decide +kernel
theorem dX0_halve_7 : decode cX0_halve 7 = .ok (.iload_n 1, 1) := by decide +kernel
theorem dX0_halve_8 : decode cX0_halve 8 = .ok (.iconst 1, 1) := by decide +kernel
theorem dX0_halve_9 : decode cX0_halve 9 = .ok (.iand, 1) := by decide +kernel
theorem dX0_halve_10 : decode cX0_halve 10 = .ok (.ifCond .ne 14, 3) := by decide +kernel
theorem dX0_halve_13 : decode cX0_halve 13 = .ok (.aload_n 0, 1) := by decide +kernel
theorem dX0_halve_14 : decode cX0_halve 14 = .ok (.iconst 0, 1) := by decide +kernel
theorem dX0_halve_15 : decode cX0_halve 15 = .ok (.iload_n 1, 1) := by decide +kernel
theorem dX0_halve_16 : decode cX0_halve 16 = .ok (.iconst 2, 1) := by decide +kernel
theorem dX0_halve_17 : decode cX0_halve 17 = .ok (.idiv, 1) := by decide +kernel
theorem dX0_halve_18 : decode cX0_halve 18 = .ok (.invokevirtual 44, 3) := by decide +kernel
theorem dX0_halve_21 : decode cX0_halve 21 = .ok (.goto 21, 3) := by decide +kernel
theorem dX0_halve_24 : decode cX0_halve 24 = .ok (.aload_n 0, 1) := by decide +kernel
theorem dX0_halve_25 : decode cX0_halve 25 = .ok (.iconst 1, 1) := by decide +kernel
theorem dX0_halve_26 : decode cX0_halve 26 = .ok (.aload_n 0, 1) := by decide +kernel
theorem dX0_halve_27 : decode cX0_halve 27 = .ok (.getfield 31, 3) := by decide +kernel
theorem dX0_halve_30 : decode cX0_halve 30 = .ok (.iload_n 1, 1) := by decide +kernel
theorem dX0_halve_31 : decode cX0_halve 31 = .ok (.invokestatic 73, 3) := by decide +kernel
theorem dX0_halve_34 : decode cX0_halve 34 = .ok (.ldc 86, 2) := by decide +kernel
theorem dX0_halve_36 : decode cX0_halve 36 = .ok (.invokestatic 77, 3) := by decide +kernel
theorem dX0_halve_39 : decode cX0_halve 39 = .ok (.invokevirtual 44, 3) := by decide +kernel
theorem dX0_halve_42 : decode cX0_halve 42 = .ok (.return_, 1) := by decide +kernel
theorem dX0_isLess_0 : decode cX0_isLess 0 = .ok (.aload_n 0, 1) := by decide +kernel
theorem dX0_isLess_1 : decode cX0_isLess 1 = .ok (.getfield 25, 3) := by decide +kernel
theorem dX0_isLess_4 : decode cX0_isLess 4 = .ok (.ifCond .ne 21, 3) := by decide +kernel
theorem dX0_isLess_7 : decode cX0_isLess 7 = .ok (.aload_n 0, 1) := by decide +kernel
theorem dX0_isLess_8 : decode cX0_isLess 8 = .ok (.getfield 31, 3) := by decide +kernel
theorem dX0_isLess_11 : decode cX0_isLess 11 = .ok (.ifCond .ne 14, 3) := by decide +kernel
theorem dX0_isLess_14 : decode cX0_isLess 14 = .ok (.iload_n 1, 1) := by decide +kernel
theorem dX0_isLess_15 : decode cX0_isLess 15 = .ok (.iload_n 2, 1) := by decide +kernel
theorem dX0_isLess_16 : decode cX0_isLess 16 = .ok (.if_icmp .ge 7, 3) := by decide +kernel
theorem dX0_isLess_19 : decode cX0_isLess 19 = .ok (.iconst 1, 1) := by decide +kernel
theorem dX0_isLess_20 : decode cX0_isLess 20 = .ok (.goto 4, 3) := by decide +kernel
theorem dX0_isLess_23 : decode cX0_isLess 23 = .ok (.iconst 0, 1) := by decide +kernel
theorem dX0_isLess_24 : decode cX0_isLess 24 = .ok (.ireturn, 1) := by decide +kernel
theorem dX0_isLess_25 : decode cX0_isLess 25 = .ok (.aload_n 0, 1) := by decide +kernel
theorem dX0_isLess_26 : decode cX0_isLess 26 = .ok (.getfield 25, 3) := by decide +kernel
theorem dX0_isLess_29 : decode cX0_isLess 29 = .ok (.iload_n 1, 1) := by decide +kernel
theorem dX0_isLess_30 : decode cX0_isLess 30 = .ok (.invokestatic 73, 3) := by decide +kernel
theorem dX0_isLess_33 : decode cX0_isLess 33 = .ok (.aload_n 0, 1) := by decide +kernel
theorem dX0_isLess_34 : decode cX0_isLess 34 = .ok (.getfield 31, 3) := by decide +kernel
theorem dX0_isLess_37 : decode cX0_isLess 37 = .ok (.iload_n 2, 1) := by decide +kernel
theorem dX0_isLess_38 : decode cX0_isLess 38 = .ok (.invokestatic 73, 3) := by decide +kernel
theorem dX0_isLess_41 : decode cX0_isLess 41 = .ok (.invokestatic 87, 3) := by decide +kernel
theorem dX0_isLess_44 : decode cX0_isLess 44 = .ok (.ireturn, 1) := by decide +kernel
theorem dX1_ofWhole_0 : decode cX1_ofWhole 0 = .ok (.lload_n 0, 1) := by decide +kernel
theorem dX1_ofWhole_1 : decode cX1_ofWhole 1 = .ok (.lconst 0, 1) := by decide +kernel
theorem dX1_ofWhole_2 : decode cX1_ofWhole 2 = .ok (.lcmp, 1) := by decide +kernel
theorem dX1_ofWhole_3 : decode cX1_ofWhole 3 = .ok (.ifCond .ge 8, 3) := by decide +kernel
theorem dX1_ofWhole_6 : decode cX1_ofWhole 6 = .ok (.ldc 11, 2) := by decide +kernel
theorem dX1_ofWhole_8 : decode cX1_ofWhole 8 = .ok (.goto 4, 3) := by decide +kernel
theorem dX1_ofWhole_11 : decode cX1_ofWhole 11 = .ok (.iconst 0, 1) := by decide +kernel
theorem dX1_ofWhole_12 : decode cX1_ofWhole 12 = .ok (.lload_n 0, 1) := by decide +kernel
theorem dX1_ofWhole_13 : decode cX1_ofWhole 13 = .ok (.invokestatic 12, 3) := by decide +kernel
theorem dX1_ofWhole_16 : decode cX1_ofWhole 16 = .ok (.iconst 0, 1) := by decide +kernel
theorem dX1_ofWhole_17 : decode cX1_ofWhole 17 = .ok (.invokestatic 18, 3) := by decide +kernel
theorem dX1_ofWhole_20 : decode cX1_ofWhole 20 = .ok (.ireturn, 1) := by decide +kernel
theorem dX1_quarterOf_0 : decode cX1_quarterOf 0 = .ok (.lload_n 0, 1) := by decide +kernel
theorem dX1_quarterOf_1 : decode cX1_quarterOf 1 = .ok (.lconst 0, 1) := by decide +kernel
theorem dX1_quarterOf_2 : decode cX1_quarterOf 2 = .ok (.lcmp, 1) := by decide +kernel
theorem dX1_quarterOf_3 : decode cX1_quarterOf 3 = .ok (.ifCond .ge 8, 3) := by decide +kernel
theorem dX1_quarterOf_6 : decode cX1_quarterOf 6 = .ok (.ldc 11, 2) := by decide +kernel
theorem dX1_quarterOf_8 : decode cX1_quarterOf 8 = .ok (.goto 4, 3) := by decide +kernel
theorem dX1_quarterOf_11 : decode cX1_quarterOf 11 = .ok (.iconst 0, 1) := by decide +kernel
theorem dX1_quarterOf_12 : decode cX1_quarterOf 12 = .ok (.lload_n 0, 1) := by decide +kernel
theorem dX1_quarterOf_13 : decode cX1_quarterOf 13 = .ok (.invokestatic 12, 3) := by decide +kernel
theorem dX1_quarterOf_16 : decode cX1_quarterOf 16 = .ok (.bipush (-2), 2) := by decide +kernel
theorem dX1_quarterOf_18 : decode cX1_quarterOf 18 = .ok (.invokestatic 18, 3) := by decide +kernel
theorem dX1_quarterOf_21 : decode cX1_quarterOf 21 = .ok (.ireturn, 1) := by decide +kernel
theorem dX1_ofRegister_0 : decode cX1_ofRegister 0 = .ok (.iload_n 0, 1) := by decide +kernel
theorem dX1_ofRegister_1 : decode cX1_ofRegister 1 = .ok (.iconst 1, 1) := by decide +kernel
theorem dX1_ofRegister_2 : decode cX1_ofRegister 2 = .ok (.if_icmp .ne 7, 3) := by decide +kernel
theorem dX1_ofRegister_5 : decode cX1_ofRegister 5 = .ok (.iload_n 1, 1) := by decide +kernel
theorem dX1_ofRegister_6 : decode cX1_ofRegister 6 = .ok (.goto 16, 3) := by decide +kernel
theorem dX1_ofRegister_9 : decode cX1_ofRegister 9 = .ok (.iload_n 1, 1) := by decide +kernel
theorem dX1_ofRegister_10 : decode cX1_ofRegister 10 = .ok (.ldc 11, 2) := by decide +kernel
theorem dX1_ofRegister_12 : decode cX1_ofRegister 12 = .ok (.iand, 1) := by decide +kernel
theorem dX1_ofRegister_13 : decode cX1_ofRegister 13 = .ok (.iload_n 1, 1) := by decide +kernel
theorem dX1_ofRegister_14 : decode cX1_ofRegister 14 = .ok (.i2l, 1) := by decide +kernel
theorem dX1_ofRegister_15 : decode cX1_ofRegister 15 = .ok (.invokestatic 12, 3) := by decide +kernel
theorem dX1_ofRegister_18 : decode cX1_ofRegister 18 = .ok (.iconst 0, 1) := by decide +kernel
theorem dX1_ofRegister_19 : decode cX1_ofRegister 19 = .ok (.invokestatic 18, 3) := by decide +kernel
theorem dX1_ofRegister_22 : decode cX1_ofRegister 22 = .ok (.ireturn, 1) := by decide +kernel
theorem dX1_sum_0 : decode cX1_sum 0 = .ok (.iload_n 0, 1) := by decide +kernel
theorem dX1_sum_1 : decode cX1_sum 1 = .ok (.invokestatic 22, 3) := by decide +kernel
theorem dX1_sum_4 : decode cX1_sum 4 = .ok (.ifCond .ne 10, 3) := by decide +kernel
theorem dX1_sum_7 : decode cX1_sum 7 = .ok (.iload_n 1, 1) := by decide +kernel
theorem dX1_sum_8 : decode cX1_sum 8 = .ok (.invokestatic 22, 3) := by decide +kernel
theorem dX1_sum_11 : decode cX1_sum 11 = .ok (.ifCond .eq 6, 3) := by decide +kernel
theorem dX1_sum_14 : decode cX1_sum 14 = .ok (.ldc 26, 2) := by decide +kernel
theorem dX1_sum_16 : decode cX1_sum 16 = .ok (.ireturn, 1) := by decide +kernel
theorem dX1_sum_17 : decode cX1_sum 17 = .ok (.iload_n 0, 1) := by decide +kernel
theorem dX1_sum_18 : decode cX1_sum 18 = .ok (.invokestatic 27, 3) := by decide +kernel
theorem dX1_sum_21 : decode cX1_sum 21 = .ok (.ifCond .eq 22, 3) := by decide +kernel
theorem dX1_sum_24 : decode cX1_sum 24 = .ok (.iload_n 1, 1) := by decide +kernel
theorem dX1_sum_25 : decode cX1_sum 25 = .ok (.invokestatic 27, 3) := by decide +kernel
theorem dX1_sum_28 : decode cX1_sum 28 = .ok (.ifCond .eq 13, 3) := by decide +kernel
theorem dX1_sum_31 : decode cX1_sum 31 = .ok (.iload_n 0, 1) := by decide +kernel
theorem dX1_sum_32 : decode cX1_sum 32 = .ok (.iload_n 1, 1) := by decide +kernel
theorem dX1_sum_33 : decode cX1_sum 33 = .ok (.if_icmp .eq 8, 3) := by decide +kernel
theorem dX1_sum_36 : decode cX1_sum 36 = .ok (.ldc 26, 2) := by decide +kernel
theorem dX1_sum_38 : decode cX1_sum 38 = .ok (.goto 4, 3) := by decide +kernel
theorem dX1_sum_41 : decode cX1_sum 41 = .ok (.iload_n 0, 1) := by decide +kernel
theorem dX1_sum_42 : decode cX1_sum 42 = .ok (.ireturn, 1) := by decide +kernel
theorem dX1_sum_43 : decode cX1_sum 43 = .ok (.iload_n 1, 1) := by decide +kernel
theorem dX1_sum_44 : decode cX1_sum 44 = .ok (.invokestatic 27, 3) := by decide +kernel
theorem dX1_sum_47 : decode cX1_sum 47 = .ok (.ifCond .eq 5, 3) := by decide +kernel
theorem dX1_sum_50 : decode cX1_sum 50 = .ok (.iload_n 1, 1) := by decide +kernel
theorem dX1_sum_51 : decode cX1_sum 51 = .ok (.ireturn, 1) := by decide +kernel
theorem dX1_sum_52 : decode cX1_sum 52 = .ok (.iload_n 0, 1) := by decide +kernel
theorem dX1_sum_53 : decode cX1_sum 53 = .ok (.invokestatic 30, 3) := by decide +kernel
theorem dX1_sum_56 : decode cX1_sum 56 = .ok (.iload_n 1, 1) := by decide +kernel
theorem dX1_sum_57 : decode cX1_sum 57 = .ok (.invokestatic 30, 3) := by decide +kernel
theorem dX1_sum_60 : decode cX1_sum 60 = .ok (.if_icmp .lt 7, 3) := by decide +kernel
theorem dX1_sum_63 : decode cX1_sum 63 = .ok (.iconst 1, 1) := by decide +kernel
theorem dX1_sum_64 : decode cX1_sum 64 = .ok (.goto 4, 3) := by decide +kernel
theorem dX1_sum_67 : decode cX1_sum 67 = .ok (.iconst 0, 1) := by decide +kernel
theorem dX1_sum_68 : decode cX1_sum 68 = .ok (.istore_n 2, 1) := by decide +kernel
theorem dX1_sum_69 : decode cX1_sum 69 = .ok (.iload_n 2, 1) := by decide +kernel
theorem dX1_sum_70 : decode cX1_sum 70 = .ok (.ifCond .eq 7, 3) := by decide +kernel
theorem dX1_sum_73 : decode cX1_sum 73 = .ok (.iload_n 0, 1) := by decide +kernel
theorem dX1_sum_74 : decode cX1_sum 74 = .ok (.goto 4, 3) := by decide +kernel
theorem dX1_sum_77 : decode cX1_sum 77 = .ok (.iload_n 1, 1) := by decide +kernel
theorem dX1_sum_78 : decode cX1_sum 78 = .ok (.istore_n 3, 1) := by decide +kernel
theorem dX1_sum_79 : decode cX1_sum 79 = .ok (.iload_n 2, 1) := by decide +kernel
theorem dX1_sum_80 : decode cX1_sum 80 = .ok (.ifCond .eq 7, 3) := by decide +kernel
theorem dX1_sum_83 : decode cX1_sum 83 = .ok (.iload_n 1, 1) := by decide +kernel
theorem dX1_sum_84 : decode cX1_sum 84 = .ok (.goto 4, 3) := by decide +kernel
theorem dX1_sum_87 : decode cX1_sum 87 = .ok (.iload_n 0, 1) := by decide +kernel
theorem dX1_sum_88 : decode cX1_sum 88 = .ok (.istore 4, 2) := by decide +kernel
theorem dX1_sum_90 : decode cX1_sum 90 = .ok (.iload_n 3, 1) := by decide +kernel
theorem dX1_sum_91 : decode cX1_sum 91 = .ok (.invokestatic 30, 3) := by decide +kernel
theorem dX1_sum_94 : decode cX1_sum 94 = .ok (.iload 4, 2) := by decide +kernel
theorem dX1_sum_96 : decode cX1_sum 96 = .ok (.invokestatic 30, 3) := by decide +kernel
theorem dX1_sum_99 : decode cX1_sum 99 = .ok (.isub, 1) := by decide +kernel
theorem dX1_sum_100 : decode cX1_sum 100 = .ok (.istore 5, 2) := by decide +kernel
theorem dX1_sum_102 : decode cX1_sum 102 = .ok (.iload 5, 2) := by decide +kernel
theorem dX1_sum_104 : decode cX1_sum 104 = .ok (.bipush 38, 2) := by decide +kernel
theorem dX1_sum_106 : decode cX1_sum 106 = .ok (.invokestatic 34, 3) := by decide +kernel
theorem dX1_sum_109 : decode cX1_sum 109 = .ok (.istore 6, 2) := by decide +kernel
theorem dX1_sum_111 : decode cX1_sum 111 = .ok (.iload 5, 2) := by decide +kernel
theorem dX1_sum_113 : decode cX1_sum 113 = .ok (.bipush 38, 2) := by decide +kernel
theorem dX1_sum_115 : decode cX1_sum 115 = .ok (.if_icmp .le 15, 3) := by decide +kernel
theorem dX1_sum_118 : decode cX1_sum 118 = .ok (.iload 4, 2) := by decide +kernel
theorem dX1_sum_120 : decode cX1_sum 120 = .ok (.invokestatic 38, 3) := by decide +kernel
theorem dX1_sum_123 : decode cX1_sum 123 = .ok (.invokestatic 42, 3) := by decide +kernel
theorem dX1_sum_126 : decode cX1_sum 126 = .ok (.i2l, 1) := by decide +kernel
theorem dX1_sum_127 : decode cX1_sum 127 = .ok (.goto 8, 3) := by decide +kernel
theorem dX1_sum_130 : decode cX1_sum 130 = .ok (.iload 4, 2) := by decide +kernel
theorem dX1_sum_132 : decode cX1_sum 132 = .ok (.invokestatic 38, 3) := by decide +kernel
theorem dX1_sum_135 : decode cX1_sum 135 = .ok (.lstore 7, 2) := by decide +kernel
theorem dX1_sum_137 : decode cX1_sum 137 = .ok (.iload_n 3, 1) := by decide +kernel
theorem dX1_sum_138 : decode cX1_sum 138 = .ok (.invokestatic 38, 3) := by decide +kernel
theorem dX1_sum_141 : decode cX1_sum 141 = .ok (.iload 6, 2) := by decide +kernel
theorem dX1_sum_143 : decode cX1_sum 143 = .ok (.lshl, 1) := by decide +kernel
theorem dX1_sum_144 : decode cX1_sum 144 = .ok (.lload 7, 2) := by decide +kernel
theorem dX1_sum_146 : decode cX1_sum 146 = .ok (.ladd, 1) := by decide +kernel
theorem dX1_sum_147 : decode cX1_sum 147 = .ok (.lstore 9, 2) := by decide +kernel
theorem dX1_sum_149 : decode cX1_sum 149 = .ok (.lload 9, 2) := by decide +kernel
theorem dX1_sum_151 : decode cX1_sum 151 = .ok (.lconst 0, 1) := by decide +kernel
theorem dX1_sum_152 : decode cX1_sum 152 = .ok (.lcmp, 1) := by decide +kernel
theorem dX1_sum_153 : decode cX1_sum 153 = .ok (.ifCond .ne 12, 3) := by decide +kernel
theorem dX1_sum_156 : decode cX1_sum 156 = .ok (.iload_n 0, 1) := by decide +kernel
theorem dX1_sum_157 : decode cX1_sum 157 = .ok (.iload_n 1, 1) := by decide +kernel
theorem dX1_sum_158 : decode cX1_sum 158 = .ok (.iand, 1) := by decide +kernel
theorem dX1_sum_159 : decode cX1_sum 159 = .ok (.ldc 11, 2) := by decide +kernel
theorem dX1_sum_161 : decode cX1_sum 161 = .ok (.iand, 1) := by decide +kernel
theorem dX1_sum_162 : decode cX1_sum 162 = .ok (.goto 16, 3) := by decide +kernel
theorem dX1_sum_165 : decode cX1_sum 165 = .ok (.lload 9, 2) := by decide +kernel
theorem dX1_sum_167 : decode cX1_sum 167 = .ok (.lconst 0, 1) := by decide +kernel
theorem dX1_sum_168 : decode cX1_sum 168 = .ok (.lcmp, 1) := by decide +kernel
theorem dX1_sum_169 : decode cX1_sum 169 = .ok (.ifCond .ge 8, 3) := by decide +kernel
theorem dX1_sum_172 : decode cX1_sum 172 = .ok (.ldc 11, 2) := by decide +kernel
theorem dX1_sum_174 : decode cX1_sum 174 = .ok (.goto 4, 3) := by decide +kernel
theorem dX1_sum_177 : decode cX1_sum 177 = .ok (.iconst 0, 1) := by decide +kernel
theorem dX1_sum_178 : decode cX1_sum 178 = .ok (.istore 11, 2) := by decide +kernel
theorem dX1_sum_180 : decode cX1_sum 180 = .ok (.iload 11, 2) := by decide +kernel
theorem dX1_sum_182 : decode cX1_sum 182 = .ok (.lload 9, 2) := by decide +kernel
theorem dX1_sum_184 : decode cX1_sum 184 = .ok (.invokestatic 12, 3) := by decide +kernel
theorem dX1_sum_187 : decode cX1_sum 187 = .ok (.iload_n 3, 1) := by decide +kernel
theorem dX1_sum_188 : decode cX1_sum 188 = .ok (.invokestatic 30, 3) := by decide +kernel
theorem dX1_sum_191 : decode cX1_sum 191 = .ok (.iload 6, 2) := by decide +kernel
theorem dX1_sum_193 : decode cX1_sum 193 = .ok (.isub, 1) := by decide +kernel
theorem dX1_sum_194 : decode cX1_sum 194 = .ok (.invokestatic 18, 3) := by decide +kernel
theorem dX1_sum_197 : decode cX1_sum 197 = .ok (.ireturn, 1) := by decide +kernel
theorem dX1_product_0 : decode cX1_product 0 = .ok (.iload_n 0, 1) := by decide +kernel
theorem dX1_product_1 : decode cX1_product 1 = .ok (.invokestatic 22, 3) := by decide +kernel
theorem dX1_product_4 : decode cX1_product 4 = .ok (.ifCond .ne 10, 3) := by decide +kernel
theorem dX1_product_7 : decode cX1_product 7 = .ok (.iload_n 1, 1) := by decide +kernel
theorem dX1_product_8 : decode cX1_product 8 = .ok (.invokestatic 22, 3) := by decide +kernel
theorem dX1_product_11 : decode cX1_product 11 = .ok (.ifCond .eq 6, 3) := by decide +kernel
theorem dX1_product_14 : decode cX1_product 14 = .ok (.ldc 26, 2) := by decide +kernel
theorem dX1_product_16 : decode cX1_product 16 = .ok (.ireturn, 1) := by decide +kernel
theorem dX1_product_17 : decode cX1_product 17 = .ok (.iload_n 0, 1) := by decide +kernel
theorem dX1_product_18 : decode cX1_product 18 = .ok (.iload_n 1, 1) := by decide +kernel
theorem dX1_product_19 : decode cX1_product 19 = .ok (.ixor, 1) := by decide +kernel
theorem dX1_product_20 : decode cX1_product 20 = .ok (.ldc 11, 2) := by decide +kernel
theorem dX1_product_22 : decode cX1_product 22 = .ok (.iand, 1) := by decide +kernel
theorem dX1_product_23 : decode cX1_product 23 = .ok (.istore_n 2, 1) := by decide +kernel
theorem dX1_product_24 : decode cX1_product 24 = .ok (.iload_n 0, 1) := by decide +kernel
theorem dX1_product_25 : decode cX1_product 25 = .ok (.invokestatic 27, 3) := by decide +kernel
theorem dX1_product_28 : decode cX1_product 28 = .ok (.ifCond .ne 10, 3) := by decide +kernel
theorem dX1_product_31 : decode cX1_product 31 = .ok (.iload_n 1, 1) := by decide +kernel
theorem dX1_product_32 : decode cX1_product 32 = .ok (.invokestatic 27, 3) := by decide +kernel
theorem dX1_product_35 : decode cX1_product 35 = .ok (.ifCond .eq 27, 3) := by decide +kernel
theorem dX1_product_38 : decode cX1_product 38 = .ok (.iload_n 0, 1) := by decide +kernel
theorem dX1_product_39 : decode cX1_product 39 = .ok (.invokestatic 48, 3) := by decide +kernel
theorem dX1_product_42 : decode cX1_product 42 = .ok (.ifCond .ne 10, 3) := by decide +kernel
theorem dX1_product_45 : decode cX1_product 45 = .ok (.iload_n 1, 1) := by decide +kernel
theorem dX1_product_46 : decode cX1_product 46 = .ok (.invokestatic 48, 3) := by decide +kernel
theorem dX1_product_49 : decode cX1_product 49 = .ok (.ifCond .eq 8, 3) := by decide +kernel
theorem dX1_product_52 : decode cX1_product 52 = .ok (.ldc 26, 2) := by decide +kernel
theorem dX1_product_54 : decode cX1_product 54 = .ok (.goto 7, 3) := by decide +kernel
theorem dX1_product_57 : decode cX1_product 57 = .ok (.iload_n 2, 1) := by decide +kernel
theorem dX1_product_58 : decode cX1_product 58 = .ok (.ldc 51, 2) := by decide +kernel
theorem dX1_product_60 : decode cX1_product 60 = .ok (.ior, 1) := by decide +kernel
theorem dX1_product_61 : decode cX1_product 61 = .ok (.ireturn, 1) := by decide +kernel
theorem dX1_product_62 : decode cX1_product 62 = .ok (.iload_n 2, 1) := by decide +kernel
theorem dX1_product_63 : decode cX1_product 63 = .ok (.iload_n 0, 1) := by decide +kernel
theorem dX1_product_64 : decode cX1_product 64 = .ok (.invokestatic 38, 3) := by decide +kernel
theorem dX1_product_67 : decode cX1_product 67 = .ok (.iload_n 1, 1) := by decide +kernel
theorem dX1_product_68 : decode cX1_product 68 = .ok (.invokestatic 38, 3) := by decide +kernel
theorem dX1_product_71 : decode cX1_product 71 = .ok (.lmul, 1) := by decide +kernel
theorem dX1_product_72 : decode cX1_product 72 = .ok (.invokestatic 12, 3) := by decide +kernel
theorem dX1_product_75 : decode cX1_product 75 = .ok (.iload_n 0, 1) := by decide +kernel
theorem dX1_product_76 : decode cX1_product 76 = .ok (.invokestatic 30, 3) := by decide +kernel
theorem dX1_product_79 : decode cX1_product 79 = .ok (.iload_n 1, 1) := by decide +kernel
theorem dX1_product_80 : decode cX1_product 80 = .ok (.invokestatic 30, 3) := by decide +kernel
theorem dX1_product_83 : decode cX1_product 83 = .ok (.iadd, 1) := by decide +kernel
theorem dX1_product_84 : decode cX1_product 84 = .ok (.invokestatic 18, 3) := by decide +kernel
theorem dX1_product_87 : decode cX1_product 87 = .ok (.ireturn, 1) := by decide +kernel
theorem dX1_opposite_0 : decode cX1_opposite 0 = .ok (.iload_n 0, 1) := by decide +kernel
theorem dX1_opposite_1 : decode cX1_opposite 1 = .ok (.ldc 11, 2) := by decide +kernel
theorem dX1_opposite_3 : decode cX1_opposite 3 = .ok (.ixor, 1) := by decide +kernel
theorem dX1_opposite_4 : decode cX1_opposite 4 = .ok (.ireturn, 1) := by decide +kernel
theorem dX1_isLess_0 : decode cX1_isLess 0 = .ok (.iload_n 0, 1) := by decide +kernel
theorem dX1_isLess_1 : decode cX1_isLess 1 = .ok (.invokestatic 22, 3) := by decide +kernel
theorem dX1_isLess_4 : decode cX1_isLess 4 = .ok (.ifCond .ne 25, 3) := by decide +kernel
theorem dX1_isLess_7 : decode cX1_isLess 7 = .ok (.iload_n 1, 1) := by decide +kernel
theorem dX1_isLess_8 : decode cX1_isLess 8 = .ok (.invokestatic 22, 3) := by decide +kernel
theorem dX1_isLess_11 : decode cX1_isLess 11 = .ok (.ifCond .ne 18, 3) := by decide +kernel
theorem dX1_isLess_14 : decode cX1_isLess 14 = .ok (.iload_n 0, 1) := by decide +kernel
theorem dX1_isLess_15 : decode cX1_isLess 15 = .ok (.invokestatic 52, 3) := by decide +kernel
theorem dX1_isLess_18 : decode cX1_isLess 18 = .ok (.iload_n 1, 1) := by decide +kernel
theorem dX1_isLess_19 : decode cX1_isLess 19 = .ok (.invokestatic 52, 3) := by decide +kernel
theorem dX1_isLess_22 : decode cX1_isLess 22 = .ok (.if_icmp .ge 7, 3) := by decide +kernel
theorem dX1_isLess_25 : decode cX1_isLess 25 = .ok (.iconst 1, 1) := by decide +kernel
theorem dX1_isLess_26 : decode cX1_isLess 26 = .ok (.goto 4, 3) := by decide +kernel
theorem dX1_isLess_29 : decode cX1_isLess 29 = .ok (.iconst 0, 1) := by decide +kernel
theorem dX1_isLess_30 : decode cX1_isLess 30 = .ok (.ireturn, 1) := by decide +kernel
theorem dX1_isNan_0 : decode cX1_isNan 0 = .ok (.iload_n 0, 1) := by decide +kernel
theorem dX1_isNan_1 : decode cX1_isNan 1 = .ok (.ldc 55, 2) := by decide +kernel
theorem dX1_isNan_3 : decode cX1_isNan 3 = .ok (.iand, 1) := by decide +kernel
theorem dX1_isNan_4 : decode cX1_isNan 4 = .ok (.ldc 51, 2) := by decide +kernel
theorem dX1_isNan_6 : decode cX1_isNan 6 = .ok (.if_icmp .le 7, 3) := by decide +kernel
theorem dX1_isNan_9 : decode cX1_isNan 9 = .ok (.iconst 1, 1) := by decide +kernel
theorem dX1_isNan_10 : decode cX1_isNan 10 = .ok (.goto 4, 3) := by decide +kernel
theorem dX1_isNan_13 : decode cX1_isNan 13 = .ok (.iconst 0, 1) := by decide +kernel
theorem dX1_isNan_14 : decode cX1_isNan 14 = .ok (.ireturn, 1) := by decide +kernel
theorem dX1_isInfinite_0 : decode cX1_isInfinite 0 = .ok (.iload_n 0, 1) := by decide +kernel
theorem dX1_isInfinite_1 : decode cX1_isInfinite 1 = .ok (.ldc 55, 2) := by decide +kernel
theorem dX1_isInfinite_3 : decode cX1_isInfinite 3 = .ok (.iand, 1) := by decide +kernel
theorem dX1_isInfinite_4 : decode cX1_isInfinite 4 = .ok (.ldc 51, 2) := by decide +kernel
theorem dX1_isInfinite_6 : decode cX1_isInfinite 6 = .ok (.if_icmp .ne 7, 3) := by decide +kernel
theorem dX1_isInfinite_9 : decode cX1_isInfinite 9 = .ok (.iconst 1, 1) := by decide +kernel
theorem dX1_isInfinite_10 : decode cX1_isInfinite 10 = .ok (.goto 4, 3) := by decide +kernel
theorem dX1_isInfinite_13 : decode cX1_isInfinite 13 = .ok (.iconst 0, 1) := by decide +kernel
theorem dX1_isInfinite_14 : decode cX1_isInfinite 14 = .ok (.ireturn, 1) := by decide +kernel
theorem dX1_isZero_0 : decode cX1_isZero 0 = .ok (.iload_n 0, 1) := by decide +kernel
theorem dX1_isZero_1 : decode cX1_isZero 1 = .ok (.ldc 55, 2) := by decide +kernel
theorem dX1_isZero_3 : decode cX1_isZero 3 = .ok (.iand, 1) := by decide +kernel
theorem dX1_isZero_4 : decode cX1_isZero 4 = .ok (.ifCond .ne 7, 3) := by decide +kernel
theorem dX1_isZero_7 : decode cX1_isZero 7 = .ok (.iconst 1, 1) := by decide +kernel
theorem dX1_isZero_8 : decode cX1_isZero 8 = .ok (.goto 4, 3) := by decide +kernel
theorem dX1_isZero_11 : decode cX1_isZero 11 = .ok (.iconst 0, 1) := by decide +kernel
theorem dX1_isZero_12 : decode cX1_isZero 12 = .ok (.ireturn, 1) := by decide +kernel
theorem dX1_rank_0 : decode cX1_rank 0 = .ok (.iload_n 0, 1) := by decide +kernel
theorem dX1_rank_1 : decode cX1_rank 1 = .ok (.ifCond .ge 11, 3) := by decide +kernel
theorem dX1_rank_4 : decode cX1_rank 4 = .ok (.iload_n 0, 1) := by decide +kernel
theorem dX1_rank_5 : decode cX1_rank 5 = .ok (.ldc 55, 2) := by decide +kernel
theorem dX1_rank_7 : decode cX1_rank 7 = .ok (.iand, 1) := by decide +kernel
theorem dX1_rank_8 : decode cX1_rank 8 = .ok (.ineg, 1) := by decide +kernel
theorem dX1_rank_9 : decode cX1_rank 9 = .ok (.goto 4, 3) := by decide +kernel
theorem dX1_rank_12 : decode cX1_rank 12 = .ok (.iload_n 0, 1) := by decide +kernel
theorem dX1_rank_13 : decode cX1_rank 13 = .ok (.ireturn, 1) := by decide +kernel
theorem dX1_scale_0 : decode cX1_scale 0 = .ok (.iload_n 0, 1) := by decide +kernel
theorem dX1_scale_1 : decode cX1_scale 1 = .ok (.ldc 55, 2) := by decide +kernel
theorem dX1_scale_3 : decode cX1_scale 3 = .ok (.iand, 1) := by decide +kernel
theorem dX1_scale_4 : decode cX1_scale 4 = .ok (.bipush 23, 2) := by decide +kernel
theorem dX1_scale_6 : decode cX1_scale 6 = .ok (.ishr, 1) := by decide +kernel
theorem dX1_scale_7 : decode cX1_scale 7 = .ok (.istore_n 1, 1) := by decide +kernel
theorem dX1_scale_8 : decode cX1_scale 8 = .ok (.iload_n 1, 1) := by decide +kernel
theorem dX1_scale_9 : decode cX1_scale 9 = .ok (.iconst 1, 1) := by decide +kernel
theorem dX1_scale_10 : decode cX1_scale 10 = .ok (.invokestatic 56, 3) := by decide +kernel
theorem dX1_scale_13 : decode cX1_scale 13 = .ok (.iconst 1, 1) := by decide +kernel
theorem dX1_scale_14 : decode cX1_scale 14 = .ok (.isub, 1) := by decide +kernel
theorem dX1_scale_15 : decode cX1_scale 15 = .ok (.sipush (-149), 3) := by decide +kernel
theorem dX1_scale_18 : decode cX1_scale 18 = .ok (.iadd, 1) := by decide +kernel
theorem dX1_scale_19 : decode cX1_scale 19 = .ok (.ireturn, 1) := by decide +kernel
theorem dX1_signed_0 : decode cX1_signed 0 = .ok (.iload_n 0, 1) := by decide +kernel
theorem dX1_signed_1 : decode cX1_signed 1 = .ok (.ldc 59, 2) := by decide +kernel
theorem dX1_signed_3 : decode cX1_signed 3 = .ok (.iand, 1) := by decide +kernel
theorem dX1_signed_4 : decode cX1_signed 4 = .ok (.i2l, 1) := by decide +kernel
theorem dX1_signed_5 : decode cX1_signed 5 = .ok (.lstore_n 1, 1) := by decide +kernel
theorem dX1_signed_6 : decode cX1_signed 6 = .ok (.iload_n 0, 1) := by decide +kernel
theorem dX1_signed_7 : decode cX1_signed 7 = .ok (.ldc 51, 2) := by decide +kernel
theorem dX1_signed_9 : decode cX1_signed 9 = .ok (.iand, 1) := by decide +kernel
theorem dX1_signed_10 : decode cX1_signed 10 = .ok (.ifCond .eq 9, 3) := by decide +kernel
theorem dX1_signed_13 : decode cX1_signed 13 = .ok (.lload_n 1, 1) := by decide +kernel
theorem dX1_signed_14 : decode cX1_signed 14 = .ok (.ldc2_w 60, 3) := by decide +kernel
theorem dX1_signed_17 : decode cX1_signed 17 = .ok (.ladd, 1) := by decide +kernel
theorem dX1_signed_18 : decode cX1_signed 18 = .ok (.lstore_n 1, 1) := by decide +kernel
theorem dX1_signed_19 : decode cX1_signed 19 = .ok (.iload_n 0, 1) := by decide +kernel
theorem dX1_signed_20 : decode cX1_signed 20 = .ok (.ifCond .ge 8, 3) := by decide +kernel
theorem dX1_signed_23 : decode cX1_signed 23 = .ok (.lload_n 1, 1) := by decide +kernel
theorem dX1_signed_24 : decode cX1_signed 24 = .ok (.lneg, 1) := by decide +kernel
theorem dX1_signed_25 : decode cX1_signed 25 = .ok (.goto 4, 3) := by decide +kernel
theorem dX1_signed_28 : decode cX1_signed 28 = .ok (.lload_n 1, 1) := by decide +kernel
theorem dX1_signed_29 : decode cX1_signed 29 = .ok (.lreturn, 1) := by decide +kernel
theorem dX1_nearest_0 : decode cX1_nearest 0 = .ok (.lload_n 1, 1) := by decide +kernel
theorem dX1_nearest_1 : decode cX1_nearest 1 = .ok (.lconst 0, 1) := by decide +kernel
theorem dX1_nearest_2 : decode cX1_nearest 2 = .ok (.lcmp, 1) := by decide +kernel
theorem dX1_nearest_3 : decode cX1_nearest 3 = .ok (.ifCond .ne 5, 3) := by decide +kernel
theorem dX1_nearest_6 : decode cX1_nearest 6 = .ok (.iload_n 0, 1) := by decide +kernel
theorem dX1_nearest_7 : decode cX1_nearest 7 = .ok (.ireturn, 1) := by decide +kernel
theorem dX1_nearest_8 : decode cX1_nearest 8 = .ok (.bipush 64, 2) := by decide +kernel
theorem dX1_nearest_10 : decode cX1_nearest 10 = .ok (.lload_n 1, 1) := by decide +kernel
theorem dX1_nearest_11 : decode cX1_nearest 11 = .ok (.invokestatic 62, 3) := by decide +kernel
theorem dX1_nearest_14 : decode cX1_nearest 14 = .ok (.isub, 1) := by decide +kernel
theorem dX1_nearest_15 : decode cX1_nearest 15 = .ok (.istore 4, 2) := by decide +kernel
theorem dX1_nearest_17 : decode cX1_nearest 17 = .ok (.iload 4, 2) := by decide +kernel
theorem dX1_nearest_19 : decode cX1_nearest 19 = .ok (.bipush 23, 2) := by decide +kernel
theorem dX1_nearest_21 : decode cX1_nearest 21 = .ok (.isub, 1) := by decide +kernel
theorem dX1_nearest_22 : decode cX1_nearest 22 = .ok (.iconst 1, 1) := by decide +kernel
theorem dX1_nearest_23 : decode cX1_nearest 23 = .ok (.isub, 1) := by decide +kernel
theorem dX1_nearest_24 : decode cX1_nearest 24 = .ok (.sipush (-149), 3) := by decide +kernel
theorem dX1_nearest_27 : decode cX1_nearest 27 = .ok (.iload_n 3, 1) := by decide +kernel
theorem dX1_nearest_28 : decode cX1_nearest 28 = .ok (.isub, 1) := by decide +kernel
theorem dX1_nearest_29 : decode cX1_nearest 29 = .ok (.invokestatic 56, 3) := by decide +kernel
theorem dX1_nearest_32 : decode cX1_nearest 32 = .ok (.istore 5, 2) := by decide +kernel
theorem dX1_nearest_34 : decode cX1_nearest 34 = .ok (.iload_n 3, 1) := by decide +kernel
theorem dX1_nearest_35 : decode cX1_nearest 35 = .ok (.iload 5, 2) := by decide +kernel
theorem dX1_nearest_37 : decode cX1_nearest 37 = .ok (.iadd, 1) := by decide +kernel
theorem dX1_nearest_38 : decode cX1_nearest 38 = .ok (.sipush (-149), 3) := by decide +kernel
theorem dX1_nearest_41 : decode cX1_nearest 41 = .ok (.isub, 1) := by decide +kernel
theorem dX1_nearest_42 : decode cX1_nearest 42 = .ok (.istore 6, 2) := by decide +kernel
theorem dX1_nearest_44 : decode cX1_nearest 44 = .ok (.iload 6, 2) := by decide +kernel
theorem dX1_nearest_46 : decode cX1_nearest 46 = .ok (.sipush 254, 3) := by decide +kernel
theorem dX1_nearest_49 : decode cX1_nearest 49 = .ok (.if_icmp .lt 8, 3) := by decide +kernel
theorem dX1_nearest_52 : decode cX1_nearest 52 = .ok (.iload_n 0, 1) := by decide +kernel
theorem dX1_nearest_53 : decode cX1_nearest 53 = .ok (.ldc 51, 2) := by decide +kernel
theorem dX1_nearest_55 : decode cX1_nearest 55 = .ok (.ior, 1) := by decide +kernel
theorem dX1_nearest_56 : decode cX1_nearest 56 = .ok (.ireturn, 1) := by decide +kernel
theorem dX1_nearest_57 : decode cX1_nearest 57 = .ok (.iload 5, 2) := by decide +kernel
theorem dX1_nearest_59 : decode cX1_nearest 59 = .ok (.bipush 62, 2) := by decide +kernel
theorem dX1_nearest_61 : decode cX1_nearest 61 = .ok (.if_icmp .le 5, 3) := by decide +kernel
theorem dX1_nearest_64 : decode cX1_nearest 64 = .ok (.iload_n 0, 1) := by decide +kernel
theorem dX1_nearest_65 : decode cX1_nearest 65 = .ok (.ireturn, 1) := by decide +kernel
theorem dX1_nearest_66 : decode cX1_nearest 66 = .ok (.lload_n 1, 1) := by decide +kernel
theorem dX1_nearest_67 : decode cX1_nearest 67 = .ok (.iload 5, 2) := by decide +kernel
theorem dX1_nearest_69 : decode cX1_nearest 69 = .ok (.ineg, 1) := by decide +kernel
theorem dX1_nearest_70 : decode cX1_nearest 70 = .ok (.iconst 0, 1) := by decide +kernel
theorem dX1_nearest_71 : decode cX1_nearest 71 = .ok (.invokestatic 56, 3) := by decide +kernel
theorem dX1_nearest_74 : decode cX1_nearest 74 = .ok (.lshl, 1) := by decide +kernel
theorem dX1_nearest_75 : decode cX1_nearest 75 = .ok (.lstore 7, 2) := by decide +kernel
theorem dX1_nearest_77 : decode cX1_nearest 77 = .ok (.iload 5, 2) := by decide +kernel
theorem dX1_nearest_79 : decode cX1_nearest 79 = .ok (.ifCond .le 57, 3) := by decide +kernel
theorem dX1_nearest_82 : decode cX1_nearest 82 = .ok (.lload_n 1, 1) := by decide +kernel
theorem dX1_nearest_83 : decode cX1_nearest 83 = .ok (.iload 5, 2) := by decide +kernel
theorem dX1_nearest_85 : decode cX1_nearest 85 = .ok (.lshr, 1) := by decide +kernel
theorem dX1_nearest_86 : decode cX1_nearest 86 = .ok (.lstore 7, 2) := by decide +kernel
theorem dX1_nearest_88 : decode cX1_nearest 88 = .ok (.lload_n 1, 1) := by decide +kernel
theorem dX1_nearest_89 : decode cX1_nearest 89 = .ok (.lload 7, 2) := by decide +kernel
theorem dX1_nearest_91 : decode cX1_nearest 91 = .ok (.iload 5, 2) := by decide +kernel
theorem dX1_nearest_93 : decode cX1_nearest 93 = .ok (.lshl, 1) := by decide +kernel
theorem dX1_nearest_94 : decode cX1_nearest 94 = .ok (.lsub, 1) := by decide +kernel
theorem dX1_nearest_95 : decode cX1_nearest 95 = .ok (.lstore 9, 2) := by decide +kernel
theorem dX1_nearest_97 : decode cX1_nearest 97 = .ok (.lconst 1, 1) := by decide +kernel
theorem dX1_nearest_98 : decode cX1_nearest 98 = .ok (.iload 5, 2) := by decide +kernel
theorem dX1_nearest_100 : decode cX1_nearest 100 = .ok (.iconst 1, 1) := by decide +kernel
theorem dX1_nearest_101 : decode cX1_nearest 101 = .ok (.isub, 1) := by decide +kernel
theorem dX1_nearest_102 : decode cX1_nearest 102 = .ok (.lshl, 1) := by decide +kernel
theorem dX1_nearest_103 : decode cX1_nearest 103 = .ok (.lstore 11, 2) := by decide +kernel
theorem dX1_nearest_105 : decode cX1_nearest 105 = .ok (.lload 9, 2) := by decide +kernel
theorem dX1_nearest_107 : decode cX1_nearest 107 = .ok (.lload 11, 2) := by decide +kernel
theorem dX1_nearest_109 : decode cX1_nearest 109 = .ok (.lcmp, 1) := by decide +kernel
theorem dX1_nearest_110 : decode cX1_nearest 110 = .ok (.ifCond .gt 20, 3) := by decide +kernel
theorem dX1_nearest_113 : decode cX1_nearest 113 = .ok (.lload 9, 2) := by decide +kernel
theorem dX1_nearest_115 : decode cX1_nearest 115 = .ok (.lload 11, 2) := by decide +kernel
theorem dX1_nearest_117 : decode cX1_nearest 117 = .ok (.lcmp, 1) := by decide +kernel
theorem dX1_nearest_118 : decode cX1_nearest 118 = .ok (.ifCond .ne 18, 3) := by decide +kernel
theorem dX1_nearest_121 : decode cX1_nearest 121 = .ok (.lload 7, 2) := by decide +kernel
theorem dX1_nearest_123 : decode cX1_nearest 123 = .ok (.lconst 1, 1) := by decide +kernel
theorem dX1_nearest_124 : decode cX1_nearest 124 = .ok (.land, 1) := by decide +kernel
theorem dX1_nearest_125 : decode cX1_nearest 125 = .ok (.lconst 1, 1) := by decide +kernel
theorem dX1_nearest_126 : decode cX1_nearest 126 = .ok (.lcmp, 1) := by decide +kernel
theorem dX1_nearest_127 : decode cX1_nearest 127 = .ok (.ifCond .ne 9, 3) := by decide +kernel
theorem dX1_nearest_130 : decode cX1_nearest 130 = .ok (.lload 7, 2) := by decide +kernel
theorem dX1_nearest_132 : decode cX1_nearest 132 = .ok (.lconst 1, 1) := by decide +kernel
theorem dX1_nearest_133 : decode cX1_nearest 133 = .ok (.ladd, 1) := by decide +kernel
theorem dX1_nearest_134 : decode cX1_nearest 134 = .ok (.lstore 7, 2) := by decide +kernel
theorem dX1_nearest_136 : decode cX1_nearest 136 = .ok (.iload_n 0, 1) := by decide +kernel
theorem dX1_nearest_137 : decode cX1_nearest 137 = .ok (.iload 6, 2) := by decide +kernel
theorem dX1_nearest_139 : decode cX1_nearest 139 = .ok (.bipush 23, 2) := by decide +kernel
theorem dX1_nearest_141 : decode cX1_nearest 141 = .ok (.ishl, 1) := by decide +kernel
theorem dX1_nearest_142 : decode cX1_nearest 142 = .ok (.lload 7, 2) := by decide +kernel
theorem dX1_nearest_144 : decode cX1_nearest 144 = .ok (.l2i, 1) := by decide +kernel
theorem dX1_nearest_145 : decode cX1_nearest 145 = .ok (.iadd, 1) := by decide +kernel
theorem dX1_nearest_146 : decode cX1_nearest 146 = .ok (.ior, 1) := by decide +kernel
theorem dX1_nearest_147 : decode cX1_nearest 147 = .ok (.ireturn, 1) := by decide +kernel
theorem dX2_init_0 : decode cX2_init 0 = .ok (.aload_n 0, 1) := by decide +kernel
theorem dX2_init_1 : decode cX2_init 1 = .ok (.invokespecial 3, 3) := by decide +kernel
theorem dX2_init_4 : decode cX2_init 4 = .ok (.aload_n 0, 1) := by decide +kernel
theorem dX2_init_5 : decode cX2_init 5 = .ok (.bipush 8, 2) := by decide +kernel
theorem dX2_init_7 : decode cX2_init 7 = .ok (.anewarray 9, 3) := by decide +kernel
theorem dX2_init_10 : decode cX2_init 10 = .ok (.putfield 11, 3) := by decide +kernel
theorem dX2_init_13 : decode cX2_init 13 = .ok (.aload_n 0, 1) := by decide +kernel
theorem dX2_init_14 : decode cX2_init 14 = .ok (.bipush 24, 2) := by decide +kernel
theorem dX2_init_16 : decode cX2_init 16 = .ok (.newarray .int, 2) := by decide +kernel
theorem dX2_init_18 : decode cX2_init 18 = .ok (.putfield 17, 3) := by decide +kernel
theorem dX2_init_21 : decode cX2_init 21 = .ok (.aload_n 0, 1) := by decide +kernel
theorem dX2_init_22 : decode cX2_init 22 = .ok (.bipush 24, 2) := by decide +kernel
theorem dX2_init_24 : decode cX2_init 24 = .ok (.newarray .int, 2) := by decide +kernel
theorem dX2_init_26 : decode cX2_init 26 = .ok (.putfield 21, 3) := by decide +kernel
theorem dX2_init_29 : decode cX2_init 29 = .ok (.aload_n 0, 1) := by decide +kernel
theorem dX2_init_30 : decode cX2_init 30 = .ok (.bipush 24, 2) := by decide +kernel
theorem dX2_init_32 : decode cX2_init 32 = .ok (.anewarray 9, 3) := by decide +kernel
theorem dX2_init_35 : decode cX2_init 35 = .ok (.putfield 24, 3) := by decide +kernel
theorem dX2_init_38 : decode cX2_init 38 = .ok (.iconst 0, 1) := by decide +kernel
theorem dX2_init_39 : decode cX2_init 39 = .ok (.istore_n 1, 1) := by decide +kernel
theorem dX2_init_40 : decode cX2_init 40 = .ok (.iload_n 1, 1) := by decide +kernel
theorem dX2_init_41 : decode cX2_init 41 = .ok (.bipush 8, 2) := by decide +kernel
theorem dX2_init_43 : decode cX2_init 43 = .ok (.if_icmp .ge 23, 3) := by decide +kernel
theorem dX2_init_46 : decode cX2_init 46 = .ok (.aload_n 0, 1) := by decide +kernel
theorem dX2_init_47 : decode cX2_init 47 = .ok (.getfield 11, 3) := by decide +kernel
theorem dX2_init_50 : decode cX2_init 50 = .ok (.iload_n 1, 1) := by decide +kernel
theorem dX2_init_51 : decode cX2_init 51 = .ok (.new 9, 3) := by decide +kernel
theorem dX2_init_54 : decode cX2_init 54 = .ok (.dup, 1) := by decide +kernel
theorem dX2_init_55 : decode cX2_init 55 = .ok (.iload_n 1, 1) := by decide +kernel
theorem dX2_init_56 : decode cX2_init 56 = .ok (.invokespecial 27, 3) := by decide +kernel
theorem dX2_init_59 : decode cX2_init 59 = .ok (.aastore, 1) := by decide +kernel
theorem dX2_init_60 : decode cX2_init 60 = .ok (.iinc 1 1, 3) := by decide +kernel
theorem dX2_init_63 : decode cX2_init 63 = .ok (.goto (-23), 3) := by decide +kernel
theorem dX2_init_66 : decode cX2_init 66 = .ok (.return_, 1) := by decide +kernel
theorem dX2_clear_0 : decode cX2_clear 0 = .ok (.aload_n 0, 1) := by decide +kernel
theorem dX2_clear_1 : decode cX2_clear 1 = .ok (.getfield 17, 3) := by decide +kernel
theorem dX2_clear_4 : decode cX2_clear 4 = .ok (.iconst 0, 1) := by decide +kernel
theorem dX2_clear_5 : decode cX2_clear 5 = .ok (.invokestatic 30, 3) := by decide +kernel
theorem dX2_clear_8 : decode cX2_clear 8 = .ok (.aload_n 0, 1) := by decide +kernel
theorem dX2_clear_9 : decode cX2_clear 9 = .ok (.getfield 21, 3) := by decide +kernel
theorem dX2_clear_12 : decode cX2_clear 12 = .ok (.iconst 0, 1) := by decide +kernel
theorem dX2_clear_13 : decode cX2_clear 13 = .ok (.invokestatic 30, 3) := by decide +kernel
theorem dX2_clear_16 : decode cX2_clear 16 = .ok (.iconst 0, 1) := by decide +kernel
theorem dX2_clear_17 : decode cX2_clear 17 = .ok (.istore_n 1, 1) := by decide +kernel
theorem dX2_clear_18 : decode cX2_clear 18 = .ok (.iload_n 1, 1) := by decide +kernel
theorem dX2_clear_19 : decode cX2_clear 19 = .ok (.bipush 24, 2) := by decide +kernel
theorem dX2_clear_21 : decode cX2_clear 21 = .ok (.if_icmp .ge 16, 3) := by decide +kernel
theorem dX2_clear_24 : decode cX2_clear 24 = .ok (.aload_n 0, 1) := by decide +kernel
theorem dX2_clear_25 : decode cX2_clear 25 = .ok (.getfield 24, 3) := by decide +kernel
theorem dX2_clear_28 : decode cX2_clear 28 = .ok (.iload_n 1, 1) := by decide +kernel
theorem dX2_clear_29 : decode cX2_clear 29 = .ok (.aconst_null, 1) := by decide +kernel
theorem dX2_clear_30 : decode cX2_clear 30 = .ok (.aastore, 1) := by decide +kernel
theorem dX2_clear_31 : decode cX2_clear 31 = .ok (.iinc 1 1, 3) := by decide +kernel
theorem dX2_clear_34 : decode cX2_clear 34 = .ok (.goto (-16), 3) := by decide +kernel
theorem dX2_clear_37 : decode cX2_clear 37 = .ok (.aload_n 0, 1) := by decide +kernel
theorem dX2_clear_38 : decode cX2_clear 38 = .ok (.iconst 0, 1) := by decide +kernel
theorem dX2_clear_39 : decode cX2_clear 39 = .ok (.putfield 36, 3) := by decide +kernel
theorem dX2_clear_42 : decode cX2_clear 42 = .ok (.aload_n 0, 1) := by decide +kernel
theorem dX2_clear_43 : decode cX2_clear 43 = .ok (.iconst 0, 1) := by decide +kernel
theorem dX2_clear_44 : decode cX2_clear 44 = .ok (.putfield 40, 3) := by decide +kernel
theorem dX2_clear_47 : decode cX2_clear 47 = .ok (.aload_n 0, 1) := by decide +kernel
theorem dX2_clear_48 : decode cX2_clear 48 = .ok (.aconst_null, 1) := by decide +kernel
theorem dX2_clear_49 : decode cX2_clear 49 = .ok (.putfield 43, 3) := by decide +kernel
theorem dX2_clear_52 : decode cX2_clear 52 = .ok (.return_, 1) := by decide +kernel
theorem dX2_has_0 : decode cX2_has 0 = .ok (.iload_n 1, 1) := by decide +kernel
theorem dX2_has_1 : decode cX2_has 1 = .ok (.ifCond .lt 15, 3) := by decide +kernel
theorem dX2_has_4 : decode cX2_has 4 = .ok (.iload_n 1, 1) := by decide +kernel
theorem dX2_has_5 : decode cX2_has 5 = .ok (.aload_n 0, 1) := by decide +kernel
theorem dX2_has_6 : decode cX2_has 6 = .ok (.getfield 36, 3) := by decide +kernel
theorem dX2_has_9 : decode cX2_has 9 = .ok (.if_icmp .ge 7, 3) := by decide +kernel
theorem dX2_has_12 : decode cX2_has 12 = .ok (.iconst 1, 1) := by decide +kernel
theorem dX2_has_13 : decode cX2_has 13 = .ok (.goto 4, 3) := by decide +kernel
theorem dX2_has_16 : decode cX2_has 16 = .ok (.iconst 0, 1) := by decide +kernel
theorem dX2_has_17 : decode cX2_has 17 = .ok (.ireturn, 1) := by decide +kernel
theorem dX2_hasEntry_0 : decode cX2_hasEntry 0 = .ok (.aload_n 0, 1) := by decide +kernel
theorem dX2_hasEntry_1 : decode cX2_hasEntry 1 = .ok (.iload_n 1, 1) := by decide +kernel
theorem dX2_hasEntry_2 : decode cX2_hasEntry 2 = .ok (.invokevirtual 47, 3) := by decide +kernel
theorem dX2_hasEntry_5 : decode cX2_hasEntry 5 = .ok (.ifCond .eq 24, 3) := by decide +kernel
theorem dX2_hasEntry_8 : decode cX2_hasEntry 8 = .ok (.iload_n 2, 1) := by decide +kernel
theorem dX2_hasEntry_9 : decode cX2_hasEntry 9 = .ok (.ifCond .lt 20, 3) := by decide +kernel
theorem dX2_hasEntry_12 : decode cX2_hasEntry 12 = .ok (.iload_n 2, 1) := by decide +kernel
theorem dX2_hasEntry_13 : decode cX2_hasEntry 13 = .ok (.aload_n 0, 1) := by decide +kernel
theorem dX2_hasEntry_14 : decode cX2_hasEntry 14 = .ok (.getfield 11, 3) := by decide +kernel
theorem dX2_hasEntry_17 : decode cX2_hasEntry 17 = .ok (.iload_n 1, 1) := by decide +kernel
theorem dX2_hasEntry_18 : decode cX2_hasEntry 18 = .ok (.aaload, 1) := by decide +kernel
theorem dX2_hasEntry_19 : decode cX2_hasEntry 19 = .ok (.getfield 51, 3) := by decide +kernel
theorem dX2_hasEntry_22 : decode cX2_hasEntry 22 = .ok (.if_icmp .ge 7, 3) := by decide +kernel
theorem dX2_hasEntry_25 : decode cX2_hasEntry 25 = .ok (.iconst 1, 1) := by decide +kernel
theorem dX2_hasEntry_26 : decode cX2_hasEntry 26 = .ok (.goto 4, 3) := by decide +kernel
theorem dX2_hasEntry_29 : decode cX2_hasEntry 29 = .ok (.iconst 0, 1) := by decide +kernel
theorem dX2_hasEntry_30 : decode cX2_hasEntry 30 = .ok (.ireturn, 1) := by decide +kernel
theorem dX2_mayRecord_0 : decode cX2_mayRecord 0 = .ok (.aload_n 0, 1) := by decide +kernel
theorem dX2_mayRecord_1 : decode cX2_mayRecord 1 = .ok (.getfield 36, 3) := by decide +kernel
theorem dX2_mayRecord_4 : decode cX2_mayRecord 4 = .ok (.bipush 8, 2) := by decide +kernel
theorem dX2_mayRecord_6 : decode cX2_mayRecord 6 = .ok (.if_icmp .ge 17, 3) := by decide +kernel
theorem dX2_mayRecord_9 : decode cX2_mayRecord 9 = .ok (.aload_n 0, 1) := by decide +kernel
theorem dX2_mayRecord_10 : decode cX2_mayRecord 10 = .ok (.getfield 21, 3) := by decide +kernel
theorem dX2_mayRecord_13 : decode cX2_mayRecord 13 = .ok (.iload_n 1, 1) := by decide +kernel
theorem dX2_mayRecord_14 : decode cX2_mayRecord 14 = .ok (.iaload, 1) := by decide +kernel
theorem dX2_mayRecord_15 : decode cX2_mayRecord 15 = .ok (.iconst 2, 1) := by decide +kernel
theorem dX2_mayRecord_16 : decode cX2_mayRecord 16 = .ok (.if_icmp .ge 7, 3) := by decide +kernel
theorem dX2_mayRecord_19 : decode cX2_mayRecord 19 = .ok (.iconst 1, 1) := by decide +kernel
theorem dX2_mayRecord_20 : decode cX2_mayRecord 20 = .ok (.goto 4, 3) := by decide +kernel
theorem dX2_mayRecord_23 : decode cX2_mayRecord 23 = .ok (.iconst 0, 1) := by decide +kernel
theorem dX2_mayRecord_24 : decode cX2_mayRecord 24 = .ok (.ireturn, 1) := by decide +kernel
theorem dX2_startRecording_0 : decode cX2_startRecording 0 = .ok (.aload_n 0, 1) := by decide +kernel
theorem dX2_startRecording_1 : decode cX2_startRecording 1 = .ok (.aload_n 0, 1) := by decide +kernel
theorem dX2_startRecording_2 : decode cX2_startRecording 2 = .ok (.getfield 11, 3) := by decide +kernel
theorem dX2_startRecording_5 : decode cX2_startRecording 5 = .ok (.aload_n 0, 1) := by decide +kernel
theorem dX2_startRecording_6 : decode cX2_startRecording 6 = .ok (.getfield 36, 3) := by decide +kernel
theorem dX2_startRecording_9 : decode cX2_startRecording 9 = .ok (.aaload, 1) := by decide +kernel
theorem dX2_startRecording_10 : decode cX2_startRecording 10 = .ok (.putfield 43, 3) := by decide +kernel
theorem dX2_startRecording_13 : decode cX2_startRecording 13 = .ok (.aload_n 0, 1) := by decide +kernel
theorem dX2_startRecording_14 : decode cX2_startRecording 14 = .ok (.getfield 43, 3) := by decide +kernel
theorem dX2_startRecording_17 : decode cX2_startRecording 17 = .ok (.iload_n 1, 1) := by decide +kernel
theorem dX2_startRecording_18 : decode cX2_startRecording 18 = .ok (.iload_n 2, 1) := by decide +kernel
theorem dX2_startRecording_19 : decode cX2_startRecording 19 = .ok (.iload_n 3, 1) := by decide +kernel
theorem dX2_startRecording_20 : decode cX2_startRecording 20 = .ok (.invokevirtual 52, 3) := by decide +kernel
theorem dX2_startRecording_23 : decode cX2_startRecording 23 = .ok (.return_, 1) := by decide +kernel
theorem dX2_keep_0 : decode cX2_keep 0 = .ok (.aload_n 0, 1) := by decide +kernel
theorem dX2_keep_1 : decode cX2_keep 1 = .ok (.getfield 43, 3) := by decide +kernel
theorem dX2_keep_4 : decode cX2_keep 4 = .ok (.ifnonnull 4, 3) := by decide +kernel
theorem dX2_keep_7 : decode cX2_keep 7 = .ok (.return_, 1) := by decide +kernel
theorem dX2_keep_8 : decode cX2_keep 8 = .ok (.aload_n 0, 1) := by decide +kernel
theorem dX2_keep_9 : decode cX2_keep 9 = .ok (.getfield 43, 3) := by decide +kernel
theorem dX2_keep_12 : decode cX2_keep 12 = .ok (.getfield 56, 3) := by decide +kernel
theorem dX2_keep_15 : decode cX2_keep 15 = .ok (.iconst (-1), 1) := by decide +kernel
theorem dX2_keep_16 : decode cX2_keep 16 = .ok (.if_icmp .ne 22, 3) := by decide +kernel
theorem dX2_keep_19 : decode cX2_keep 19 = .ok (.aload_n 0, 1) := by decide +kernel
theorem dX2_keep_20 : decode cX2_keep 20 = .ok (.getfield 24, 3) := by decide +kernel
theorem dX2_keep_23 : decode cX2_keep 23 = .ok (.aload_n 0, 1) := by decide +kernel
theorem dX2_keep_24 : decode cX2_keep 24 = .ok (.getfield 43, 3) := by decide +kernel
theorem dX2_keep_27 : decode cX2_keep 27 = .ok (.getfield 59, 3) := by decide +kernel
theorem dX2_keep_30 : decode cX2_keep 30 = .ok (.aload_n 0, 1) := by decide +kernel
theorem dX2_keep_31 : decode cX2_keep 31 = .ok (.getfield 43, 3) := by decide +kernel
theorem dX2_keep_34 : decode cX2_keep 34 = .ok (.aastore, 1) := by decide +kernel
theorem dX2_keep_35 : decode cX2_keep 35 = .ok (.goto 33, 3) := by decide +kernel
theorem dX2_keep_38 : decode cX2_keep 38 = .ok (.aload_n 0, 1) := by decide +kernel
theorem dX2_keep_39 : decode cX2_keep 39 = .ok (.getfield 11, 3) := by decide +kernel
theorem dX2_keep_42 : decode cX2_keep 42 = .ok (.aload_n 0, 1) := by decide +kernel
theorem dX2_keep_43 : decode cX2_keep 43 = .ok (.getfield 43, 3) := by decide +kernel
theorem dX2_keep_46 : decode cX2_keep 46 = .ok (.getfield 56, 3) := by decide +kernel
theorem dX2_keep_49 : decode cX2_keep 49 = .ok (.aaload, 1) := by decide +kernel
theorem dX2_keep_50 : decode cX2_keep 50 = .ok (.getfield 62, 3) := by decide +kernel
theorem dX2_keep_53 : decode cX2_keep 53 = .ok (.aload_n 0, 1) := by decide +kernel
theorem dX2_keep_54 : decode cX2_keep 54 = .ok (.getfield 43, 3) := by decide +kernel
theorem dX2_keep_57 : decode cX2_keep 57 = .ok (.getfield 65, 3) := by decide +kernel
theorem dX2_keep_60 : decode cX2_keep 60 = .ok (.aload_n 0, 1) := by decide +kernel
theorem dX2_keep_61 : decode cX2_keep 61 = .ok (.getfield 43, 3) := by decide +kernel
theorem dX2_keep_64 : decode cX2_keep 64 = .ok (.getfield 68, 3) := by decide +kernel
theorem dX2_keep_67 : decode cX2_keep 67 = .ok (.iastore, 1) := by decide +kernel
theorem dX2_keep_68 : decode cX2_keep 68 = .ok (.aload_n 0, 1) := by decide +kernel
theorem dX2_keep_69 : decode cX2_keep 69 = .ok (.dup, 1) := by decide +kernel
theorem dX2_keep_70 : decode cX2_keep 70 = .ok (.getfield 36, 3) := by decide +kernel
theorem dX2_keep_73 : decode cX2_keep 73 = .ok (.iconst 1, 1) := by decide +kernel
theorem dX2_keep_74 : decode cX2_keep 74 = .ok (.iadd, 1) := by decide +kernel
theorem dX2_keep_75 : decode cX2_keep 75 = .ok (.putfield 36, 3) := by decide +kernel
theorem dX2_keep_78 : decode cX2_keep 78 = .ok (.aload_n 0, 1) := by decide +kernel
theorem dX2_keep_79 : decode cX2_keep 79 = .ok (.aconst_null, 1) := by decide +kernel
theorem dX2_keep_80 : decode cX2_keep 80 = .ok (.putfield 43, 3) := by decide +kernel
theorem dX2_keep_83 : decode cX2_keep 83 = .ok (.return_, 1) := by decide +kernel
theorem dX2_drop_0 : decode cX2_drop 0 = .ok (.aload_n 0, 1) := by decide +kernel
theorem dX2_drop_1 : decode cX2_drop 1 = .ok (.getfield 43, 3) := by decide +kernel
theorem dX2_drop_4 : decode cX2_drop 4 = .ok (.ifnonnull 4, 3) := by decide +kernel
theorem dX2_drop_7 : decode cX2_drop 7 = .ok (.return_, 1) := by decide +kernel
theorem dX2_drop_8 : decode cX2_drop 8 = .ok (.aload_n 0, 1) := by decide +kernel
theorem dX2_drop_9 : decode cX2_drop 9 = .ok (.getfield 17, 3) := by decide +kernel
theorem dX2_drop_12 : decode cX2_drop 12 = .ok (.aload_n 0, 1) := by decide +kernel
theorem dX2_drop_13 : decode cX2_drop 13 = .ok (.getfield 43, 3) := by decide +kernel
theorem dX2_drop_16 : decode cX2_drop 16 = .ok (.getfield 59, 3) := by decide +kernel
theorem dX2_drop_19 : decode cX2_drop 19 = .ok (.iconst 0, 1) := by decide +kernel
theorem dX2_drop_20 : decode cX2_drop 20 = .ok (.iastore, 1) := by decide +kernel
theorem dX2_drop_21 : decode cX2_drop 21 = .ok (.aload_n 0, 1) := by decide +kernel
theorem dX2_drop_22 : decode cX2_drop 22 = .ok (.getfield 21, 3) := by decide +kernel
theorem dX2_drop_25 : decode cX2_drop 25 = .ok (.aload_n 0, 1) := by decide +kernel
theorem dX2_drop_26 : decode cX2_drop 26 = .ok (.getfield 43, 3) := by decide +kernel
theorem dX2_drop_29 : decode cX2_drop 29 = .ok (.getfield 59, 3) := by decide +kernel
theorem dX2_drop_32 : decode cX2_drop 32 = .ok (.dup2, 1) := by decide +kernel
theorem dX2_drop_33 : decode cX2_drop 33 = .ok (.iaload, 1) := by decide +kernel
theorem dX2_drop_34 : decode cX2_drop 34 = .ok (.iconst 1, 1) := by decide +kernel
theorem dX2_drop_35 : decode cX2_drop 35 = .ok (.iadd, 1) := by decide +kernel
theorem dX2_drop_36 : decode cX2_drop 36 = .ok (.iastore, 1) := by decide +kernel
theorem dX2_drop_37 : decode cX2_drop 37 = .ok (.aload_n 0, 1) := by decide +kernel
theorem dX2_drop_38 : decode cX2_drop 38 = .ok (.dup, 1) := by decide +kernel
theorem dX2_drop_39 : decode cX2_drop 39 = .ok (.getfield 40, 3) := by decide +kernel
theorem dX2_drop_42 : decode cX2_drop 42 = .ok (.iconst 1, 1) := by decide +kernel
theorem dX2_drop_43 : decode cX2_drop 43 = .ok (.iadd, 1) := by decide +kernel
theorem dX2_drop_44 : decode cX2_drop 44 = .ok (.putfield 40, 3) := by decide +kernel
theorem dX2_drop_47 : decode cX2_drop 47 = .ok (.aload_n 0, 1) := by decide +kernel
theorem dX2_drop_48 : decode cX2_drop 48 = .ok (.aconst_null, 1) := by decide +kernel
theorem dX2_drop_49 : decode cX2_drop 49 = .ok (.putfield 43, 3) := by decide +kernel
theorem dX2_drop_52 : decode cX2_drop 52 = .ok (.return_, 1) := by decide +kernel
theorem dX2_heatFact_0 : decode cX2_heatFact 0 = .ok (.iload_n 1, 1) := by decide +kernel
theorem dX2_heatFact_1 : decode cX2_heatFact 1 = .ok (.ifCond .lt 9, 3) := by decide +kernel
theorem dX2_heatFact_4 : decode cX2_heatFact 4 = .ok (.iload_n 1, 1) := by decide +kernel
theorem dX2_heatFact_5 : decode cX2_heatFact 5 = .ok (.bipush 24, 2) := by decide +kernel
theorem dX2_heatFact_7 : decode cX2_heatFact 7 = .ok (.if_icmp .lt 6, 3) := by decide +kernel
theorem dX2_heatFact_10 : decode cX2_heatFact 10 = .ok (.bipush (-2), 2) := by decide +kernel
theorem dX2_heatFact_12 : decode cX2_heatFact 12 = .ok (.ireturn, 1) := by decide +kernel
theorem dX2_heatFact_13 : decode cX2_heatFact 13 = .ok (.iload_n 2, 1) := by decide +kernel
theorem dX2_heatFact_14 : decode cX2_heatFact 14 = .ok (.tableswitch 72 0 2 #[26, 33, 49], 26) := by decide +kernel
theorem dX2_heatFact_40 : decode cX2_heatFact 40 = .ok (.aload_n 0, 1) := by decide +kernel
theorem dX2_heatFact_41 : decode cX2_heatFact 41 = .ok (.getfield 17, 3) := by decide +kernel
theorem dX2_heatFact_44 : decode cX2_heatFact 44 = .ok (.iload_n 1, 1) := by decide +kernel
theorem dX2_heatFact_45 : decode cX2_heatFact 45 = .ok (.iaload, 1) := by decide +kernel
theorem dX2_heatFact_46 : decode cX2_heatFact 46 = .ok (.ireturn, 1) := by decide +kernel
theorem dX2_heatFact_47 : decode cX2_heatFact 47 = .ok (.aload_n 0, 1) := by decide +kernel
theorem dX2_heatFact_48 : decode cX2_heatFact 48 = .ok (.getfield 21, 3) := by decide +kernel
theorem dX2_heatFact_51 : decode cX2_heatFact 51 = .ok (.iload_n 1, 1) := by decide +kernel
theorem dX2_heatFact_52 : decode cX2_heatFact 52 = .ok (.iaload, 1) := by decide +kernel
theorem dX2_heatFact_53 : decode cX2_heatFact 53 = .ok (.iconst 2, 1) := by decide +kernel
theorem dX2_heatFact_54 : decode cX2_heatFact 54 = .ok (.if_icmp .lt 7, 3) := by decide +kernel
theorem dX2_heatFact_57 : decode cX2_heatFact 57 = .ok (.iconst 1, 1) := by decide +kernel
theorem dX2_heatFact_58 : decode cX2_heatFact 58 = .ok (.goto 4, 3) := by decide +kernel
theorem dX2_heatFact_61 : decode cX2_heatFact 61 = .ok (.iconst 0, 1) := by decide +kernel
theorem dX2_heatFact_62 : decode cX2_heatFact 62 = .ok (.ireturn, 1) := by decide +kernel
theorem dX2_heatFact_63 : decode cX2_heatFact 63 = .ok (.aload_n 0, 1) := by decide +kernel
theorem dX2_heatFact_64 : decode cX2_heatFact 64 = .ok (.getfield 24, 3) := by decide +kernel
theorem dX2_heatFact_67 : decode cX2_heatFact 67 = .ok (.iload_n 1, 1) := by decide +kernel
theorem dX2_heatFact_68 : decode cX2_heatFact 68 = .ok (.aaload, 1) := by decide +kernel
theorem dX2_heatFact_69 : decode cX2_heatFact 69 = .ok (.ifnonnull 7, 3) := by decide +kernel
theorem dX2_heatFact_72 : decode cX2_heatFact 72 = .ok (.iconst (-1), 1) := by decide +kernel
theorem dX2_heatFact_73 : decode cX2_heatFact 73 = .ok (.goto 12, 3) := by decide +kernel
theorem dX2_heatFact_76 : decode cX2_heatFact 76 = .ok (.aload_n 0, 1) := by decide +kernel
theorem dX2_heatFact_77 : decode cX2_heatFact 77 = .ok (.getfield 24, 3) := by decide +kernel
theorem dX2_heatFact_80 : decode cX2_heatFact 80 = .ok (.iload_n 1, 1) := by decide +kernel
theorem dX2_heatFact_81 : decode cX2_heatFact 81 = .ok (.aaload, 1) := by decide +kernel
theorem dX2_heatFact_82 : decode cX2_heatFact 82 = .ok (.getfield 68, 3) := by decide +kernel
theorem dX2_heatFact_85 : decode cX2_heatFact 85 = .ok (.ireturn, 1) := by decide +kernel
theorem dX2_heatFact_86 : decode cX2_heatFact 86 = .ok (.bipush (-2), 2) := by decide +kernel
theorem dX2_heatFact_88 : decode cX2_heatFact 88 = .ok (.ireturn, 1) := by decide +kernel
theorem dX2_entriesInAll_0 : decode cX2_entriesInAll 0 = .ok (.iconst 0, 1) := by decide +kernel
theorem dX2_entriesInAll_1 : decode cX2_entriesInAll 1 = .ok (.istore_n 1, 1) := by decide +kernel
theorem dX2_entriesInAll_2 : decode cX2_entriesInAll 2 = .ok (.iconst 0, 1) := by decide +kernel
theorem dX2_entriesInAll_3 : decode cX2_entriesInAll 3 = .ok (.istore_n 2, 1) := by decide +kernel
theorem dX2_entriesInAll_4 : decode cX2_entriesInAll 4 = .ok (.iload_n 2, 1) := by decide +kernel
theorem dX2_entriesInAll_5 : decode cX2_entriesInAll 5 = .ok (.aload_n 0, 1) := by decide +kernel
theorem dX2_entriesInAll_6 : decode cX2_entriesInAll 6 = .ok (.getfield 36, 3) := by decide +kernel
theorem dX2_entriesInAll_9 : decode cX2_entriesInAll 9 = .ok (.if_icmp .ge 21, 3) := by decide +kernel
theorem dX2_entriesInAll_12 : decode cX2_entriesInAll 12 = .ok (.iload_n 1, 1) := by decide +kernel
theorem dX2_entriesInAll_13 : decode cX2_entriesInAll 13 = .ok (.aload_n 0, 1) := by decide +kernel
theorem dX2_entriesInAll_14 : decode cX2_entriesInAll 14 = .ok (.getfield 11, 3) := by decide +kernel
theorem dX2_entriesInAll_17 : decode cX2_entriesInAll 17 = .ok (.iload_n 2, 1) := by decide +kernel
theorem dX2_entriesInAll_18 : decode cX2_entriesInAll 18 = .ok (.aaload, 1) := by decide +kernel
theorem dX2_entriesInAll_19 : decode cX2_entriesInAll 19 = .ok (.getfield 51, 3) := by decide +kernel
theorem dX2_entriesInAll_22 : decode cX2_entriesInAll 22 = .ok (.iadd, 1) := by decide +kernel
theorem dX2_entriesInAll_23 : decode cX2_entriesInAll 23 = .ok (.istore_n 1, 1) := by decide +kernel
theorem dX2_entriesInAll_24 : decode cX2_entriesInAll 24 = .ok (.iinc 2 1, 3) := by decide +kernel
theorem dX2_entriesInAll_27 : decode cX2_entriesInAll 27 = .ok (.goto (-23), 3) := by decide +kernel
theorem dX2_entriesInAll_30 : decode cX2_entriesInAll 30 = .ok (.iload_n 1, 1) := by decide +kernel
theorem dX2_entriesInAll_31 : decode cX2_entriesInAll 31 = .ok (.ireturn, 1) := by decide +kernel
theorem dX3_init_0 : decode cX3_init 0 = .ok (.aload_n 0, 1) := by decide +kernel
theorem dX3_init_1 : decode cX3_init 1 = .ok (.invokespecial 3, 3) := by decide +kernel
theorem dX3_init_4 : decode cX3_init 4 = .ok (.aload_n 0, 1) := by decide +kernel
theorem dX3_init_5 : decode cX3_init 5 = .ok (.new 9, 3) := by decide +kernel
theorem dX3_init_8 : decode cX3_init 8 = .ok (.dup, 1) := by decide +kernel
theorem dX3_init_9 : decode cX3_init 9 = .ok (.invokespecial 11, 3) := by decide +kernel
theorem dX3_init_12 : decode cX3_init 12 = .ok (.putfield 12, 3) := by decide +kernel
theorem dX3_init_15 : decode cX3_init 15 = .ok (.aload_n 0, 1) := by decide +kernel
theorem dX3_init_16 : decode cX3_init 16 = .ok (.new 18, 3) := by decide +kernel
theorem dX3_init_19 : decode cX3_init 19 = .ok (.dup, 1) := by decide +kernel
theorem dX3_init_20 : decode cX3_init 20 = .ok (.invokespecial 20, 3) := by decide +kernel
theorem dX3_init_23 : decode cX3_init 23 = .ok (.putfield 21, 3) := by decide +kernel
theorem dX3_init_26 : decode cX3_init 26 = .ok (.aload_n 0, 1) := by decide +kernel
theorem dX3_init_27 : decode cX3_init 27 = .ok (.new 25, 3) := by decide +kernel
theorem dX3_init_30 : decode cX3_init 30 = .ok (.dup, 1) := by decide +kernel
theorem dX3_init_31 : decode cX3_init 31 = .ok (.invokespecial 27, 3) := by decide +kernel
theorem dX3_init_34 : decode cX3_init 34 = .ok (.putfield 28, 3) := by decide +kernel
theorem dX3_init_37 : decode cX3_init 37 = .ok (.aload_n 0, 1) := by decide +kernel
theorem dX3_init_38 : decode cX3_init 38 = .ok (.aload_n 1, 1) := by decide +kernel
theorem dX3_init_39 : decode cX3_init 39 = .ok (.putfield 32, 3) := by decide +kernel
theorem dX3_init_42 : decode cX3_init 42 = .ok (.return_, 1) := by decide +kernel
theorem dX3_go_0 : decode cX3_go 0 = .ok (.aload_n 0, 1) := by decide +kernel
theorem dX3_go_1 : decode cX3_go 1 = .ok (.getfield 21, 3) := by decide +kernel
theorem dX3_go_4 : decode cX3_go 4 = .ok (.invokevirtual 36, 3) := by decide +kernel
theorem dX3_go_7 : decode cX3_go 7 = .ok (.aload_n 0, 1) := by decide +kernel
theorem dX3_go_8 : decode cX3_go 8 = .ok (.getfield 12, 3) := by decide +kernel
theorem dX3_go_11 : decode cX3_go 11 = .ok (.aload_n 1, 1) := by decide +kernel
theorem dX3_go_12 : decode cX3_go 12 = .ok (.invokevirtual 39, 3) := by decide +kernel
theorem dX3_go_15 : decode cX3_go 15 = .ok (.aload_n 0, 1) := by decide +kernel
theorem dX3_go_16 : decode cX3_go 16 = .ok (.iload_n 3, 1) := by decide +kernel
theorem dX3_go_17 : decode cX3_go 17 = .ok (.putfield 43, 3) := by decide +kernel
theorem dX3_go_20 : decode cX3_go 20 = .ok (.aload_n 0, 1) := by decide +kernel
theorem dX3_go_21 : decode cX3_go 21 = .ok (.iconst 0, 1) := by decide +kernel
theorem dX3_go_22 : decode cX3_go 22 = .ok (.putfield 47, 3) := by decide +kernel
theorem dX3_go_25 : decode cX3_go 25 = .ok (.aload_n 0, 1) := by decide +kernel
theorem dX3_go_26 : decode cX3_go 26 = .ok (.iconst 0, 1) := by decide +kernel
theorem dX3_go_27 : decode cX3_go 27 = .ok (.putfield 50, 3) := by decide +kernel
theorem dX3_go_30 : decode cX3_go 30 = .ok (.aload_n 0, 1) := by decide +kernel
theorem dX3_go_31 : decode cX3_go 31 = .ok (.iconst 0, 1) := by decide +kernel
theorem dX3_go_32 : decode cX3_go 32 = .ok (.putfield 53, 3) := by decide +kernel
theorem dX3_go_35 : decode cX3_go 35 = .ok (.aload_n 0, 1) := by decide +kernel
theorem dX3_go_36 : decode cX3_go 36 = .ok (.aconst_null, 1) := by decide +kernel
theorem dX3_go_37 : decode cX3_go 37 = .ok (.putfield 56, 3) := by decide +kernel
theorem dX3_go_40 : decode cX3_go 40 = .ok (.aload_n 0, 1) := by decide +kernel
theorem dX3_go_41 : decode cX3_go 41 = .ok (.iconst 0, 1) := by decide +kernel
theorem dX3_go_42 : decode cX3_go 42 = .ok (.putfield 60, 3) := by decide +kernel
theorem dX3_go_45 : decode cX3_go 45 = .ok (.aload_n 0, 1) := by decide +kernel
theorem dX3_go_46 : decode cX3_go 46 = .ok (.iconst 0, 1) := by decide +kernel
theorem dX3_go_47 : decode cX3_go 47 = .ok (.invokevirtual 63, 3) := by decide +kernel
theorem dX3_go_50 : decode cX3_go 50 = .ok (.iconst 0, 1) := by decide +kernel
theorem dX3_go_51 : decode cX3_go 51 = .ok (.istore 4, 2) := by decide +kernel
theorem dX3_go_53 : decode cX3_go 53 = .ok (.iload 4, 2) := by decide +kernel
theorem dX3_go_55 : decode cX3_go 55 = .ok (.iload_n 2, 1) := by decide +kernel
theorem dX3_go_56 : decode cX3_go 56 = .ok (.if_icmp .ge 43, 3) := by decide +kernel
theorem dX3_go_59 : decode cX3_go 59 = .ok (.aload_n 0, 1) := by decide +kernel
theorem dX3_go_60 : decode cX3_go 60 = .ok (.getfield 60, 3) := by decide +kernel
theorem dX3_go_63 : decode cX3_go 63 = .ok (.ifCond .ne 36, 3) := by decide +kernel
theorem dX3_go_66 : decode cX3_go 66 = .ok (.aload_n 0, 1) := by decide +kernel
theorem dX3_go_67 : decode cX3_go 67 = .ok (.getfield 28, 3) := by decide +kernel
theorem dX3_go_70 : decode cX3_go 70 = .ok (.aload_n 0, 1) := by decide +kernel
theorem dX3_go_71 : decode cX3_go 71 = .ok (.getfield 32, 3) := by decide +kernel
theorem dX3_go_74 : decode cX3_go 74 = .ok (.aload_n 0, 1) := by decide +kernel
theorem dX3_go_75 : decode cX3_go 75 = .ok (.getfield 67, 3) := by decide +kernel
theorem dX3_go_78 : decode cX3_go 78 = .ok (.aload_n 0, 1) := by decide +kernel
theorem dX3_go_79 : decode cX3_go 79 = .ok (.getfield 12, 3) := by decide +kernel
theorem dX3_go_82 : decode cX3_go 82 = .ok (.invokevirtual 70, 3) := by decide +kernel
theorem dX3_go_85 : decode cX3_go 85 = .ok (.aload_n 0, 1) := by decide +kernel
theorem dX3_go_86 : decode cX3_go 86 = .ok (.invokevirtual 74, 3) := by decide +kernel
theorem dX3_go_89 : decode cX3_go 89 = .ok (.aload_n 0, 1) := by decide +kernel
theorem dX3_go_90 : decode cX3_go 90 = .ok (.invokevirtual 77, 3) := by decide +kernel
theorem dX3_go_93 : decode cX3_go 93 = .ok (.iinc 4 1, 3) := by decide +kernel
theorem dX3_go_96 : decode cX3_go 96 = .ok (.goto (-43), 3) := by decide +kernel
theorem dX3_go_99 : decode cX3_go 99 = .ok (.aload_n 0, 1) := by decide +kernel
theorem dX3_go_100 : decode cX3_go 100 = .ok (.getfield 21, 3) := by decide +kernel
theorem dX3_go_103 : decode cX3_go 103 = .ok (.invokevirtual 80, 3) := by decide +kernel
theorem dX3_go_106 : decode cX3_go 106 = .ok (.return_, 1) := by decide +kernel
theorem dX3_moveTo_0 : decode cX3_moveTo 0 = .ok (.aload_n 0, 1) := by decide +kernel
theorem dX3_moveTo_1 : decode cX3_moveTo 1 = .ok (.iload_n 1, 1) := by decide +kernel
theorem dX3_moveTo_2 : decode cX3_moveTo 2 = .ok (.putfield 67, 3) := by decide +kernel
theorem dX3_moveTo_5 : decode cX3_moveTo 5 = .ok (.aload_n 0, 1) := by decide +kernel
theorem dX3_moveTo_6 : decode cX3_moveTo 6 = .ok (.getfield 32, 3) := by decide +kernel
theorem dX3_moveTo_9 : decode cX3_moveTo 9 = .ok (.iload_n 1, 1) := by decide +kernel
theorem dX3_moveTo_10 : decode cX3_moveTo 10 = .ok (.invokevirtual 83, 3) := by decide +kernel
theorem dX3_moveTo_13 : decode cX3_moveTo 13 = .ok (.ifCond .ne 8, 3) := by decide +kernel
theorem dX3_moveTo_16 : decode cX3_moveTo 16 = .ok (.aload_n 0, 1) := by decide +kernel
theorem dX3_moveTo_17 : decode cX3_moveTo 17 = .ok (.iconst 2, 1) := by decide +kernel
theorem dX3_moveTo_18 : decode cX3_moveTo 18 = .ok (.putfield 60, 3) := by decide +kernel
theorem dX3_moveTo_21 : decode cX3_moveTo 21 = .ok (.return_, 1) := by decide +kernel
theorem dX3_getReady_0 : decode cX3_getReady 0 = .ok (.aload_n 0, 1) := by decide +kernel
theorem dX3_getReady_1 : decode cX3_getReady 1 = .ok (.invokevirtual 89, 3) := by decide +kernel
theorem dX3_getReady_4 : decode cX3_getReady 4 = .ok (.aload_n 0, 1) := by decide +kernel
theorem dX3_getReady_5 : decode cX3_getReady 5 = .ok (.getfield 21, 3) := by decide +kernel
theorem dX3_getReady_8 : decode cX3_getReady 8 = .ok (.getfield 92, 3) := by decide +kernel
theorem dX3_getReady_11 : decode cX3_getReady 11 = .ok (.ifnonnull 26, 3) := by decide +kernel
theorem dX3_getReady_14 : decode cX3_getReady 14 = .ok (.aload_n 0, 1) := by decide +kernel
theorem dX3_getReady_15 : decode cX3_getReady 15 = .ok (.getfield 56, 3) := by decide +kernel
theorem dX3_getReady_18 : decode cX3_getReady 18 = .ok (.ifnonnull 19, 3) := by decide +kernel
theorem dX3_getReady_21 : decode cX3_getReady 21 = .ok (.aload_n 0, 1) := by decide +kernel
theorem dX3_getReady_22 : decode cX3_getReady 22 = .ok (.aload_n 0, 1) := by decide +kernel
theorem dX3_getReady_23 : decode cX3_getReady 23 = .ok (.getfield 21, 3) := by decide +kernel
theorem dX3_getReady_26 : decode cX3_getReady 26 = .ok (.getfield 95, 3) := by decide +kernel
theorem dX3_getReady_29 : decode cX3_getReady 29 = .ok (.aload_n 0, 1) := by decide +kernel
theorem dX3_getReady_30 : decode cX3_getReady 30 = .ok (.getfield 67, 3) := by decide +kernel
theorem dX3_getReady_33 : decode cX3_getReady 33 = .ok (.aaload, 1) := by decide +kernel
theorem dX3_getReady_34 : decode cX3_getReady 34 = .ok (.invokevirtual 99, 3) := by decide +kernel
theorem dX3_getReady_37 : decode cX3_getReady 37 = .ok (.iconst 0, 1) := by decide +kernel
theorem dX3_getReady_38 : decode cX3_getReady 38 = .ok (.istore_n 1, 1) := by decide +kernel
theorem dX3_getReady_39 : decode cX3_getReady 39 = .ok (.iload_n 1, 1) := by decide +kernel
theorem dX3_getReady_40 : decode cX3_getReady 40 = .ok (.bipush 8, 2) := by decide +kernel
theorem dX3_getReady_42 : decode cX3_getReady 42 = .ok (.if_icmp .ge 42, 3) := by decide +kernel
theorem dX3_getReady_45 : decode cX3_getReady 45 = .ok (.aload_n 0, 1) := by decide +kernel
theorem dX3_getReady_46 : decode cX3_getReady 46 = .ok (.getfield 56, 3) := by decide +kernel
theorem dX3_getReady_49 : decode cX3_getReady 49 = .ok (.ifnull 35, 3) := by decide +kernel
theorem dX3_getReady_52 : decode cX3_getReady 52 = .ok (.aload_n 0, 1) := by decide +kernel
theorem dX3_getReady_53 : decode cX3_getReady 53 = .ok (.getfield 56, 3) := by decide +kernel
theorem dX3_getReady_56 : decode cX3_getReady 56 = .ok (.aload_n 0, 1) := by decide +kernel
theorem dX3_getReady_57 : decode cX3_getReady 57 = .ok (.getfield 103, 3) := by decide +kernel
theorem dX3_getReady_60 : decode cX3_getReady 60 = .ok (.aload_n 0, 1) := by decide +kernel
theorem dX3_getReady_61 : decode cX3_getReady 61 = .ok (.getfield 32, 3) := by decide +kernel
theorem dX3_getReady_64 : decode cX3_getReady 64 = .ok (.aload_n 0, 1) := by decide +kernel
theorem dX3_getReady_65 : decode cX3_getReady 65 = .ok (.getfield 28, 3) := by decide +kernel
theorem dX3_getReady_68 : decode cX3_getReady 68 = .ok (.invokevirtual 106, 3) := by decide +kernel
theorem dX3_getReady_71 : decode cX3_getReady 71 = .ok (.ifCond .eq 13, 3) := by decide +kernel
theorem dX3_getReady_74 : decode cX3_getReady 74 = .ok (.aload_n 0, 1) := by decide +kernel
theorem dX3_getReady_75 : decode cX3_getReady 75 = .ok (.invokevirtual 112, 3) := by decide +kernel
theorem dX3_getReady_78 : decode cX3_getReady 78 = .ok (.iinc 1 1, 3) := by decide +kernel
theorem dX3_getReady_81 : decode cX3_getReady 81 = .ok (.goto (-42), 3) := by decide +kernel
theorem dX3_getReady_84 : decode cX3_getReady 84 = .ok (.return_, 1) := by decide +kernel
theorem dX3_judgeRecording_0 : decode cX3_judgeRecording 0 = .ok (.aload_n 0, 1) := by decide +kernel
theorem dX3_judgeRecording_1 : decode cX3_judgeRecording 1 = .ok (.getfield 21, 3) := by decide +kernel
theorem dX3_judgeRecording_4 : decode cX3_judgeRecording 4 = .ok (.getfield 92, 3) := by decide +kernel
theorem dX3_judgeRecording_7 : decode cX3_judgeRecording 7 = .ok (.astore_n 1, 1) := by decide +kernel
theorem dX3_judgeRecording_8 : decode cX3_judgeRecording 8 = .ok (.aload_n 1, 1) := by decide +kernel
theorem dX3_judgeRecording_9 : decode cX3_judgeRecording 9 = .ok (.ifnonnull 4, 3) := by decide +kernel
theorem dX3_judgeRecording_12 : decode cX3_judgeRecording 12 = .ok (.return_, 1) := by decide +kernel
theorem dX3_judgeRecording_13 : decode cX3_judgeRecording 13 = .ok (.aload_n 0, 1) := by decide +kernel
theorem dX3_judgeRecording_14 : decode cX3_judgeRecording 14 = .ok (.getfield 67, 3) := by decide +kernel
theorem dX3_judgeRecording_17 : decode cX3_judgeRecording 17 = .ok (.aload_n 1, 1) := by decide +kernel
theorem dX3_judgeRecording_18 : decode cX3_judgeRecording 18 = .ok (.getfield 115, 3) := by decide +kernel
theorem dX3_judgeRecording_21 : decode cX3_judgeRecording 21 = .ok (.if_icmp .ne 20, 3) := by decide +kernel
theorem dX3_judgeRecording_24 : decode cX3_judgeRecording 24 = .ok (.aload_n 1, 1) := by decide +kernel
theorem dX3_judgeRecording_25 : decode cX3_judgeRecording 25 = .ok (.getfield 118, 3) := by decide +kernel
theorem dX3_judgeRecording_28 : decode cX3_judgeRecording 28 = .ok (.ifCond .le 44, 3) := by decide +kernel
theorem dX3_judgeRecording_31 : decode cX3_judgeRecording 31 = .ok (.aload_n 0, 1) := by decide +kernel
theorem dX3_judgeRecording_32 : decode cX3_judgeRecording 32 = .ok (.getfield 21, 3) := by decide +kernel
theorem dX3_judgeRecording_35 : decode cX3_judgeRecording 35 = .ok (.invokevirtual 121, 3) := by decide +kernel
theorem dX3_judgeRecording_38 : decode cX3_judgeRecording 38 = .ok (.goto 34, 3) := by decide +kernel
theorem dX3_judgeRecording_41 : decode cX3_judgeRecording 41 = .ok (.aload_n 1, 1) := by decide +kernel
theorem dX3_judgeRecording_42 : decode cX3_judgeRecording 42 = .ok (.getfield 118, 3) := by decide +kernel
theorem dX3_judgeRecording_45 : decode cX3_judgeRecording 45 = .ok (.bipush 16, 2) := by decide +kernel
theorem dX3_judgeRecording_47 : decode cX3_judgeRecording 47 = .ok (.if_icmp .ge 18, 3) := by decide +kernel
theorem dX3_judgeRecording_50 : decode cX3_judgeRecording 50 = .ok (.aload_n 0, 1) := by decide +kernel
theorem dX3_judgeRecording_51 : decode cX3_judgeRecording 51 = .ok (.getfield 21, 3) := by decide +kernel
theorem dX3_judgeRecording_54 : decode cX3_judgeRecording 54 = .ok (.getfield 95, 3) := by decide +kernel
theorem dX3_judgeRecording_57 : decode cX3_judgeRecording 57 = .ok (.aload_n 0, 1) := by decide +kernel
theorem dX3_judgeRecording_58 : decode cX3_judgeRecording 58 = .ok (.getfield 67, 3) := by decide +kernel
theorem dX3_judgeRecording_61 : decode cX3_judgeRecording 61 = .ok (.aaload, 1) := by decide +kernel
theorem dX3_judgeRecording_62 : decode cX3_judgeRecording 62 = .ok (.ifnull 10, 3) := by decide +kernel
theorem dX3_judgeRecording_65 : decode cX3_judgeRecording 65 = .ok (.aload_n 0, 1) := by decide +kernel
theorem dX3_judgeRecording_66 : decode cX3_judgeRecording 66 = .ok (.getfield 21, 3) := by decide +kernel
theorem dX3_judgeRecording_69 : decode cX3_judgeRecording 69 = .ok (.invokevirtual 80, 3) := by decide +kernel
theorem dX3_judgeRecording_72 : decode cX3_judgeRecording 72 = .ok (.return_, 1) := by decide +kernel
theorem dX3_begin_0 : decode cX3_begin 0 = .ok (.aload_n 0, 1) := by decide +kernel
theorem dX3_begin_1 : decode cX3_begin 1 = .ok (.aload_n 1, 1) := by decide +kernel
theorem dX3_begin_2 : decode cX3_begin 2 = .ok (.putfield 56, 3) := by decide +kernel
theorem dX3_begin_5 : decode cX3_begin 5 = .ok (.aload_n 0, 1) := by decide +kernel
theorem dX3_begin_6 : decode cX3_begin 6 = .ok (.iconst 0, 1) := by decide +kernel
theorem dX3_begin_7 : decode cX3_begin 7 = .ok (.putfield 103, 3) := by decide +kernel
theorem dX3_begin_10 : decode cX3_begin 10 = .ok (.aload_n 1, 1) := by decide +kernel
theorem dX3_begin_11 : decode cX3_begin 11 = .ok (.ifnull 13, 3) := by decide +kernel
theorem dX3_begin_14 : decode cX3_begin 14 = .ok (.aload_n 1, 1) := by decide +kernel
theorem dX3_begin_15 : decode cX3_begin 15 = .ok (.dup, 1) := by decide +kernel
theorem dX3_begin_16 : decode cX3_begin 16 = .ok (.getfield 124, 3) := by decide +kernel
theorem dX3_begin_19 : decode cX3_begin 19 = .ok (.iconst 1, 1) := by decide +kernel
theorem dX3_begin_20 : decode cX3_begin 20 = .ok (.iadd, 1) := by decide +kernel
theorem dX3_begin_21 : decode cX3_begin 21 = .ok (.putfield 124, 3) := by decide +kernel
theorem dX3_begin_24 : decode cX3_begin 24 = .ok (.return_, 1) := by decide +kernel
theorem dX3_leave_0 : decode cX3_leave 0 = .ok (.aload_n 0, 1) := by decide +kernel
theorem dX3_leave_1 : decode cX3_leave 1 = .ok (.getfield 56, 3) := by decide +kernel
theorem dX3_leave_4 : decode cX3_leave 4 = .ok (.astore_n 1, 1) := by decide +kernel
theorem dX3_leave_5 : decode cX3_leave 5 = .ok (.aload_n 0, 1) := by decide +kernel
theorem dX3_leave_6 : decode cX3_leave 6 = .ok (.getfield 103, 3) := by decide +kernel
theorem dX3_leave_9 : decode cX3_leave 9 = .ok (.istore_n 2, 1) := by decide +kernel
theorem dX3_leave_10 : decode cX3_leave 10 = .ok (.aload_n 0, 1) := by decide +kernel
theorem dX3_leave_11 : decode cX3_leave 11 = .ok (.dup, 1) := by decide +kernel
theorem dX3_leave_12 : decode cX3_leave 12 = .ok (.getfield 53, 3) := by decide +kernel
theorem dX3_leave_15 : decode cX3_leave 15 = .ok (.iconst 1, 1) := by decide +kernel
theorem dX3_leave_16 : decode cX3_leave 16 = .ok (.iadd, 1) := by decide +kernel
theorem dX3_leave_17 : decode cX3_leave 17 = .ok (.putfield 53, 3) := by decide +kernel
theorem dX3_leave_20 : decode cX3_leave 20 = .ok (.aload_n 1, 1) := by decide +kernel
theorem dX3_leave_21 : decode cX3_leave 21 = .ok (.getfield 127, 3) := by decide +kernel
theorem dX3_leave_24 : decode cX3_leave 24 = .ok (.iload_n 2, 1) := by decide +kernel
theorem dX3_leave_25 : decode cX3_leave 25 = .ok (.dup2, 1) := by decide +kernel
theorem dX3_leave_26 : decode cX3_leave 26 = .ok (.iaload, 1) := by decide +kernel
theorem dX3_leave_27 : decode cX3_leave 27 = .ok (.iconst 1, 1) := by decide +kernel
theorem dX3_leave_28 : decode cX3_leave 28 = .ok (.iadd, 1) := by decide +kernel
theorem dX3_leave_29 : decode cX3_leave 29 = .ok (.iastore, 1) := by decide +kernel
theorem dX3_leave_30 : decode cX3_leave 30 = .ok (.aload_n 0, 1) := by decide +kernel
theorem dX3_leave_31 : decode cX3_leave 31 = .ok (.aconst_null, 1) := by decide +kernel
theorem dX3_leave_32 : decode cX3_leave 32 = .ok (.putfield 56, 3) := by decide +kernel
theorem dX3_leave_35 : decode cX3_leave 35 = .ok (.aload_n 0, 1) := by decide +kernel
theorem dX3_leave_36 : decode cX3_leave 36 = .ok (.getfield 21, 3) := by decide +kernel
theorem dX3_leave_39 : decode cX3_leave 39 = .ok (.aload_n 1, 1) := by decide +kernel
theorem dX3_leave_40 : decode cX3_leave 40 = .ok (.getfield 131, 3) := by decide +kernel
theorem dX3_leave_43 : decode cX3_leave 43 = .ok (.iload_n 2, 1) := by decide +kernel
theorem dX3_leave_44 : decode cX3_leave 44 = .ok (.iaload, 1) := by decide +kernel
theorem dX3_leave_45 : decode cX3_leave 45 = .ok (.invokevirtual 134, 3) := by decide +kernel
theorem dX3_leave_48 : decode cX3_leave 48 = .ok (.ifCond .eq 24, 3) := by decide +kernel
theorem dX3_leave_51 : decode cX3_leave 51 = .ok (.aload_n 0, 1) := by decide +kernel
theorem dX3_leave_52 : decode cX3_leave 52 = .ok (.aload_n 0, 1) := by decide +kernel
theorem dX3_leave_53 : decode cX3_leave 53 = .ok (.getfield 21, 3) := by decide +kernel
theorem dX3_leave_56 : decode cX3_leave 56 = .ok (.getfield 137, 3) := by decide +kernel
theorem dX3_leave_59 : decode cX3_leave 59 = .ok (.aload_n 1, 1) := by decide +kernel
theorem dX3_leave_60 : decode cX3_leave 60 = .ok (.getfield 131, 3) := by decide +kernel
theorem dX3_leave_63 : decode cX3_leave 63 = .ok (.iload_n 2, 1) := by decide +kernel
theorem dX3_leave_64 : decode cX3_leave 64 = .ok (.iaload, 1) := by decide +kernel
theorem dX3_leave_65 : decode cX3_leave 65 = .ok (.aaload, 1) := by decide +kernel
theorem dX3_leave_66 : decode cX3_leave 66 = .ok (.invokevirtual 99, 3) := by decide +kernel
theorem dX3_leave_69 : decode cX3_leave 69 = .ok (.goto 76, 3) := by decide +kernel
theorem dX3_leave_72 : decode cX3_leave 72 = .ok (.aload_n 1, 1) := by decide +kernel
theorem dX3_leave_73 : decode cX3_leave 73 = .ok (.getfield 127, 3) := by decide +kernel
theorem dX3_leave_76 : decode cX3_leave 76 = .ok (.iload_n 2, 1) := by decide +kernel
theorem dX3_leave_77 : decode cX3_leave 77 = .ok (.iaload, 1) := by decide +kernel
theorem dX3_leave_78 : decode cX3_leave 78 = .ok (.aload_n 0, 1) := by decide +kernel
theorem dX3_leave_79 : decode cX3_leave 79 = .ok (.getfield 43, 3) := by decide +kernel
theorem dX3_leave_82 : decode cX3_leave 82 = .ok (.if_icmp .ne 63, 3) := by decide +kernel
theorem dX3_leave_85 : decode cX3_leave 85 = .ok (.aload_n 0, 1) := by decide +kernel
theorem dX3_leave_86 : decode cX3_leave 86 = .ok (.getfield 21, 3) := by decide +kernel
theorem dX3_leave_89 : decode cX3_leave 89 = .ok (.aload_n 1, 1) := by decide +kernel
theorem dX3_leave_90 : decode cX3_leave 90 = .ok (.getfield 115, 3) := by decide +kernel
theorem dX3_leave_93 : decode cX3_leave 93 = .ok (.invokevirtual 140, 3) := by decide +kernel
theorem dX3_leave_96 : decode cX3_leave 96 = .ok (.ifCond .eq 49, 3) := by decide +kernel
theorem dX3_leave_99 : decode cX3_leave 99 = .ok (.aload_n 0, 1) := by decide +kernel
theorem dX3_leave_100 : decode cX3_leave 100 = .ok (.getfield 21, 3) := by decide +kernel
theorem dX3_leave_103 : decode cX3_leave 103 = .ok (.aload_n 1, 1) := by decide +kernel
theorem dX3_leave_104 : decode cX3_leave 104 = .ok (.getfield 115, 3) := by decide +kernel
theorem dX3_leave_107 : decode cX3_leave 107 = .ok (.aload_n 1, 1) := by decide +kernel
theorem dX3_leave_108 : decode cX3_leave 108 = .ok (.getfield 143, 3) := by decide +kernel
theorem dX3_leave_111 : decode cX3_leave 111 = .ok (.iload_n 2, 1) := by decide +kernel
theorem dX3_leave_112 : decode cX3_leave 112 = .ok (.invokevirtual 146, 3) := by decide +kernel
theorem dX3_leave_115 : decode cX3_leave 115 = .ok (.aload_n 0, 1) := by decide +kernel
theorem dX3_leave_116 : decode cX3_leave 116 = .ok (.invokevirtual 89, 3) := by decide +kernel
theorem dX3_leave_119 : decode cX3_leave 119 = .ok (.aload_n 0, 1) := by decide +kernel
theorem dX3_leave_120 : decode cX3_leave 120 = .ok (.getfield 21, 3) := by decide +kernel
theorem dX3_leave_123 : decode cX3_leave 123 = .ok (.getfield 92, 3) := by decide +kernel
theorem dX3_leave_126 : decode cX3_leave 126 = .ok (.ifnonnull 19, 3) := by decide +kernel
theorem dX3_leave_129 : decode cX3_leave 129 = .ok (.aload_n 0, 1) := by decide +kernel
theorem dX3_leave_130 : decode cX3_leave 130 = .ok (.aload_n 0, 1) := by decide +kernel
theorem dX3_leave_131 : decode cX3_leave 131 = .ok (.getfield 21, 3) := by decide +kernel
theorem dX3_leave_134 : decode cX3_leave 134 = .ok (.getfield 95, 3) := by decide +kernel
theorem dX3_leave_137 : decode cX3_leave 137 = .ok (.aload_n 0, 1) := by decide +kernel
theorem dX3_leave_138 : decode cX3_leave 138 = .ok (.getfield 67, 3) := by decide +kernel
theorem dX3_leave_141 : decode cX3_leave 141 = .ok (.aaload, 1) := by decide +kernel
theorem dX3_leave_142 : decode cX3_leave 142 = .ok (.invokevirtual 99, 3) := by decide +kernel
theorem dX3_leave_145 : decode cX3_leave 145 = .ok (.return_, 1) := by decide +kernel
theorem dX3_doStep_0 : decode cX3_doStep 0 = .ok (.aload_n 0, 1) := by decide +kernel
theorem dX3_doStep_1 : decode cX3_doStep 1 = .ok (.getfield 67, 3) := by decide +kernel
theorem dX3_doStep_4 : decode cX3_doStep 4 = .ok (.istore_n 1, 1) := by decide +kernel
theorem dX3_doStep_5 : decode cX3_doStep 5 = .ok (.aload_n 0, 1) := by decide +kernel
theorem dX3_doStep_6 : decode cX3_doStep 6 = .ok (.dup, 1) := by decide +kernel
theorem dX3_doStep_7 : decode cX3_doStep 7 = .ok (.getfield 47, 3) := by decide +kernel
theorem dX3_doStep_10 : decode cX3_doStep 10 = .ok (.iconst 1, 1) := by decide +kernel
theorem dX3_doStep_11 : decode cX3_doStep 11 = .ok (.iadd, 1) := by decide +kernel
theorem dX3_doStep_12 : decode cX3_doStep 12 = .ok (.putfield 47, 3) := by decide +kernel
theorem dX3_doStep_15 : decode cX3_doStep 15 = .ok (.aload_n 0, 1) := by decide +kernel
theorem dX3_doStep_16 : decode cX3_doStep 16 = .ok (.getfield 56, 3) := by decide +kernel
theorem dX3_doStep_19 : decode cX3_doStep 19 = .ok (.ifnull 13, 3) := by decide +kernel
theorem dX3_doStep_22 : decode cX3_doStep 22 = .ok (.aload_n 0, 1) := by decide +kernel
theorem dX3_doStep_23 : decode cX3_doStep 23 = .ok (.dup, 1) := by decide +kernel
theorem dX3_doStep_24 : decode cX3_doStep 24 = .ok (.getfield 50, 3) := by decide +kernel
theorem dX3_doStep_27 : decode cX3_doStep 27 = .ok (.iconst 1, 1) := by decide +kernel
theorem dX3_doStep_28 : decode cX3_doStep 28 = .ok (.iadd, 1) := by decide +kernel
theorem dX3_doStep_29 : decode cX3_doStep 29 = .ok (.putfield 50, 3) := by decide +kernel
theorem dX3_doStep_32 : decode cX3_doStep 32 = .ok (.aload_n 0, 1) := by decide +kernel
theorem dX3_doStep_33 : decode cX3_doStep 33 = .ok (.getfield 21, 3) := by decide +kernel
theorem dX3_doStep_36 : decode cX3_doStep 36 = .ok (.getfield 92, 3) := by decide +kernel
theorem dX3_doStep_39 : decode cX3_doStep 39 = .ok (.ifnull 18, 3) := by decide +kernel
theorem dX3_doStep_42 : decode cX3_doStep 42 = .ok (.aload_n 0, 1) := by decide +kernel
theorem dX3_doStep_43 : decode cX3_doStep 43 = .ok (.getfield 21, 3) := by decide +kernel
theorem dX3_doStep_46 : decode cX3_doStep 46 = .ok (.getfield 92, 3) := by decide +kernel
theorem dX3_doStep_49 : decode cX3_doStep 49 = .ok (.iload_n 1, 1) := by decide +kernel
theorem dX3_doStep_50 : decode cX3_doStep 50 = .ok (.aload_n 0, 1) := by decide +kernel
theorem dX3_doStep_51 : decode cX3_doStep 51 = .ok (.getfield 28, 3) := by decide +kernel
theorem dX3_doStep_54 : decode cX3_doStep 54 = .ok (.invokevirtual 150, 3) := by decide +kernel
theorem dX3_doStep_57 : decode cX3_doStep 57 = .ok (.aload_n 0, 1) := by decide +kernel
theorem dX3_doStep_58 : decode cX3_doStep 58 = .ok (.getfield 32, 3) := by decide +kernel
theorem dX3_doStep_61 : decode cX3_doStep 61 = .ok (.iload_n 1, 1) := by decide +kernel
theorem dX3_doStep_62 : decode cX3_doStep 62 = .ok (.invokevirtual 154, 3) := by decide +kernel
theorem dX3_doStep_65 : decode cX3_doStep 65 = .ok (.ifCond .eq 32, 3) := by decide +kernel
theorem dX3_doStep_68 : decode cX3_doStep 68 = .ok (.aload_n 0, 1) := by decide +kernel
theorem dX3_doStep_69 : decode cX3_doStep 69 = .ok (.getfield 12, 3) := by decide +kernel
theorem dX3_doStep_72 : decode cX3_doStep 72 = .ok (.aload_n 0, 1) := by decide +kernel
theorem dX3_doStep_73 : decode cX3_doStep 73 = .ok (.getfield 32, 3) := by decide +kernel
theorem dX3_doStep_76 : decode cX3_doStep 76 = .ok (.iload_n 1, 1) := by decide +kernel
theorem dX3_doStep_77 : decode cX3_doStep 77 = .ok (.invokevirtual 157, 3) := by decide +kernel
theorem dX3_doStep_80 : decode cX3_doStep 80 = .ok (.aload_n 0, 1) := by decide +kernel
theorem dX3_doStep_81 : decode cX3_doStep 81 = .ok (.getfield 28, 3) := by decide +kernel
theorem dX3_doStep_84 : decode cX3_doStep 84 = .ok (.getfield 161, 3) := by decide +kernel
theorem dX3_doStep_87 : decode cX3_doStep 87 = .ok (.aload_n 0, 1) := by decide +kernel
theorem dX3_doStep_88 : decode cX3_doStep 88 = .ok (.getfield 28, 3) := by decide +kernel
theorem dX3_doStep_91 : decode cX3_doStep 91 = .ok (.getfield 164, 3) := by decide +kernel
theorem dX3_doStep_94 : decode cX3_doStep 94 = .ok (.invokevirtual 167, 3) := by decide +kernel
theorem dX3_doStep_97 : decode cX3_doStep 97 = .ok (.aload_n 0, 1) := by decide +kernel
theorem dX3_doStep_98 : decode cX3_doStep 98 = .ok (.getfield 32, 3) := by decide +kernel
theorem dX3_doStep_101 : decode cX3_doStep 101 = .ok (.getfield 170, 3) := by decide +kernel
theorem dX3_doStep_104 : decode cX3_doStep 104 = .ok (.iload_n 1, 1) := by decide +kernel
theorem dX3_doStep_105 : decode cX3_doStep 105 = .ok (.iaload, 1) := by decide +kernel
theorem dX3_doStep_106 : decode cX3_doStep 106 = .ok (.bipush 9, 2) := by decide +kernel
theorem dX3_doStep_108 : decode cX3_doStep 108 = .ok (.if_icmp .ne 9, 3) := by decide +kernel
theorem dX3_doStep_111 : decode cX3_doStep 111 = .ok (.aload_n 0, 1) := by decide +kernel
theorem dX3_doStep_112 : decode cX3_doStep 112 = .ok (.iconst 1, 1) := by decide +kernel
theorem dX3_doStep_113 : decode cX3_doStep 113 = .ok (.putfield 60, 3) := by decide +kernel
theorem dX3_doStep_116 : decode cX3_doStep 116 = .ok (.return_, 1) := by decide +kernel
theorem dX3_doStep_117 : decode cX3_doStep 117 = .ok (.aload_n 0, 1) := by decide +kernel
theorem dX3_doStep_118 : decode cX3_doStep 118 = .ok (.aload_n 0, 1) := by decide +kernel
theorem dX3_doStep_119 : decode cX3_doStep 119 = .ok (.getfield 28, 3) := by decide +kernel
theorem dX3_doStep_122 : decode cX3_doStep 122 = .ok (.getfield 172, 3) := by decide +kernel
theorem dX3_doStep_125 : decode cX3_doStep 125 = .ok (.ifCond .eq 15, 3) := by decide +kernel
theorem dX3_doStep_128 : decode cX3_doStep 128 = .ok (.aload_n 0, 1) := by decide +kernel
theorem dX3_doStep_129 : decode cX3_doStep 129 = .ok (.getfield 32, 3) := by decide +kernel
theorem dX3_doStep_132 : decode cX3_doStep 132 = .ok (.getfield 176, 3) := by decide +kernel
theorem dX3_doStep_135 : decode cX3_doStep 135 = .ok (.iload_n 1, 1) := by decide +kernel
theorem dX3_doStep_136 : decode cX3_doStep 136 = .ok (.iaload, 1) := by decide +kernel
theorem dX3_doStep_137 : decode cX3_doStep 137 = .ok (.goto 6, 3) := by decide +kernel
theorem dX3_doStep_140 : decode cX3_doStep 140 = .ok (.iload_n 1, 1) := by decide +kernel
theorem dX3_doStep_141 : decode cX3_doStep 141 = .ok (.iconst 1, 1) := by decide +kernel
theorem dX3_doStep_142 : decode cX3_doStep 142 = .ok (.iadd, 1) := by decide +kernel
theorem dX3_doStep_143 : decode cX3_doStep 143 = .ok (.invokevirtual 63, 3) := by decide +kernel
theorem dX3_doStep_146 : decode cX3_doStep 146 = .ok (.aload_n 0, 1) := by decide +kernel
theorem dX3_doStep_147 : decode cX3_doStep 147 = .ok (.aload_n 0, 1) := by decide +kernel
theorem dX3_doStep_148 : decode cX3_doStep 148 = .ok (.getfield 28, 3) := by decide +kernel
theorem dX3_doStep_151 : decode cX3_doStep 151 = .ok (.getfield 172, 3) := by decide +kernel
theorem dX3_doStep_154 : decode cX3_doStep 154 = .ok (.ifCond .eq 15, 3) := by decide +kernel
theorem dX3_doStep_157 : decode cX3_doStep 157 = .ok (.aload_n 0, 1) := by decide +kernel
theorem dX3_doStep_158 : decode cX3_doStep 158 = .ok (.getfield 67, 3) := by decide +kernel
theorem dX3_doStep_161 : decode cX3_doStep 161 = .ok (.iload_n 1, 1) := by decide +kernel
theorem dX3_doStep_162 : decode cX3_doStep 162 = .ok (.if_icmp .gt 7, 3) := by decide +kernel
theorem dX3_doStep_165 : decode cX3_doStep 165 = .ok (.iconst 1, 1) := by decide +kernel
theorem dX3_doStep_166 : decode cX3_doStep 166 = .ok (.goto 4, 3) := by decide +kernel
theorem dX3_doStep_169 : decode cX3_doStep 169 = .ok (.iconst 0, 1) := by decide +kernel
theorem dX3_doStep_170 : decode cX3_doStep 170 = .ok (.invokevirtual 179, 3) := by decide +kernel
theorem dX3_doStep_173 : decode cX3_doStep 173 = .ok (.return_, 1) := by decide +kernel
theorem dX3_goOn_0 : decode cX3_goOn 0 = .ok (.aload_n 0, 1) := by decide +kernel
theorem dX3_goOn_1 : decode cX3_goOn 1 = .ok (.getfield 21, 3) := by decide +kernel
theorem dX3_goOn_4 : decode cX3_goOn 4 = .ok (.getfield 92, 3) := by decide +kernel
theorem dX3_goOn_7 : decode cX3_goOn 7 = .ok (.astore_n 2, 1) := by decide +kernel
theorem dX3_goOn_8 : decode cX3_goOn 8 = .ok (.aload_n 0, 1) := by decide +kernel
theorem dX3_goOn_9 : decode cX3_goOn 9 = .ok (.getfield 56, 3) := by decide +kernel
theorem dX3_goOn_12 : decode cX3_goOn 12 = .ok (.ifnull 49, 3) := by decide +kernel
theorem dX3_goOn_15 : decode cX3_goOn 15 = .ok (.aload_n 0, 1) := by decide +kernel
theorem dX3_goOn_16 : decode cX3_goOn 16 = .ok (.dup, 1) := by decide +kernel
theorem dX3_goOn_17 : decode cX3_goOn 17 = .ok (.getfield 103, 3) := by decide +kernel
theorem dX3_goOn_20 : decode cX3_goOn 20 = .ok (.iconst 1, 1) := by decide +kernel
theorem dX3_goOn_21 : decode cX3_goOn 21 = .ok (.iadd, 1) := by decide +kernel
theorem dX3_goOn_22 : decode cX3_goOn 22 = .ok (.putfield 103, 3) := by decide +kernel
theorem dX3_goOn_25 : decode cX3_goOn 25 = .ok (.aload_n 0, 1) := by decide +kernel
theorem dX3_goOn_26 : decode cX3_goOn 26 = .ok (.getfield 103, 3) := by decide +kernel
theorem dX3_goOn_29 : decode cX3_goOn 29 = .ok (.aload_n 0, 1) := by decide +kernel
theorem dX3_goOn_30 : decode cX3_goOn 30 = .ok (.getfield 56, 3) := by decide +kernel
theorem dX3_goOn_33 : decode cX3_goOn 33 = .ok (.getfield 118, 3) := by decide +kernel
theorem dX3_goOn_36 : decode cX3_goOn 36 = .ok (.if_icmp .lt 62, 3) := by decide +kernel
theorem dX3_goOn_39 : decode cX3_goOn 39 = .ok (.aload_n 0, 1) := by decide +kernel
theorem dX3_goOn_40 : decode cX3_goOn 40 = .ok (.aload_n 0, 1) := by decide +kernel
theorem dX3_goOn_41 : decode cX3_goOn 41 = .ok (.getfield 21, 3) := by decide +kernel
theorem dX3_goOn_44 : decode cX3_goOn 44 = .ok (.getfield 95, 3) := by decide +kernel
theorem dX3_goOn_47 : decode cX3_goOn 47 = .ok (.aload_n 0, 1) := by decide +kernel
theorem dX3_goOn_48 : decode cX3_goOn 48 = .ok (.getfield 56, 3) := by decide +kernel
theorem dX3_goOn_51 : decode cX3_goOn 51 = .ok (.getfield 115, 3) := by decide +kernel
theorem dX3_goOn_54 : decode cX3_goOn 54 = .ok (.aaload, 1) := by decide +kernel
theorem dX3_goOn_55 : decode cX3_goOn 55 = .ok (.invokevirtual 99, 3) := by decide +kernel
theorem dX3_goOn_58 : decode cX3_goOn 58 = .ok (.goto 40, 3) := by decide +kernel
theorem dX3_goOn_61 : decode cX3_goOn 61 = .ok (.aload_n 2, 1) := by decide +kernel
theorem dX3_goOn_62 : decode cX3_goOn 62 = .ok (.ifnull 28, 3) := by decide +kernel
theorem dX3_goOn_65 : decode cX3_goOn 65 = .ok (.iload_n 1, 1) := by decide +kernel
theorem dX3_goOn_66 : decode cX3_goOn 66 = .ok (.ifCond .eq 32, 3) := by decide +kernel
theorem dX3_goOn_69 : decode cX3_goOn 69 = .ok (.aload_n 0, 1) := by decide +kernel
theorem dX3_goOn_70 : decode cX3_goOn 70 = .ok (.getfield 67, 3) := by decide +kernel
theorem dX3_goOn_73 : decode cX3_goOn 73 = .ok (.aload_n 2, 1) := by decide +kernel
theorem dX3_goOn_74 : decode cX3_goOn 74 = .ok (.getfield 115, 3) := by decide +kernel
theorem dX3_goOn_77 : decode cX3_goOn 77 = .ok (.if_icmp .eq 21, 3) := by decide +kernel
theorem dX3_goOn_80 : decode cX3_goOn 80 = .ok (.aload_n 0, 1) := by decide +kernel
theorem dX3_goOn_81 : decode cX3_goOn 81 = .ok (.getfield 21, 3) := by decide +kernel
theorem dX3_goOn_84 : decode cX3_goOn 84 = .ok (.invokevirtual 80, 3) := by decide +kernel
theorem dX3_goOn_87 : decode cX3_goOn 87 = .ok (.goto 11, 3) := by decide +kernel
theorem dX3_goOn_90 : decode cX3_goOn 90 = .ok (.iload_n 1, 1) := by decide +kernel
theorem dX3_goOn_91 : decode cX3_goOn 91 = .ok (.ifCond .eq 7, 3) := by decide +kernel
theorem dX3_goOn_94 : decode cX3_goOn 94 = .ok (.aload_n 0, 1) := by decide +kernel
theorem dX3_goOn_95 : decode cX3_goOn 95 = .ok (.invokevirtual 183, 3) := by decide +kernel
theorem dX3_goOn_98 : decode cX3_goOn 98 = .ok (.return_, 1) := by decide +kernel
theorem dX3_warm_0 : decode cX3_warm 0 = .ok (.aload_n 0, 1) := by decide +kernel
theorem dX3_warm_1 : decode cX3_warm 1 = .ok (.getfield 21, 3) := by decide +kernel
theorem dX3_warm_4 : decode cX3_warm 4 = .ok (.getfield 186, 3) := by decide +kernel
theorem dX3_warm_7 : decode cX3_warm 7 = .ok (.aload_n 0, 1) := by decide +kernel
theorem dX3_warm_8 : decode cX3_warm 8 = .ok (.getfield 67, 3) := by decide +kernel
theorem dX3_warm_11 : decode cX3_warm 11 = .ok (.dup2, 1) := by decide +kernel
theorem dX3_warm_12 : decode cX3_warm 12 = .ok (.iaload, 1) := by decide +kernel
theorem dX3_warm_13 : decode cX3_warm 13 = .ok (.iconst 1, 1) := by decide +kernel
theorem dX3_warm_14 : decode cX3_warm 14 = .ok (.iadd, 1) := by decide +kernel
theorem dX3_warm_15 : decode cX3_warm 15 = .ok (.iastore, 1) := by decide +kernel
theorem dX3_warm_16 : decode cX3_warm 16 = .ok (.aload_n 0, 1) := by decide +kernel
theorem dX3_warm_17 : decode cX3_warm 17 = .ok (.getfield 21, 3) := by decide +kernel
theorem dX3_warm_20 : decode cX3_warm 20 = .ok (.getfield 186, 3) := by decide +kernel
theorem dX3_warm_23 : decode cX3_warm 23 = .ok (.aload_n 0, 1) := by decide +kernel
theorem dX3_warm_24 : decode cX3_warm 24 = .ok (.getfield 67, 3) := by decide +kernel
theorem dX3_warm_27 : decode cX3_warm 27 = .ok (.iaload, 1) := by decide +kernel
theorem dX3_warm_28 : decode cX3_warm 28 = .ok (.aload_n 0, 1) := by decide +kernel
theorem dX3_warm_29 : decode cX3_warm 29 = .ok (.getfield 43, 3) := by decide +kernel
theorem dX3_warm_32 : decode cX3_warm 32 = .ok (.if_icmp .ne 45, 3) := by decide +kernel
theorem dX3_warm_35 : decode cX3_warm 35 = .ok (.aload_n 0, 1) := by decide +kernel
theorem dX3_warm_36 : decode cX3_warm 36 = .ok (.getfield 21, 3) := by decide +kernel
theorem dX3_warm_39 : decode cX3_warm 39 = .ok (.getfield 95, 3) := by decide +kernel
theorem dX3_warm_42 : decode cX3_warm 42 = .ok (.aload_n 0, 1) := by decide +kernel
theorem dX3_warm_43 : decode cX3_warm 43 = .ok (.getfield 67, 3) := by decide +kernel
theorem dX3_warm_46 : decode cX3_warm 46 = .ok (.aaload, 1) := by decide +kernel
theorem dX3_warm_47 : decode cX3_warm 47 = .ok (.ifnonnull 30, 3) := by decide +kernel
theorem dX3_warm_50 : decode cX3_warm 50 = .ok (.aload_n 0, 1) := by decide +kernel
theorem dX3_warm_51 : decode cX3_warm 51 = .ok (.getfield 21, 3) := by decide +kernel
theorem dX3_warm_54 : decode cX3_warm 54 = .ok (.aload_n 0, 1) := by decide +kernel
theorem dX3_warm_55 : decode cX3_warm 55 = .ok (.getfield 67, 3) := by decide +kernel
theorem dX3_warm_58 : decode cX3_warm 58 = .ok (.invokevirtual 140, 3) := by decide +kernel
theorem dX3_warm_61 : decode cX3_warm 61 = .ok (.ifCond .eq 16, 3) := by decide +kernel
theorem dX3_warm_64 : decode cX3_warm 64 = .ok (.aload_n 0, 1) := by decide +kernel
theorem dX3_warm_65 : decode cX3_warm 65 = .ok (.getfield 21, 3) := by decide +kernel
theorem dX3_warm_68 : decode cX3_warm 68 = .ok (.aload_n 0, 1) := by decide +kernel
theorem dX3_warm_69 : decode cX3_warm 69 = .ok (.getfield 67, 3) := by decide +kernel
theorem dX3_warm_72 : decode cX3_warm 72 = .ok (.iconst (-1), 1) := by decide +kernel
theorem dX3_warm_73 : decode cX3_warm 73 = .ok (.iconst (-1), 1) := by decide +kernel
theorem dX3_warm_74 : decode cX3_warm 74 = .ok (.invokevirtual 146, 3) := by decide +kernel
theorem dX3_warm_77 : decode cX3_warm 77 = .ok (.return_, 1) := by decide +kernel
theorem dX4_init_0 : decode cX4_init 0 = .ok (.aload_n 0, 1) := by decide +kernel
theorem dX4_init_1 : decode cX4_init 1 = .ok (.invokespecial 3, 3) := by decide +kernel
theorem dX4_init_4 : decode cX4_init 4 = .ok (.aload_n 0, 1) := by decide +kernel
theorem dX4_init_5 : decode cX4_init 5 = .ok (.bipush 24, 2) := by decide +kernel
theorem dX4_init_7 : decode cX4_init 7 = .ok (.newarray .int, 2) := by decide +kernel
theorem dX4_init_9 : decode cX4_init 9 = .ok (.putfield 9, 3) := by decide +kernel
theorem dX4_init_12 : decode cX4_init 12 = .ok (.aload_n 0, 1) := by decide +kernel
theorem dX4_init_13 : decode cX4_init 13 = .ok (.bipush 24, 2) := by decide +kernel
theorem dX4_init_15 : decode cX4_init 15 = .ok (.newarray .int, 2) := by decide +kernel
theorem dX4_init_17 : decode cX4_init 17 = .ok (.putfield 15, 3) := by decide +kernel
theorem dX4_init_20 : decode cX4_init 20 = .ok (.aload_n 0, 1) := by decide +kernel
theorem dX4_init_21 : decode cX4_init 21 = .ok (.bipush 24, 2) := by decide +kernel
theorem dX4_init_23 : decode cX4_init 23 = .ok (.newarray .int, 2) := by decide +kernel
theorem dX4_init_25 : decode cX4_init 25 = .ok (.putfield 18, 3) := by decide +kernel
theorem dX4_init_28 : decode cX4_init 28 = .ok (.aload_n 0, 1) := by decide +kernel
theorem dX4_init_29 : decode cX4_init 29 = .ok (.bipush 24, 2) := by decide +kernel
theorem dX4_init_31 : decode cX4_init 31 = .ok (.newarray .int, 2) := by decide +kernel
theorem dX4_init_33 : decode cX4_init 33 = .ok (.putfield 21, 3) := by decide +kernel
theorem dX4_init_36 : decode cX4_init 36 = .ok (.return_, 1) := by decide +kernel
theorem dX4_allows_0 : decode cX4_allows 0 = .ok (.iload_n 0, 1) := by decide +kernel
theorem dX4_allows_1 : decode cX4_allows 1 = .ok (.ifCond .lt 47, 3) := by decide +kernel
theorem dX4_allows_4 : decode cX4_allows 4 = .ok (.iload_n 0, 1) := by decide +kernel
theorem dX4_allows_5 : decode cX4_allows 5 = .ok (.bipush 9, 2) := by decide +kernel
theorem dX4_allows_7 : decode cX4_allows 7 = .ok (.if_icmp .gt 41, 3) := by decide +kernel
theorem dX4_allows_10 : decode cX4_allows 10 = .ok (.iload_n 1, 1) := by decide +kernel
theorem dX4_allows_11 : decode cX4_allows 11 = .ok (.ifCond .lt 37, 3) := by decide +kernel
theorem dX4_allows_14 : decode cX4_allows 14 = .ok (.iload_n 1, 1) := by decide +kernel
theorem dX4_allows_15 : decode cX4_allows 15 = .ok (.bipush 24, 2) := by decide +kernel
theorem dX4_allows_17 : decode cX4_allows 17 = .ok (.if_icmp .ge 31, 3) := by decide +kernel
theorem dX4_allows_20 : decode cX4_allows 20 = .ok (.iload_n 2, 1) := by decide +kernel
theorem dX4_allows_21 : decode cX4_allows 21 = .ok (.sipush (-30000), 3) := by decide +kernel
theorem dX4_allows_24 : decode cX4_allows 24 = .ok (.if_icmp .lt 24, 3) := by decide +kernel
theorem dX4_allows_27 : decode cX4_allows 27 = .ok (.iload_n 2, 1) := by decide +kernel
theorem dX4_allows_28 : decode cX4_allows 28 = .ok (.sipush 30000, 3) := by decide +kernel
theorem dX4_allows_31 : decode cX4_allows 31 = .ok (.if_icmp .gt 17, 3) := by decide +kernel
theorem dX4_allows_34 : decode cX4_allows 34 = .ok (.iload_n 3, 1) := by decide +kernel
theorem dX4_allows_35 : decode cX4_allows 35 = .ok (.ifCond .lt 13, 3) := by decide +kernel
theorem dX4_allows_38 : decode cX4_allows 38 = .ok (.iload_n 3, 1) := by decide +kernel
theorem dX4_allows_39 : decode cX4_allows 39 = .ok (.bipush 8, 2) := by decide +kernel
theorem dX4_allows_41 : decode cX4_allows 41 = .ok (.if_icmp .ge 7, 3) := by decide +kernel
theorem dX4_allows_44 : decode cX4_allows 44 = .ok (.iconst 1, 1) := by decide +kernel
theorem dX4_allows_45 : decode cX4_allows 45 = .ok (.goto 4, 3) := by decide +kernel
theorem dX4_allows_48 : decode cX4_allows 48 = .ok (.iconst 0, 1) := by decide +kernel
theorem dX4_allows_49 : decode cX4_allows 49 = .ok (.ireturn, 1) := by decide +kernel
theorem dX4_holds_0 : decode cX4_holds 0 = .ok (.iload_n 1, 1) := by decide +kernel
theorem dX4_holds_1 : decode cX4_holds 1 = .ok (.ifCond .lt 15, 3) := by decide +kernel
theorem dX4_holds_4 : decode cX4_holds 4 = .ok (.iload_n 1, 1) := by decide +kernel
theorem dX4_holds_5 : decode cX4_holds 5 = .ok (.aload_n 0, 1) := by decide +kernel
theorem dX4_holds_6 : decode cX4_holds 6 = .ok (.getfield 24, 3) := by decide +kernel
theorem dX4_holds_9 : decode cX4_holds 9 = .ok (.if_icmp .ge 7, 3) := by decide +kernel
theorem dX4_holds_12 : decode cX4_holds 12 = .ok (.iconst 1, 1) := by decide +kernel
theorem dX4_holds_13 : decode cX4_holds 13 = .ok (.goto 4, 3) := by decide +kernel
theorem dX4_holds_16 : decode cX4_holds 16 = .ok (.iconst 0, 1) := by decide +kernel
theorem dX4_holds_17 : decode cX4_holds 17 = .ok (.ireturn, 1) := by decide +kernel
theorem dX4_put_0 : decode cX4_put 0 = .ok (.aload_n 0, 1) := by decide +kernel
theorem dX4_put_1 : decode cX4_put 1 = .ok (.getfield 9, 3) := by decide +kernel
theorem dX4_put_4 : decode cX4_put 4 = .ok (.iload_n 1, 1) := by decide +kernel
theorem dX4_put_5 : decode cX4_put 5 = .ok (.iload_n 2, 1) := by decide +kernel
theorem dX4_put_6 : decode cX4_put 6 = .ok (.iastore, 1) := by decide +kernel
theorem dX4_put_7 : decode cX4_put 7 = .ok (.aload_n 0, 1) := by decide +kernel
theorem dX4_put_8 : decode cX4_put 8 = .ok (.getfield 15, 3) := by decide +kernel
theorem dX4_put_11 : decode cX4_put 11 = .ok (.iload_n 1, 1) := by decide +kernel
theorem dX4_put_12 : decode cX4_put 12 = .ok (.iload_n 3, 1) := by decide +kernel
theorem dX4_put_13 : decode cX4_put 13 = .ok (.iastore, 1) := by decide +kernel
theorem dX4_put_14 : decode cX4_put 14 = .ok (.aload_n 0, 1) := by decide +kernel
theorem dX4_put_15 : decode cX4_put 15 = .ok (.getfield 18, 3) := by decide +kernel
theorem dX4_put_18 : decode cX4_put 18 = .ok (.iload_n 1, 1) := by decide +kernel
theorem dX4_put_19 : decode cX4_put 19 = .ok (.iload 4, 2) := by decide +kernel
theorem dX4_put_21 : decode cX4_put 21 = .ok (.iastore, 1) := by decide +kernel
theorem dX4_put_22 : decode cX4_put 22 = .ok (.aload_n 0, 1) := by decide +kernel
theorem dX4_put_23 : decode cX4_put 23 = .ok (.getfield 21, 3) := by decide +kernel
theorem dX4_put_26 : decode cX4_put 26 = .ok (.iload_n 1, 1) := by decide +kernel
theorem dX4_put_27 : decode cX4_put 27 = .ok (.iload 5, 2) := by decide +kernel
theorem dX4_put_29 : decode cX4_put 29 = .ok (.iastore, 1) := by decide +kernel
theorem dX4_put_30 : decode cX4_put 30 = .ok (.return_, 1) := by decide +kernel
theorem dX4_append_0 : decode cX4_append 0 = .ok (.aload_n 0, 1) := by decide +kernel
theorem dX4_append_1 : decode cX4_append 1 = .ok (.aload_n 0, 1) := by decide +kernel
theorem dX4_append_2 : decode cX4_append 2 = .ok (.getfield 24, 3) := by decide +kernel
theorem dX4_append_5 : decode cX4_append 5 = .ok (.iload_n 1, 1) := by decide +kernel
theorem dX4_append_6 : decode cX4_append 6 = .ok (.iload_n 2, 1) := by decide +kernel
theorem dX4_append_7 : decode cX4_append 7 = .ok (.iload_n 3, 1) := by decide +kernel
theorem dX4_append_8 : decode cX4_append 8 = .ok (.iload 4, 2) := by decide +kernel
theorem dX4_append_10 : decode cX4_append 10 = .ok (.invokevirtual 28, 3) := by decide +kernel
theorem dX4_append_13 : decode cX4_append 13 = .ok (.aload_n 0, 1) := by decide +kernel
theorem dX4_append_14 : decode cX4_append 14 = .ok (.dup, 1) := by decide +kernel
theorem dX4_append_15 : decode cX4_append 15 = .ok (.getfield 24, 3) := by decide +kernel
theorem dX4_append_18 : decode cX4_append 18 = .ok (.iconst 1, 1) := by decide +kernel
theorem dX4_append_19 : decode cX4_append 19 = .ok (.iadd, 1) := by decide +kernel
theorem dX4_append_20 : decode cX4_append 20 = .ok (.putfield 24, 3) := by decide +kernel
theorem dX4_append_23 : decode cX4_append 23 = .ok (.return_, 1) := by decide +kernel
theorem dX4_x_0 : decode cX4_x 0 = .ok (.aload_n 0, 1) := by decide +kernel
theorem dX4_x_1 : decode cX4_x 1 = .ok (.getfield 15, 3) := by decide +kernel
theorem dX4_x_4 : decode cX4_x 4 = .ok (.iload_n 1, 1) := by decide +kernel
theorem dX4_x_5 : decode cX4_x 5 = .ok (.iaload, 1) := by decide +kernel
theorem dX4_x_6 : decode cX4_x 6 = .ok (.bipush 8, 2) := by decide +kernel
theorem dX4_x_8 : decode cX4_x 8 = .ok (.invokestatic 32, 3) := by decide +kernel
theorem dX4_x_11 : decode cX4_x 11 = .ok (.ireturn, 1) := by decide +kernel
theorem dX4_y_0 : decode cX4_y 0 = .ok (.aload_n 0, 1) := by decide +kernel
theorem dX4_y_1 : decode cX4_y 1 = .ok (.getfield 18, 3) := by decide +kernel
theorem dX4_y_4 : decode cX4_y 4 = .ok (.iload_n 1, 1) := by decide +kernel
theorem dX4_y_5 : decode cX4_y 5 = .ok (.iaload, 1) := by decide +kernel
theorem dX4_y_6 : decode cX4_y 6 = .ok (.bipush 8, 2) := by decide +kernel
theorem dX4_y_8 : decode cX4_y 8 = .ok (.invokestatic 32, 3) := by decide +kernel
theorem dX4_y_11 : decode cX4_y 11 = .ok (.ireturn, 1) := by decide +kernel
theorem dX4_z_0 : decode cX4_z 0 = .ok (.aload_n 0, 1) := by decide +kernel
theorem dX4_z_1 : decode cX4_z 1 = .ok (.getfield 21, 3) := by decide +kernel
theorem dX4_z_4 : decode cX4_z 4 = .ok (.iload_n 1, 1) := by decide +kernel
theorem dX4_z_5 : decode cX4_z 5 = .ok (.iaload, 1) := by decide +kernel
theorem dX4_z_6 : decode cX4_z 6 = .ok (.ireturn, 1) := by decide +kernel
theorem dX4_readsY_0 : decode cX4_readsY 0 = .ok (.aload_n 0, 1) := by decide +kernel
theorem dX4_readsY_1 : decode cX4_readsY 1 = .ok (.getfield 9, 3) := by decide +kernel
theorem dX4_readsY_4 : decode cX4_readsY 4 = .ok (.iload_n 1, 1) := by decide +kernel
theorem dX4_readsY_5 : decode cX4_readsY 5 = .ok (.iaload, 1) := by decide +kernel
theorem dX4_readsY_6 : decode cX4_readsY 6 = .ok (.iconst 2, 1) := by decide +kernel
theorem dX4_readsY_7 : decode cX4_readsY 7 = .ok (.if_icmp .lt 13, 3) := by decide +kernel
theorem dX4_readsY_10 : decode cX4_readsY 10 = .ok (.aload_n 0, 1) := by decide +kernel
theorem dX4_readsY_11 : decode cX4_readsY 11 = .ok (.getfield 9, 3) := by decide +kernel
theorem dX4_readsY_14 : decode cX4_readsY 14 = .ok (.iload_n 1, 1) := by decide +kernel
theorem dX4_readsY_15 : decode cX4_readsY 15 = .ok (.iaload, 1) := by decide +kernel
theorem dX4_readsY_16 : decode cX4_readsY 16 = .ok (.iconst 4, 1) := by decide +kernel
theorem dX4_readsY_17 : decode cX4_readsY 17 = .ok (.if_icmp .le 14, 3) := by decide +kernel
theorem dX4_readsY_20 : decode cX4_readsY 20 = .ok (.aload_n 0, 1) := by decide +kernel
theorem dX4_readsY_21 : decode cX4_readsY 21 = .ok (.getfield 9, 3) := by decide +kernel
theorem dX4_readsY_24 : decode cX4_readsY 24 = .ok (.iload_n 1, 1) := by decide +kernel
theorem dX4_readsY_25 : decode cX4_readsY 25 = .ok (.iaload, 1) := by decide +kernel
theorem dX4_readsY_26 : decode cX4_readsY 26 = .ok (.bipush 6, 2) := by decide +kernel
theorem dX4_readsY_28 : decode cX4_readsY 28 = .ok (.if_icmp .ne 7, 3) := by decide +kernel
theorem dX4_readsY_31 : decode cX4_readsY 31 = .ok (.iconst 1, 1) := by decide +kernel
theorem dX4_readsY_32 : decode cX4_readsY 32 = .ok (.goto 4, 3) := by decide +kernel
theorem dX4_readsY_35 : decode cX4_readsY 35 = .ok (.iconst 0, 1) := by decide +kernel
theorem dX4_readsY_36 : decode cX4_readsY 36 = .ok (.ireturn, 1) := by decide +kernel
theorem dX4_readsZ_0 : decode cX4_readsZ 0 = .ok (.aload_n 0, 1) := by decide +kernel
theorem dX4_readsZ_1 : decode cX4_readsZ 1 = .ok (.iload_n 1, 1) := by decide +kernel
theorem dX4_readsZ_2 : decode cX4_readsZ 2 = .ok (.invokevirtual 38, 3) := by decide +kernel
theorem dX4_readsZ_5 : decode cX4_readsZ 5 = .ok (.ifCond .ne 34, 3) := by decide +kernel
theorem dX4_readsZ_8 : decode cX4_readsZ 8 = .ok (.aload_n 0, 1) := by decide +kernel
theorem dX4_readsZ_9 : decode cX4_readsZ 9 = .ok (.getfield 9, 3) := by decide +kernel
theorem dX4_readsZ_12 : decode cX4_readsZ 12 = .ok (.iload_n 1, 1) := by decide +kernel
theorem dX4_readsZ_13 : decode cX4_readsZ 13 = .ok (.iaload, 1) := by decide +kernel
theorem dX4_readsZ_14 : decode cX4_readsZ 14 = .ok (.iconst 1, 1) := by decide +kernel
theorem dX4_readsZ_15 : decode cX4_readsZ 15 = .ok (.if_icmp .eq 24, 3) := by decide +kernel
theorem dX4_readsZ_18 : decode cX4_readsZ 18 = .ok (.aload_n 0, 1) := by decide +kernel
theorem dX4_readsZ_19 : decode cX4_readsZ 19 = .ok (.getfield 9, 3) := by decide +kernel
theorem dX4_readsZ_22 : decode cX4_readsZ 22 = .ok (.iload_n 1, 1) := by decide +kernel
theorem dX4_readsZ_23 : decode cX4_readsZ 23 = .ok (.iaload, 1) := by decide +kernel
theorem dX4_readsZ_24 : decode cX4_readsZ 24 = .ok (.iconst 5, 1) := by decide +kernel
theorem dX4_readsZ_25 : decode cX4_readsZ 25 = .ok (.if_icmp .eq 14, 3) := by decide +kernel
theorem dX4_readsZ_28 : decode cX4_readsZ 28 = .ok (.aload_n 0, 1) := by decide +kernel
theorem dX4_readsZ_29 : decode cX4_readsZ 29 = .ok (.getfield 9, 3) := by decide +kernel
theorem dX4_readsZ_32 : decode cX4_readsZ 32 = .ok (.iload_n 1, 1) := by decide +kernel
theorem dX4_readsZ_33 : decode cX4_readsZ 33 = .ok (.iaload, 1) := by decide +kernel
theorem dX4_readsZ_34 : decode cX4_readsZ 34 = .ok (.bipush 8, 2) := by decide +kernel
theorem dX4_readsZ_36 : decode cX4_readsZ 36 = .ok (.if_icmp .ne 7, 3) := by decide +kernel
theorem dX4_readsZ_39 : decode cX4_readsZ 39 = .ok (.iconst 1, 1) := by decide +kernel
theorem dX4_readsZ_40 : decode cX4_readsZ 40 = .ok (.goto 4, 3) := by decide +kernel
theorem dX4_readsZ_43 : decode cX4_readsZ 43 = .ok (.iconst 0, 1) := by decide +kernel
theorem dX4_readsZ_44 : decode cX4_readsZ 44 = .ok (.ireturn, 1) := by decide +kernel
theorem dX4_writesX_0 : decode cX4_writesX 0 = .ok (.aload_n 0, 1) := by decide +kernel
theorem dX4_writesX_1 : decode cX4_writesX 1 = .ok (.getfield 9, 3) := by decide +kernel
theorem dX4_writesX_4 : decode cX4_writesX 4 = .ok (.iload_n 1, 1) := by decide +kernel
theorem dX4_writesX_5 : decode cX4_writesX 5 = .ok (.iaload, 1) := by decide +kernel
theorem dX4_writesX_6 : decode cX4_writesX 6 = .ok (.iconst 5, 1) := by decide +kernel
theorem dX4_writesX_7 : decode cX4_writesX 7 = .ok (.if_icmp .gt 7, 3) := by decide +kernel
theorem dX4_writesX_10 : decode cX4_writesX 10 = .ok (.iconst 1, 1) := by decide +kernel
theorem dX4_writesX_11 : decode cX4_writesX 11 = .ok (.goto 4, 3) := by decide +kernel
theorem dX4_writesX_14 : decode cX4_writesX 14 = .ok (.iconst 0, 1) := by decide +kernel
theorem dX4_writesX_15 : decode cX4_writesX 15 = .ok (.ireturn, 1) := by decide +kernel
theorem dX5_init_0 : decode cX5_init 0 = .ok (.aload_n 0, 1) := by decide +kernel
theorem dX5_init_1 : decode cX5_init 1 = .ok (.invokespecial 3, 3) := by decide +kernel
theorem dX5_init_4 : decode cX5_init 4 = .ok (.aload_n 0, 1) := by decide +kernel
theorem dX5_init_5 : decode cX5_init 5 = .ok (.bipush 8, 2) := by decide +kernel
theorem dX5_init_7 : decode cX5_init 7 = .ok (.newarray .int, 2) := by decide +kernel
theorem dX5_init_9 : decode cX5_init 9 = .ok (.putfield 9, 3) := by decide +kernel
theorem dX5_init_12 : decode cX5_init 12 = .ok (.aload_n 0, 1) := by decide +kernel
theorem dX5_init_13 : decode cX5_init 13 = .ok (.bipush 8, 2) := by decide +kernel
theorem dX5_init_15 : decode cX5_init 15 = .ok (.newarray .int, 2) := by decide +kernel
theorem dX5_init_17 : decode cX5_init 17 = .ok (.putfield 15, 3) := by decide +kernel
theorem dX5_init_20 : decode cX5_init 20 = .ok (.return_, 1) := by decide +kernel
theorem dX5_put_0 : decode cX5_put 0 = .ok (.aload_n 0, 1) := by decide +kernel
theorem dX5_put_1 : decode cX5_put 1 = .ok (.getfield 9, 3) := by decide +kernel
theorem dX5_put_4 : decode cX5_put 4 = .ok (.iload_n 1, 1) := by decide +kernel
theorem dX5_put_5 : decode cX5_put 5 = .ok (.iload_n 2, 1) := by decide +kernel
theorem dX5_put_6 : decode cX5_put 6 = .ok (.iastore, 1) := by decide +kernel
theorem dX5_put_7 : decode cX5_put 7 = .ok (.aload_n 0, 1) := by decide +kernel
theorem dX5_put_8 : decode cX5_put 8 = .ok (.getfield 15, 3) := by decide +kernel
theorem dX5_put_11 : decode cX5_put 11 = .ok (.iload_n 1, 1) := by decide +kernel
theorem dX5_put_12 : decode cX5_put 12 = .ok (.iload_n 3, 1) := by decide +kernel
theorem dX5_put_13 : decode cX5_put 13 = .ok (.iastore, 1) := by decide +kernel
theorem dX5_put_14 : decode cX5_put 14 = .ok (.return_, 1) := by decide +kernel
theorem dX5_become_0 : decode cX5_become 0 = .ok (.iconst 0, 1) := by decide +kernel
theorem dX5_become_1 : decode cX5_become 1 = .ok (.istore_n 2, 1) := by decide +kernel
theorem dX5_become_2 : decode cX5_become 2 = .ok (.iload_n 2, 1) := by decide +kernel
theorem dX5_become_3 : decode cX5_become 3 = .ok (.bipush 8, 2) := by decide +kernel
theorem dX5_become_5 : decode cX5_become 5 = .ok (.if_icmp .ge 26, 3) := by decide +kernel
theorem dX5_become_8 : decode cX5_become 8 = .ok (.aload_n 0, 1) := by decide +kernel
theorem dX5_become_9 : decode cX5_become 9 = .ok (.iload_n 2, 1) := by decide +kernel
theorem dX5_become_10 : decode cX5_become 10 = .ok (.aload_n 1, 1) := by decide +kernel
theorem dX5_become_11 : decode cX5_become 11 = .ok (.getfield 9, 3) := by decide +kernel
theorem dX5_become_14 : decode cX5_become 14 = .ok (.iload_n 2, 1) := by decide +kernel
theorem dX5_become_15 : decode cX5_become 15 = .ok (.iaload, 1) := by decide +kernel
theorem dX5_become_16 : decode cX5_become 16 = .ok (.aload_n 1, 1) := by decide +kernel
theorem dX5_become_17 : decode cX5_become 17 = .ok (.getfield 15, 3) := by decide +kernel
theorem dX5_become_20 : decode cX5_become 20 = .ok (.iload_n 2, 1) := by decide +kernel
theorem dX5_become_21 : decode cX5_become 21 = .ok (.iaload, 1) := by decide +kernel
theorem dX5_become_22 : decode cX5_become 22 = .ok (.invokevirtual 18, 3) := by decide +kernel
theorem dX5_become_25 : decode cX5_become 25 = .ok (.iinc 2 1, 3) := by decide +kernel
theorem dX5_become_28 : decode cX5_become 28 = .ok (.goto (-26), 3) := by decide +kernel
theorem dX5_become_31 : decode cX5_become 31 = .ok (.return_, 1) := by decide +kernel
theorem dX5_fact_0 : decode cX5_fact 0 = .ok (.iload_n 1, 1) := by decide +kernel
theorem dX5_fact_1 : decode cX5_fact 1 = .ok (.invokestatic 22, 3) := by decide +kernel
theorem dX5_fact_4 : decode cX5_fact 4 = .ok (.ifCond .eq 12, 3) := by decide +kernel
theorem dX5_fact_7 : decode cX5_fact 7 = .ok (.iload_n 2, 1) := by decide +kernel
theorem dX5_fact_8 : decode cX5_fact 8 = .ok (.ifCond .lt 8, 3) := by decide +kernel
theorem dX5_fact_11 : decode cX5_fact 11 = .ok (.iload_n 2, 1) := by decide +kernel
theorem dX5_fact_12 : decode cX5_fact 12 = .ok (.iconst 1, 1) := by decide +kernel
theorem dX5_fact_13 : decode cX5_fact 13 = .ok (.if_icmp .le 6, 3) := by decide +kernel
theorem dX5_fact_16 : decode cX5_fact 16 = .ok (.ldc 26, 2) := by decide +kernel
theorem dX5_fact_18 : decode cX5_fact 18 = .ok (.ireturn, 1) := by decide +kernel
theorem dX5_fact_19 : decode cX5_fact 19 = .ok (.iload_n 2, 1) := by decide +kernel
theorem dX5_fact_20 : decode cX5_fact 20 = .ok (.ifCond .ne 12, 3) := by decide +kernel
theorem dX5_fact_23 : decode cX5_fact 23 = .ok (.aload_n 0, 1) := by decide +kernel
theorem dX5_fact_24 : decode cX5_fact 24 = .ok (.getfield 9, 3) := by decide +kernel
theorem dX5_fact_27 : decode cX5_fact 27 = .ok (.iload_n 1, 1) := by decide +kernel
theorem dX5_fact_28 : decode cX5_fact 28 = .ok (.iaload, 1) := by decide +kernel
theorem dX5_fact_29 : decode cX5_fact 29 = .ok (.goto 9, 3) := by decide +kernel
theorem dX5_fact_32 : decode cX5_fact 32 = .ok (.aload_n 0, 1) := by decide +kernel
theorem dX5_fact_33 : decode cX5_fact 33 = .ok (.getfield 15, 3) := by decide +kernel
theorem dX5_fact_36 : decode cX5_fact 36 = .ok (.iload_n 1, 1) := by decide +kernel
theorem dX5_fact_37 : decode cX5_fact 37 = .ok (.iaload, 1) := by decide +kernel
theorem dX5_fact_38 : decode cX5_fact 38 = .ok (.ireturn, 1) := by decide +kernel
theorem dX6_init_0 : decode cX6_init 0 = .ok (.aload_n 0, 1) := by decide +kernel
theorem dX6_init_1 : decode cX6_init 1 = .ok (.invokespecial 3, 3) := by decide +kernel
theorem dX6_init_4 : decode cX6_init 4 = .ok (.aload_n 0, 1) := by decide +kernel
theorem dX6_init_5 : decode cX6_init 5 = .ok (.bipush 60, 2) := by decide +kernel
theorem dX6_init_7 : decode cX6_init 7 = .ok (.newarray .int, 2) := by decide +kernel
theorem dX6_init_9 : decode cX6_init 9 = .ok (.putfield 9, 3) := by decide +kernel
theorem dX6_init_12 : decode cX6_init 12 = .ok (.aload_n 0, 1) := by decide +kernel
theorem dX6_init_13 : decode cX6_init 13 = .ok (.iconst (-1), 1) := by decide +kernel
theorem dX6_init_14 : decode cX6_init 14 = .ok (.putfield 15, 3) := by decide +kernel
theorem dX6_init_17 : decode cX6_init 17 = .ok (.return_, 1) := by decide +kernel
theorem dX6_isForm_0 : decode cX6_isForm 0 = .ok (.iload_n 0, 1) := by decide +kernel
theorem dX6_isForm_1 : decode cX6_isForm 1 = .ok (.ifCond .lt 12, 3) := by decide +kernel
theorem dX6_isForm_4 : decode cX6_isForm 4 = .ok (.iload_n 0, 1) := by decide +kernel
theorem dX6_isForm_5 : decode cX6_isForm 5 = .ok (.iconst 2, 1) := by decide +kernel
theorem dX6_isForm_6 : decode cX6_isForm 6 = .ok (.if_icmp .gt 7, 3) := by decide +kernel
theorem dX6_isForm_9 : decode cX6_isForm 9 = .ok (.iconst 1, 1) := by decide +kernel
theorem dX6_isForm_10 : decode cX6_isForm 10 = .ok (.goto 4, 3) := by decide +kernel
theorem dX6_isForm_13 : decode cX6_isForm 13 = .ok (.iconst 0, 1) := by decide +kernel
theorem dX6_isForm_14 : decode cX6_isForm 14 = .ok (.ireturn, 1) := by decide +kernel
theorem dX6_isLost_0 : decode cX6_isLost 0 = .ok (.aload_n 0, 1) := by decide +kernel
theorem dX6_isLost_1 : decode cX6_isLost 1 = .ok (.getfield 15, 3) := by decide +kernel
theorem dX6_isLost_4 : decode cX6_isLost 4 = .ok (.iconst (-1), 1) := by decide +kernel
theorem dX6_isLost_5 : decode cX6_isLost 5 = .ok (.if_icmp .ne 7, 3) := by decide +kernel
theorem dX6_isLost_8 : decode cX6_isLost 8 = .ok (.iconst 1, 1) := by decide +kernel
theorem dX6_isLost_9 : decode cX6_isLost 9 = .ok (.goto 4, 3) := by decide +kernel
theorem dX6_isLost_12 : decode cX6_isLost 12 = .ok (.iconst 0, 1) := by decide +kernel
theorem dX6_isLost_13 : decode cX6_isLost 13 = .ok (.ireturn, 1) := by decide +kernel
theorem dX6_renew_0 : decode cX6_renew 0 = .ok (.aload_n 0, 1) := by decide +kernel
theorem dX6_renew_1 : decode cX6_renew 1 = .ok (.iload_n 1, 1) := by decide +kernel
theorem dX6_renew_2 : decode cX6_renew 2 = .ok (.putfield 15, 3) := by decide +kernel
theorem dX6_renew_5 : decode cX6_renew 5 = .ok (.aload_n 0, 1) := by decide +kernel
theorem dX6_renew_6 : decode cX6_renew 6 = .ok (.iload_n 2, 1) := by decide +kernel
theorem dX6_renew_7 : decode cX6_renew 7 = .ok (.putfield 19, 3) := by decide +kernel
theorem dX6_renew_10 : decode cX6_renew 10 = .ok (.aload_n 0, 1) := by decide +kernel
theorem dX6_renew_11 : decode cX6_renew 11 = .ok (.getfield 9, 3) := by decide +kernel
theorem dX6_renew_14 : decode cX6_renew 14 = .ok (.iconst 0, 1) := by decide +kernel
theorem dX6_renew_15 : decode cX6_renew 15 = .ok (.invokestatic 22, 3) := by decide +kernel
theorem dX6_renew_18 : decode cX6_renew 18 = .ok (.return_, 1) := by decide +kernel
theorem dX6_faultAt_0 : decode cX6_faultAt 0 = .ok (.aload_n 0, 1) := by decide +kernel
theorem dX6_faultAt_1 : decode cX6_faultAt 1 = .ok (.invokevirtual 28, 3) := by decide +kernel
theorem dX6_faultAt_4 : decode cX6_faultAt 4 = .ok (.ifCond .eq 5, 3) := by decide +kernel
theorem dX6_faultAt_7 : decode cX6_faultAt 7 = .ok (.iconst 1, 1) := by decide +kernel
theorem dX6_faultAt_8 : decode cX6_faultAt 8 = .ok (.ireturn, 1) := by decide +kernel
theorem dX6_faultAt_9 : decode cX6_faultAt 9 = .ok (.aload_n 0, 1) := by decide +kernel
theorem dX6_faultAt_10 : decode cX6_faultAt 10 = .ok (.getfield 15, 3) := by decide +kernel
theorem dX6_faultAt_13 : decode cX6_faultAt 13 = .ok (.iload_n 1, 1) := by decide +kernel
theorem dX6_faultAt_14 : decode cX6_faultAt 14 = .ok (.if_icmp .eq 5, 3) := by decide +kernel
theorem dX6_faultAt_17 : decode cX6_faultAt 17 = .ok (.iconst 3, 1) := by decide +kernel
theorem dX6_faultAt_18 : decode cX6_faultAt 18 = .ok (.ireturn, 1) := by decide +kernel
theorem dX6_faultAt_19 : decode cX6_faultAt 19 = .ok (.iload_n 2, 1) := by decide +kernel
theorem dX6_faultAt_20 : decode cX6_faultAt 20 = .ok (.ifCond .lt 11, 3) := by decide +kernel
theorem dX6_faultAt_23 : decode cX6_faultAt 23 = .ok (.iload_n 2, 1) := by decide +kernel
theorem dX6_faultAt_24 : decode cX6_faultAt 24 = .ok (.aload_n 0, 1) := by decide +kernel
theorem dX6_faultAt_25 : decode cX6_faultAt 25 = .ok (.getfield 19, 3) := by decide +kernel
theorem dX6_faultAt_28 : decode cX6_faultAt 28 = .ok (.if_icmp .lt 7, 3) := by decide +kernel
theorem dX6_faultAt_31 : decode cX6_faultAt 31 = .ok (.iconst 2, 1) := by decide +kernel
theorem dX6_faultAt_32 : decode cX6_faultAt 32 = .ok (.goto 4, 3) := by decide +kernel
theorem dX6_faultAt_35 : decode cX6_faultAt 35 = .ok (.iconst 0, 1) := by decide +kernel
theorem dX6_faultAt_36 : decode cX6_faultAt 36 = .ok (.ireturn, 1) := by decide +kernel
theorem dX6_hasSpan_0 : decode cX6_hasSpan 0 = .ok (.iload_n 1, 1) := by decide +kernel
theorem dX6_hasSpan_1 : decode cX6_hasSpan 1 = .ok (.ifCond .lt 29, 3) := by decide +kernel
theorem dX6_hasSpan_4 : decode cX6_hasSpan 4 = .ok (.iload_n 2, 1) := by decide +kernel
theorem dX6_hasSpan_5 : decode cX6_hasSpan 5 = .ok (.ifCond .lt 25, 3) := by decide +kernel
theorem dX6_hasSpan_8 : decode cX6_hasSpan 8 = .ok (.iload_n 1, 1) := by decide +kernel
theorem dX6_hasSpan_9 : decode cX6_hasSpan 9 = .ok (.aload_n 0, 1) := by decide +kernel
theorem dX6_hasSpan_10 : decode cX6_hasSpan 10 = .ok (.getfield 19, 3) := by decide +kernel
theorem dX6_hasSpan_13 : decode cX6_hasSpan 13 = .ok (.if_icmp .gt 17, 3) := by decide +kernel
theorem dX6_hasSpan_16 : decode cX6_hasSpan 16 = .ok (.iload_n 2, 1) := by decide +kernel
theorem dX6_hasSpan_17 : decode cX6_hasSpan 17 = .ok (.aload_n 0, 1) := by decide +kernel
theorem dX6_hasSpan_18 : decode cX6_hasSpan 18 = .ok (.getfield 19, 3) := by decide +kernel
theorem dX6_hasSpan_21 : decode cX6_hasSpan 21 = .ok (.iload_n 1, 1) := by decide +kernel
theorem dX6_hasSpan_22 : decode cX6_hasSpan 22 = .ok (.isub, 1) := by decide +kernel
theorem dX6_hasSpan_23 : decode cX6_hasSpan 23 = .ok (.if_icmp .gt 7, 3) := by decide +kernel
theorem dX6_hasSpan_26 : decode cX6_hasSpan 26 = .ok (.iconst 1, 1) := by decide +kernel
theorem dX6_hasSpan_27 : decode cX6_hasSpan 27 = .ok (.goto 4, 3) := by decide +kernel
theorem dX6_hasSpan_30 : decode cX6_hasSpan 30 = .ok (.iconst 0, 1) := by decide +kernel
theorem dX6_hasSpan_31 : decode cX6_hasSpan 31 = .ok (.ireturn, 1) := by decide +kernel
theorem dX6_lower_0 : decode cX6_lower 0 = .ok (.aload_n 0, 1) := by decide +kernel
theorem dX6_lower_1 : decode cX6_lower 1 = .ok (.getfield 9, 3) := by decide +kernel
theorem dX6_lower_4 : decode cX6_lower 4 = .ok (.iload_n 1, 1) := by decide +kernel
theorem dX6_lower_5 : decode cX6_lower 5 = .ok (.aload_n 0, 1) := by decide +kernel
theorem dX6_lower_6 : decode cX6_lower 6 = .ok (.getfield 15, 3) := by decide +kernel
theorem dX6_lower_9 : decode cX6_lower 9 = .ok (.ifCond .ne 8, 3) := by decide +kernel
theorem dX6_lower_12 : decode cX6_lower 12 = .ok (.iload_n 2, 1) := by decide +kernel
theorem dX6_lower_13 : decode cX6_lower 13 = .ok (.i2b, 1) := by decide +kernel
theorem dX6_lower_14 : decode cX6_lower 14 = .ok (.goto 17, 3) := by decide +kernel
theorem dX6_lower_17 : decode cX6_lower 17 = .ok (.aload_n 0, 1) := by decide +kernel
theorem dX6_lower_18 : decode cX6_lower 18 = .ok (.getfield 15, 3) := by decide +kernel
theorem dX6_lower_21 : decode cX6_lower 21 = .ok (.iconst 1, 1) := by decide +kernel
theorem dX6_lower_22 : decode cX6_lower 22 = .ok (.if_icmp .ne 8, 3) := by decide +kernel
theorem dX6_lower_25 : decode cX6_lower 25 = .ok (.iload_n 2, 1) := by decide +kernel
theorem dX6_lower_26 : decode cX6_lower 26 = .ok (.i2s, 1) := by decide +kernel
theorem dX6_lower_27 : decode cX6_lower 27 = .ok (.goto 4, 3) := by decide +kernel
theorem dX6_lower_30 : decode cX6_lower 30 = .ok (.iload_n 2, 1) := by decide +kernel
theorem dX6_lower_31 : decode cX6_lower 31 = .ok (.iastore, 1) := by decide +kernel
theorem dX6_lower_32 : decode cX6_lower 32 = .ok (.return_, 1) := by decide +kernel
theorem dX7_writtenAhead_0 : decode cX7_writtenAhead 0 = .ok (.iconst 0, 1) := by decide +kernel
theorem dX7_writtenAhead_1 : decode cX7_writtenAhead 1 = .ok (.istore_n 3, 1) := by decide +kernel
theorem dX7_writtenAhead_2 : decode cX7_writtenAhead 2 = .ok (.iconst 0, 1) := by decide +kernel
theorem dX7_writtenAhead_3 : decode cX7_writtenAhead 3 = .ok (.istore 4, 2) := by decide +kernel
theorem dX7_writtenAhead_5 : decode cX7_writtenAhead 5 = .ok (.iload 4, 2) := by decide +kernel
theorem dX7_writtenAhead_7 : decode cX7_writtenAhead 7 = .ok (.iload_n 2, 1) := by decide +kernel
theorem dX7_writtenAhead_8 : decode cX7_writtenAhead 8 = .ok (.if_icmp .ge 32, 3) := by decide +kernel
theorem dX7_writtenAhead_11 : decode cX7_writtenAhead 11 = .ok (.iload 4, 2) := by decide +kernel
theorem dX7_writtenAhead_13 : decode cX7_writtenAhead 13 = .ok (.aload_n 1, 1) := by decide +kernel
theorem dX7_writtenAhead_14 : decode cX7_writtenAhead 14 = .ok (.getfield 9, 3) := by decide +kernel
theorem dX7_writtenAhead_17 : decode cX7_writtenAhead 17 = .ok (.if_icmp .ge 23, 3) := by decide +kernel
theorem dX7_writtenAhead_20 : decode cX7_writtenAhead 20 = .ok (.iload_n 3, 1) := by decide +kernel
theorem dX7_writtenAhead_21 : decode cX7_writtenAhead 21 = .ok (.aload_n 0, 1) := by decide +kernel
theorem dX7_writtenAhead_22 : decode cX7_writtenAhead 22 = .ok (.aload_n 1, 1) := by decide +kernel
theorem dX7_writtenAhead_23 : decode cX7_writtenAhead 23 = .ok (.getfield 15, 3) := by decide +kernel
theorem dX7_writtenAhead_26 : decode cX7_writtenAhead 26 = .ok (.iload 4, 2) := by decide +kernel
theorem dX7_writtenAhead_28 : decode cX7_writtenAhead 28 = .ok (.iaload, 1) := by decide +kernel
theorem dX7_writtenAhead_29 : decode cX7_writtenAhead 29 = .ok (.invokestatic 19, 3) := by decide +kernel
theorem dX7_writtenAhead_32 : decode cX7_writtenAhead 32 = .ok (.ior, 1) := by decide +kernel
theorem dX7_writtenAhead_33 : decode cX7_writtenAhead 33 = .ok (.istore_n 3, 1) := by decide +kernel
theorem dX7_writtenAhead_34 : decode cX7_writtenAhead 34 = .ok (.iinc 4 1, 3) := by decide +kernel
theorem dX7_writtenAhead_37 : decode cX7_writtenAhead 37 = .ok (.goto (-32), 3) := by decide +kernel
theorem dX7_writtenAhead_40 : decode cX7_writtenAhead 40 = .ok (.iload_n 3, 1) := by decide +kernel
theorem dX7_writtenAhead_41 : decode cX7_writtenAhead 41 = .ok (.ireturn, 1) := by decide +kernel
theorem dX7_checksOf_0 : decode cX7_checksOf 0 = .ok (.aload_n 0, 1) := by decide +kernel
theorem dX7_checksOf_1 : decode cX7_checksOf 1 = .ok (.aload_n 1, 1) := by decide +kernel
theorem dX7_checksOf_2 : decode cX7_checksOf 2 = .ok (.aload_n 1, 1) := by decide +kernel
theorem dX7_checksOf_3 : decode cX7_checksOf 3 = .ok (.getfield 9, 3) := by decide +kernel
theorem dX7_checksOf_6 : decode cX7_checksOf 6 = .ok (.invokestatic 25, 3) := by decide +kernel
theorem dX7_checksOf_9 : decode cX7_checksOf 9 = .ok (.istore_n 3, 1) := by decide +kernel
theorem dX7_checksOf_10 : decode cX7_checksOf 10 = .ok (.iconst 0, 1) := by decide +kernel
theorem dX7_checksOf_11 : decode cX7_checksOf 11 = .ok (.istore 4, 2) := by decide +kernel
theorem dX7_checksOf_13 : decode cX7_checksOf 13 = .ok (.iconst 0, 1) := by decide +kernel
theorem dX7_checksOf_14 : decode cX7_checksOf 14 = .ok (.istore 5, 2) := by decide +kernel
theorem dX7_checksOf_16 : decode cX7_checksOf 16 = .ok (.iconst 0, 1) := by decide +kernel
theorem dX7_checksOf_17 : decode cX7_checksOf 17 = .ok (.istore 6, 2) := by decide +kernel
theorem dX7_checksOf_19 : decode cX7_checksOf 19 = .ok (.iconst 0, 1) := by decide +kernel
theorem dX7_checksOf_20 : decode cX7_checksOf 20 = .ok (.istore 7, 2) := by decide +kernel
theorem dX7_checksOf_22 : decode cX7_checksOf 22 = .ok (.iconst 0, 1) := by decide +kernel
theorem dX7_checksOf_23 : decode cX7_checksOf 23 = .ok (.istore 8, 2) := by decide +kernel
theorem dX7_checksOf_25 : decode cX7_checksOf 25 = .ok (.iload 8, 2) := by decide +kernel
theorem dX7_checksOf_27 : decode cX7_checksOf 27 = .ok (.aload_n 1, 1) := by decide +kernel
theorem dX7_checksOf_28 : decode cX7_checksOf 28 = .ok (.getfield 9, 3) := by decide +kernel
theorem dX7_checksOf_31 : decode cX7_checksOf 31 = .ok (.if_icmp .ge 96, 3) := by decide +kernel
theorem dX7_checksOf_34 : decode cX7_checksOf 34 = .ok (.aload_n 1, 1) := by decide +kernel
theorem dX7_checksOf_35 : decode cX7_checksOf 35 = .ok (.getfield 15, 3) := by decide +kernel
theorem dX7_checksOf_38 : decode cX7_checksOf 38 = .ok (.iload 8, 2) := by decide +kernel
theorem dX7_checksOf_40 : decode cX7_checksOf 40 = .ok (.iaload, 1) := by decide +kernel
theorem dX7_checksOf_41 : decode cX7_checksOf 41 = .ok (.istore 9, 2) := by decide +kernel
theorem dX7_checksOf_43 : decode cX7_checksOf 43 = .ok (.aload_n 0, 1) := by decide +kernel
theorem dX7_checksOf_44 : decode cX7_checksOf 44 = .ok (.iload 9, 2) := by decide +kernel
theorem dX7_checksOf_46 : decode cX7_checksOf 46 = .ok (.invokestatic 29, 3) := by decide +kernel
theorem dX7_checksOf_49 : decode cX7_checksOf 49 = .ok (.istore 10, 2) := by decide +kernel
theorem dX7_checksOf_51 : decode cX7_checksOf 51 = .ok (.aload_n 0, 1) := by decide +kernel
theorem dX7_checksOf_52 : decode cX7_checksOf 52 = .ok (.getfield 32, 3) := by decide +kernel
theorem dX7_checksOf_55 : decode cX7_checksOf 55 = .ok (.iload 9, 2) := by decide +kernel
theorem dX7_checksOf_57 : decode cX7_checksOf 57 = .ok (.iaload, 1) := by decide +kernel
theorem dX7_checksOf_58 : decode cX7_checksOf 58 = .ok (.bipush 8, 2) := by decide +kernel
theorem dX7_checksOf_60 : decode cX7_checksOf 60 = .ok (.if_icmp .eq 47, 3) := by decide +kernel
theorem dX7_checksOf_63 : decode cX7_checksOf 63 = .ok (.iload 5, 2) := by decide +kernel
theorem dX7_checksOf_65 : decode cX7_checksOf 65 = .ok (.iload 10, 2) := by decide +kernel
theorem dX7_checksOf_67 : decode cX7_checksOf 67 = .ok (.invokestatic 37, 3) := by decide +kernel
theorem dX7_checksOf_70 : decode cX7_checksOf 70 = .ok (.iadd, 1) := by decide +kernel
theorem dX7_checksOf_71 : decode cX7_checksOf 71 = .ok (.istore 5, 2) := by decide +kernel
theorem dX7_checksOf_73 : decode cX7_checksOf 73 = .ok (.iload 6, 2) := by decide +kernel
theorem dX7_checksOf_75 : decode cX7_checksOf 75 = .ok (.iload 10, 2) := by decide +kernel
theorem dX7_checksOf_77 : decode cX7_checksOf 77 = .ok (.iload 4, 2) := by decide +kernel
theorem dX7_checksOf_79 : decode cX7_checksOf 79 = .ok (.iconst (-1), 1) := by decide +kernel
theorem dX7_checksOf_80 : decode cX7_checksOf 80 = .ok (.ixor, 1) := by decide +kernel
theorem dX7_checksOf_81 : decode cX7_checksOf 81 = .ok (.iand, 1) := by decide +kernel
theorem dX7_checksOf_82 : decode cX7_checksOf 82 = .ok (.invokestatic 37, 3) := by decide +kernel
theorem dX7_checksOf_85 : decode cX7_checksOf 85 = .ok (.iadd, 1) := by decide +kernel
theorem dX7_checksOf_86 : decode cX7_checksOf 86 = .ok (.istore 6, 2) := by decide +kernel
theorem dX7_checksOf_88 : decode cX7_checksOf 88 = .ok (.iload 7, 2) := by decide +kernel
theorem dX7_checksOf_90 : decode cX7_checksOf 90 = .ok (.iload 10, 2) := by decide +kernel
theorem dX7_checksOf_92 : decode cX7_checksOf 92 = .ok (.iload 4, 2) := by decide +kernel
theorem dX7_checksOf_94 : decode cX7_checksOf 94 = .ok (.iconst (-1), 1) := by decide +kernel
theorem dX7_checksOf_95 : decode cX7_checksOf 95 = .ok (.ixor, 1) := by decide +kernel
theorem dX7_checksOf_96 : decode cX7_checksOf 96 = .ok (.iand, 1) := by decide +kernel
theorem dX7_checksOf_97 : decode cX7_checksOf 97 = .ok (.iload_n 3, 1) := by decide +kernel
theorem dX7_checksOf_98 : decode cX7_checksOf 98 = .ok (.iconst (-1), 1) := by decide +kernel
theorem dX7_checksOf_99 : decode cX7_checksOf 99 = .ok (.ixor, 1) := by decide +kernel
theorem dX7_checksOf_100 : decode cX7_checksOf 100 = .ok (.iand, 1) := by decide +kernel
theorem dX7_checksOf_101 : decode cX7_checksOf 101 = .ok (.invokestatic 37, 3) := by decide +kernel
theorem dX7_checksOf_104 : decode cX7_checksOf 104 = .ok (.iadd, 1) := by decide +kernel
theorem dX7_checksOf_105 : decode cX7_checksOf 105 = .ok (.istore 7, 2) := by decide +kernel
theorem dX7_checksOf_107 : decode cX7_checksOf 107 = .ok (.iload 4, 2) := by decide +kernel
theorem dX7_checksOf_109 : decode cX7_checksOf 109 = .ok (.iload 10, 2) := by decide +kernel
theorem dX7_checksOf_111 : decode cX7_checksOf 111 = .ok (.aload_n 0, 1) := by decide +kernel
theorem dX7_checksOf_112 : decode cX7_checksOf 112 = .ok (.iload 9, 2) := by decide +kernel
theorem dX7_checksOf_114 : decode cX7_checksOf 114 = .ok (.invokestatic 19, 3) := by decide +kernel
theorem dX7_checksOf_117 : decode cX7_checksOf 117 = .ok (.ior, 1) := by decide +kernel
theorem dX7_checksOf_118 : decode cX7_checksOf 118 = .ok (.ior, 1) := by decide +kernel
theorem dX7_checksOf_119 : decode cX7_checksOf 119 = .ok (.istore 4, 2) := by decide +kernel
theorem dX7_checksOf_121 : decode cX7_checksOf 121 = .ok (.iinc 8 1, 3) := by decide +kernel
theorem dX7_checksOf_124 : decode cX7_checksOf 124 = .ok (.goto (-99), 3) := by decide +kernel
theorem dX7_checksOf_127 : decode cX7_checksOf 127 = .ok (.iload_n 2, 1) := by decide +kernel
theorem dX7_checksOf_128 : decode cX7_checksOf 128 = .ok (.tableswitch 37 0 2 #[28, 31, 34], 28) := by decide +kernel
theorem dX7_checksOf_156 : decode cX7_checksOf 156 = .ok (.iload 5, 2) := by decide +kernel
theorem dX7_checksOf_158 : decode cX7_checksOf 158 = .ok (.ireturn, 1) := by decide +kernel
theorem dX7_checksOf_159 : decode cX7_checksOf 159 = .ok (.iload 6, 2) := by decide +kernel
theorem dX7_checksOf_161 : decode cX7_checksOf 161 = .ok (.ireturn, 1) := by decide +kernel
theorem dX7_checksOf_162 : decode cX7_checksOf 162 = .ok (.iload 7, 2) := by decide +kernel
theorem dX7_checksOf_164 : decode cX7_checksOf 164 = .ok (.ireturn, 1) := by decide +kernel
theorem dX7_checksOf_165 : decode cX7_checksOf 165 = .ok (.bipush (-2), 2) := by decide +kernel
theorem dX7_checksOf_167 : decode cX7_checksOf 167 = .ok (.ireturn, 1) := by decide +kernel
theorem dX7_readAt_0 : decode cX7_readAt 0 = .ok (.aload_n 0, 1) := by decide +kernel
theorem dX7_readAt_1 : decode cX7_readAt 1 = .ok (.iload_n 1, 1) := by decide +kernel
theorem dX7_readAt_2 : decode cX7_readAt 2 = .ok (.invokevirtual 43, 3) := by decide +kernel
theorem dX7_readAt_5 : decode cX7_readAt 5 = .ok (.ifCond .eq 13, 3) := by decide +kernel
theorem dX7_readAt_8 : decode cX7_readAt 8 = .ok (.iconst 1, 1) := by decide +kernel
theorem dX7_readAt_9 : decode cX7_readAt 9 = .ok (.aload_n 0, 1) := by decide +kernel
theorem dX7_readAt_10 : decode cX7_readAt 10 = .ok (.iload_n 1, 1) := by decide +kernel
theorem dX7_readAt_11 : decode cX7_readAt 11 = .ok (.invokevirtual 47, 3) := by decide +kernel
theorem dX7_readAt_14 : decode cX7_readAt 14 = .ok (.ishl, 1) := by decide +kernel
theorem dX7_readAt_15 : decode cX7_readAt 15 = .ok (.goto 4, 3) := by decide +kernel
theorem dX7_readAt_18 : decode cX7_readAt 18 = .ok (.iconst 0, 1) := by decide +kernel
theorem dX7_readAt_19 : decode cX7_readAt 19 = .ok (.istore_n 2, 1) := by decide +kernel
theorem dX7_readAt_20 : decode cX7_readAt 20 = .ok (.aload_n 0, 1) := by decide +kernel
theorem dX7_readAt_21 : decode cX7_readAt 21 = .ok (.iload_n 1, 1) := by decide +kernel
theorem dX7_readAt_22 : decode cX7_readAt 22 = .ok (.invokevirtual 50, 3) := by decide +kernel
theorem dX7_readAt_25 : decode cX7_readAt 25 = .ok (.ifCond .eq 13, 3) := by decide +kernel
theorem dX7_readAt_28 : decode cX7_readAt 28 = .ok (.iconst 1, 1) := by decide +kernel
theorem dX7_readAt_29 : decode cX7_readAt 29 = .ok (.aload_n 0, 1) := by decide +kernel
theorem dX7_readAt_30 : decode cX7_readAt 30 = .ok (.iload_n 1, 1) := by decide +kernel
theorem dX7_readAt_31 : decode cX7_readAt 31 = .ok (.invokevirtual 53, 3) := by decide +kernel
theorem dX7_readAt_34 : decode cX7_readAt 34 = .ok (.ishl, 1) := by decide +kernel
theorem dX7_readAt_35 : decode cX7_readAt 35 = .ok (.goto 4, 3) := by decide +kernel
theorem dX7_readAt_38 : decode cX7_readAt 38 = .ok (.iconst 0, 1) := by decide +kernel
theorem dX7_readAt_39 : decode cX7_readAt 39 = .ok (.istore_n 3, 1) := by decide +kernel
theorem dX7_readAt_40 : decode cX7_readAt 40 = .ok (.iload_n 2, 1) := by decide +kernel
theorem dX7_readAt_41 : decode cX7_readAt 41 = .ok (.iload_n 3, 1) := by decide +kernel
theorem dX7_readAt_42 : decode cX7_readAt 42 = .ok (.ior, 1) := by decide +kernel
theorem dX7_readAt_43 : decode cX7_readAt 43 = .ok (.ireturn, 1) := by decide +kernel
theorem dX7_writtenAt_0 : decode cX7_writtenAt 0 = .ok (.aload_n 0, 1) := by decide +kernel
theorem dX7_writtenAt_1 : decode cX7_writtenAt 1 = .ok (.iload_n 1, 1) := by decide +kernel
theorem dX7_writtenAt_2 : decode cX7_writtenAt 2 = .ok (.invokevirtual 56, 3) := by decide +kernel
theorem dX7_writtenAt_5 : decode cX7_writtenAt 5 = .ok (.ifCond .eq 13, 3) := by decide +kernel
theorem dX7_writtenAt_8 : decode cX7_writtenAt 8 = .ok (.iconst 1, 1) := by decide +kernel
theorem dX7_writtenAt_9 : decode cX7_writtenAt 9 = .ok (.aload_n 0, 1) := by decide +kernel
theorem dX7_writtenAt_10 : decode cX7_writtenAt 10 = .ok (.iload_n 1, 1) := by decide +kernel
theorem dX7_writtenAt_11 : decode cX7_writtenAt 11 = .ok (.invokevirtual 59, 3) := by decide +kernel
theorem dX7_writtenAt_14 : decode cX7_writtenAt 14 = .ok (.ishl, 1) := by decide +kernel
theorem dX7_writtenAt_15 : decode cX7_writtenAt 15 = .ok (.goto 4, 3) := by decide +kernel
theorem dX7_writtenAt_18 : decode cX7_writtenAt 18 = .ok (.iconst 0, 1) := by decide +kernel
theorem dX7_writtenAt_19 : decode cX7_writtenAt 19 = .ok (.ireturn, 1) := by decide +kernel
theorem dX8_init_0 : decode cX8_init 0 = .ok (.aload_n 0, 1) := by decide +kernel
theorem dX8_init_1 : decode cX8_init 1 = .ok (.invokespecial 3, 3) := by decide +kernel
theorem dX8_init_4 : decode cX8_init 4 = .ok (.aload_n 0, 1) := by decide +kernel
theorem dX8_init_5 : decode cX8_init 5 = .ok (.bipush 16, 2) := by decide +kernel
theorem dX8_init_7 : decode cX8_init 7 = .ok (.newarray .int, 2) := by decide +kernel
theorem dX8_init_9 : decode cX8_init 9 = .ok (.putfield 9, 3) := by decide +kernel
theorem dX8_init_12 : decode cX8_init 12 = .ok (.aload_n 0, 1) := by decide +kernel
theorem dX8_init_13 : decode cX8_init 13 = .ok (.bipush 16, 2) := by decide +kernel
theorem dX8_init_15 : decode cX8_init 15 = .ok (.newarray .int, 2) := by decide +kernel
theorem dX8_init_17 : decode cX8_init 17 = .ok (.putfield 15, 3) := by decide +kernel
theorem dX8_init_20 : decode cX8_init 20 = .ok (.aload_n 0, 1) := by decide +kernel
theorem dX8_init_21 : decode cX8_init 21 = .ok (.bipush 16, 2) := by decide +kernel
theorem dX8_init_23 : decode cX8_init 23 = .ok (.newarray .int, 2) := by decide +kernel
theorem dX8_init_25 : decode cX8_init 25 = .ok (.putfield 18, 3) := by decide +kernel
theorem dX8_init_28 : decode cX8_init 28 = .ok (.aload_n 0, 1) := by decide +kernel
theorem dX8_init_29 : decode cX8_init 29 = .ok (.bipush 16, 2) := by decide +kernel
theorem dX8_init_31 : decode cX8_init 31 = .ok (.newarray .int, 2) := by decide +kernel
theorem dX8_init_33 : decode cX8_init 33 = .ok (.putfield 21, 3) := by decide +kernel
theorem dX8_init_36 : decode cX8_init 36 = .ok (.aload_n 0, 1) := by decide +kernel
theorem dX8_init_37 : decode cX8_init 37 = .ok (.bipush 16, 2) := by decide +kernel
theorem dX8_init_39 : decode cX8_init 39 = .ok (.newarray .int, 2) := by decide +kernel
theorem dX8_init_41 : decode cX8_init 41 = .ok (.putfield 24, 3) := by decide +kernel
theorem dX8_init_44 : decode cX8_init 44 = .ok (.aload_n 0, 1) := by decide +kernel
theorem dX8_init_45 : decode cX8_init 45 = .ok (.bipush 16, 2) := by decide +kernel
theorem dX8_init_47 : decode cX8_init 47 = .ok (.newarray .int, 2) := by decide +kernel
theorem dX8_init_49 : decode cX8_init 49 = .ok (.putfield 27, 3) := by decide +kernel
theorem dX8_init_52 : decode cX8_init 52 = .ok (.aload_n 0, 1) := by decide +kernel
theorem dX8_init_53 : decode cX8_init 53 = .ok (.iload_n 1, 1) := by decide +kernel
theorem dX8_init_54 : decode cX8_init 54 = .ok (.putfield 30, 3) := by decide +kernel
theorem dX8_init_57 : decode cX8_init 57 = .ok (.return_, 1) := by decide +kernel
theorem dX8_restart_0 : decode cX8_restart 0 = .ok (.aload_n 0, 1) := by decide +kernel
theorem dX8_restart_1 : decode cX8_restart 1 = .ok (.iload_n 1, 1) := by decide +kernel
theorem dX8_restart_2 : decode cX8_restart 2 = .ok (.putfield 34, 3) := by decide +kernel
theorem dX8_restart_5 : decode cX8_restart 5 = .ok (.aload_n 0, 1) := by decide +kernel
theorem dX8_restart_6 : decode cX8_restart 6 = .ok (.iload_n 2, 1) := by decide +kernel
theorem dX8_restart_7 : decode cX8_restart 7 = .ok (.putfield 37, 3) := by decide +kernel
theorem dX8_restart_10 : decode cX8_restart 10 = .ok (.aload_n 0, 1) := by decide +kernel
theorem dX8_restart_11 : decode cX8_restart 11 = .ok (.iload_n 3, 1) := by decide +kernel
theorem dX8_restart_12 : decode cX8_restart 12 = .ok (.putfield 40, 3) := by decide +kernel
theorem dX8_restart_15 : decode cX8_restart 15 = .ok (.aload_n 0, 1) := by decide +kernel
theorem dX8_restart_16 : decode cX8_restart 16 = .ok (.iconst 0, 1) := by decide +kernel
theorem dX8_restart_17 : decode cX8_restart 17 = .ok (.putfield 43, 3) := by decide +kernel
theorem dX8_restart_20 : decode cX8_restart 20 = .ok (.aload_n 0, 1) := by decide +kernel
theorem dX8_restart_21 : decode cX8_restart 21 = .ok (.iconst 0, 1) := by decide +kernel
theorem dX8_restart_22 : decode cX8_restart 22 = .ok (.putfield 46, 3) := by decide +kernel
theorem dX8_restart_25 : decode cX8_restart 25 = .ok (.return_, 1) := by decide +kernel
theorem dX8_append_0 : decode cX8_append 0 = .ok (.aload_n 0, 1) := by decide +kernel
theorem dX8_append_1 : decode cX8_append 1 = .ok (.getfield 43, 3) := by decide +kernel
theorem dX8_append_4 : decode cX8_append 4 = .ok (.bipush 16, 2) := by decide +kernel
theorem dX8_append_6 : decode cX8_append 6 = .ok (.if_icmp .lt 4, 3) := by decide +kernel
theorem dX8_append_9 : decode cX8_append 9 = .ok (.return_, 1) := by decide +kernel
theorem dX8_append_10 : decode cX8_append 10 = .ok (.aload_n 0, 1) := by decide +kernel
theorem dX8_append_11 : decode cX8_append 11 = .ok (.getfield 9, 3) := by decide +kernel
theorem dX8_append_14 : decode cX8_append 14 = .ok (.aload_n 0, 1) := by decide +kernel
theorem dX8_append_15 : decode cX8_append 15 = .ok (.getfield 43, 3) := by decide +kernel
theorem dX8_append_18 : decode cX8_append 18 = .ok (.iload_n 1, 1) := by decide +kernel
theorem dX8_append_19 : decode cX8_append 19 = .ok (.iastore, 1) := by decide +kernel
theorem dX8_append_20 : decode cX8_append 20 = .ok (.aload_n 0, 1) := by decide +kernel
theorem dX8_append_21 : decode cX8_append 21 = .ok (.getfield 15, 3) := by decide +kernel
theorem dX8_append_24 : decode cX8_append 24 = .ok (.aload_n 0, 1) := by decide +kernel
theorem dX8_append_25 : decode cX8_append 25 = .ok (.getfield 43, 3) := by decide +kernel
theorem dX8_append_28 : decode cX8_append 28 = .ok (.aload_n 2, 1) := by decide +kernel
theorem dX8_append_29 : decode cX8_append 29 = .ok (.getfield 49, 3) := by decide +kernel
theorem dX8_append_32 : decode cX8_append 32 = .ok (.iastore, 1) := by decide +kernel
theorem dX8_append_33 : decode cX8_append 33 = .ok (.aload_n 0, 1) := by decide +kernel
theorem dX8_append_34 : decode cX8_append 34 = .ok (.getfield 18, 3) := by decide +kernel
theorem dX8_append_37 : decode cX8_append 37 = .ok (.aload_n 0, 1) := by decide +kernel
theorem dX8_append_38 : decode cX8_append 38 = .ok (.getfield 43, 3) := by decide +kernel
theorem dX8_append_41 : decode cX8_append 41 = .ok (.aload_n 2, 1) := by decide +kernel
theorem dX8_append_42 : decode cX8_append 42 = .ok (.getfield 53, 3) := by decide +kernel
theorem dX8_append_45 : decode cX8_append 45 = .ok (.iastore, 1) := by decide +kernel
theorem dX8_append_46 : decode cX8_append 46 = .ok (.aload_n 0, 1) := by decide +kernel
theorem dX8_append_47 : decode cX8_append 47 = .ok (.getfield 21, 3) := by decide +kernel
theorem dX8_append_50 : decode cX8_append 50 = .ok (.aload_n 0, 1) := by decide +kernel
theorem dX8_append_51 : decode cX8_append 51 = .ok (.getfield 43, 3) := by decide +kernel
theorem dX8_append_54 : decode cX8_append 54 = .ok (.aload_n 2, 1) := by decide +kernel
theorem dX8_append_55 : decode cX8_append 55 = .ok (.getfield 55, 3) := by decide +kernel
theorem dX8_append_58 : decode cX8_append 58 = .ok (.iastore, 1) := by decide +kernel
theorem dX8_append_59 : decode cX8_append 59 = .ok (.aload_n 0, 1) := by decide +kernel
theorem dX8_append_60 : decode cX8_append 60 = .ok (.getfield 24, 3) := by decide +kernel
theorem dX8_append_63 : decode cX8_append 63 = .ok (.aload_n 0, 1) := by decide +kernel
theorem dX8_append_64 : decode cX8_append 64 = .ok (.getfield 43, 3) := by decide +kernel
theorem dX8_append_67 : decode cX8_append 67 = .ok (.iconst 0, 1) := by decide +kernel
theorem dX8_append_68 : decode cX8_append 68 = .ok (.iastore, 1) := by decide +kernel
theorem dX8_append_69 : decode cX8_append 69 = .ok (.aload_n 0, 1) := by decide +kernel
theorem dX8_append_70 : decode cX8_append 70 = .ok (.getfield 27, 3) := by decide +kernel
theorem dX8_append_73 : decode cX8_append 73 = .ok (.aload_n 0, 1) := by decide +kernel
theorem dX8_append_74 : decode cX8_append 74 = .ok (.getfield 43, 3) := by decide +kernel
theorem dX8_append_77 : decode cX8_append 77 = .ok (.iconst (-1), 1) := by decide +kernel
theorem dX8_append_78 : decode cX8_append 78 = .ok (.iastore, 1) := by decide +kernel
theorem dX8_append_79 : decode cX8_append 79 = .ok (.aload_n 0, 1) := by decide +kernel
theorem dX8_append_80 : decode cX8_append 80 = .ok (.dup, 1) := by decide +kernel
theorem dX8_append_81 : decode cX8_append 81 = .ok (.getfield 43, 3) := by decide +kernel
theorem dX8_append_84 : decode cX8_append 84 = .ok (.iconst 1, 1) := by decide +kernel
theorem dX8_append_85 : decode cX8_append 85 = .ok (.iadd, 1) := by decide +kernel
theorem dX8_append_86 : decode cX8_append 86 = .ok (.putfield 43, 3) := by decide +kernel
theorem dX8_append_89 : decode cX8_append 89 = .ok (.return_, 1) := by decide +kernel
theorem dX8_fails_0 : decode cX8_fails 0 = .ok (.aload_n 0, 1) := by decide +kernel
theorem dX8_fails_1 : decode cX8_fails 1 = .ok (.getfield 9, 3) := by decide +kernel
theorem dX8_fails_4 : decode cX8_fails 4 = .ok (.iload_n 1, 1) := by decide +kernel
theorem dX8_fails_5 : decode cX8_fails 5 = .ok (.iaload, 1) := by decide +kernel
theorem dX8_fails_6 : decode cX8_fails 6 = .ok (.istore 4, 2) := by decide +kernel
theorem dX8_fails_8 : decode cX8_fails 8 = .ok (.aload_n 2, 1) := by decide +kernel
theorem dX8_fails_9 : decode cX8_fails 9 = .ok (.iload 4, 2) := by decide +kernel
theorem dX8_fails_11 : decode cX8_fails 11 = .ok (.invokevirtual 57, 3) := by decide +kernel
theorem dX8_fails_14 : decode cX8_fails 14 = .ok (.ifCond .eq 16, 3) := by decide +kernel
theorem dX8_fails_17 : decode cX8_fails 17 = .ok (.aload_n 0, 1) := by decide +kernel
theorem dX8_fails_18 : decode cX8_fails 18 = .ok (.getfield 15, 3) := by decide +kernel
theorem dX8_fails_21 : decode cX8_fails 21 = .ok (.iload_n 1, 1) := by decide +kernel
theorem dX8_fails_22 : decode cX8_fails 22 = .ok (.iaload, 1) := by decide +kernel
theorem dX8_fails_23 : decode cX8_fails 23 = .ok (.aload_n 3, 1) := by decide +kernel
theorem dX8_fails_24 : decode cX8_fails 24 = .ok (.getfield 49, 3) := by decide +kernel
theorem dX8_fails_27 : decode cX8_fails 27 = .ok (.if_icmp .ne 38, 3) := by decide +kernel
theorem dX8_fails_30 : decode cX8_fails 30 = .ok (.aload_n 2, 1) := by decide +kernel
theorem dX8_fails_31 : decode cX8_fails 31 = .ok (.iload 4, 2) := by decide +kernel
theorem dX8_fails_33 : decode cX8_fails 33 = .ok (.invokevirtual 63, 3) := by decide +kernel
theorem dX8_fails_36 : decode cX8_fails 36 = .ok (.ifCond .eq 16, 3) := by decide +kernel
theorem dX8_fails_39 : decode cX8_fails 39 = .ok (.aload_n 0, 1) := by decide +kernel
theorem dX8_fails_40 : decode cX8_fails 40 = .ok (.getfield 18, 3) := by decide +kernel
theorem dX8_fails_43 : decode cX8_fails 43 = .ok (.iload_n 1, 1) := by decide +kernel
theorem dX8_fails_44 : decode cX8_fails 44 = .ok (.iaload, 1) := by decide +kernel
theorem dX8_fails_45 : decode cX8_fails 45 = .ok (.aload_n 3, 1) := by decide +kernel
theorem dX8_fails_46 : decode cX8_fails 46 = .ok (.getfield 53, 3) := by decide +kernel
theorem dX8_fails_49 : decode cX8_fails 49 = .ok (.if_icmp .ne 16, 3) := by decide +kernel
theorem dX8_fails_52 : decode cX8_fails 52 = .ok (.aload_n 0, 1) := by decide +kernel
theorem dX8_fails_53 : decode cX8_fails 53 = .ok (.getfield 21, 3) := by decide +kernel
theorem dX8_fails_56 : decode cX8_fails 56 = .ok (.iload_n 1, 1) := by decide +kernel
theorem dX8_fails_57 : decode cX8_fails 57 = .ok (.iaload, 1) := by decide +kernel
theorem dX8_fails_58 : decode cX8_fails 58 = .ok (.aload_n 3, 1) := by decide +kernel
theorem dX8_fails_59 : decode cX8_fails 59 = .ok (.getfield 55, 3) := by decide +kernel
theorem dX8_fails_62 : decode cX8_fails 62 = .ok (.if_icmp .eq 7, 3) := by decide +kernel
theorem dX8_fails_65 : decode cX8_fails 65 = .ok (.iconst 1, 1) := by decide +kernel
theorem dX8_fails_66 : decode cX8_fails 66 = .ok (.goto 4, 3) := by decide +kernel
theorem dX8_fails_69 : decode cX8_fails 69 = .ok (.iconst 0, 1) := by decide +kernel
theorem dX8_fails_70 : decode cX8_fails 70 = .ok (.ireturn, 1) := by decide +kernel
theorem dJ6_numberOfLeadingZeros_0f7a4_0 : decode cJ6_numberOfLeadingZeros_0f7a4 0 = .ok (.iload_n 0, 1) := by decide +kernel
theorem dJ6_numberOfLeadingZeros_0f7a4_1 : decode cJ6_numberOfLeadingZeros_0f7a4 1 = .ok (.ifCond .gt 14, 3) := by decide +kernel
theorem dJ6_numberOfLeadingZeros_0f7a4_4 : decode cJ6_numberOfLeadingZeros_0f7a4 4 = .ok (.iload_n 0, 1) := by decide +kernel
theorem dJ6_numberOfLeadingZeros_0f7a4_5 : decode cJ6_numberOfLeadingZeros_0f7a4 5 = .ok (.ifCond .ne 8, 3) := by decide +kernel
theorem dJ6_numberOfLeadingZeros_0f7a4_8 : decode cJ6_numberOfLeadingZeros_0f7a4 8 = .ok (.bipush 32, 2) := by decide +kernel
theorem dJ6_numberOfLeadingZeros_0f7a4_10 : decode cJ6_numberOfLeadingZeros_0f7a4 10 = .ok (.goto 4, 3) := by decide +kernel
theorem dJ6_numberOfLeadingZeros_0f7a4_13 : decode cJ6_numberOfLeadingZeros_0f7a4 13 = .ok (.iconst 0, 1) := by decide +kernel
theorem dJ6_numberOfLeadingZeros_0f7a4_14 : decode cJ6_numberOfLeadingZeros_0f7a4 14 = .ok (.ireturn, 1) := by decide +kernel
theorem dJ6_numberOfLeadingZeros_0f7a4_15 : decode cJ6_numberOfLeadingZeros_0f7a4 15 = .ok (.bipush 31, 2) := by decide +kernel
theorem dJ6_numberOfLeadingZeros_0f7a4_17 : decode cJ6_numberOfLeadingZeros_0f7a4 17 = .ok (.istore_n 1, 1) := by decide +kernel
theorem dJ6_numberOfLeadingZeros_0f7a4_18 : decode cJ6_numberOfLeadingZeros_0f7a4 18 = .ok (.iload_n 0, 1) := by decide +kernel
theorem dJ6_numberOfLeadingZeros_0f7a4_19 : decode cJ6_numberOfLeadingZeros_0f7a4 19 = .ok (.ldc_w 264, 3) := by decide +kernel
theorem dJ6_numberOfLeadingZeros_0f7a4_22 : decode cJ6_numberOfLeadingZeros_0f7a4 22 = .ok (.if_icmp .lt 11, 3) := by decide +kernel
theorem dJ6_numberOfLeadingZeros_0f7a4_25 : decode cJ6_numberOfLeadingZeros_0f7a4 25 = .ok (.iinc 1 (-16), 3) := by decide +kernel
theorem dJ6_numberOfLeadingZeros_0f7a4_28 : decode cJ6_numberOfLeadingZeros_0f7a4 28 = .ok (.iload_n 0, 1) := by decide +kernel
theorem dJ6_numberOfLeadingZeros_0f7a4_29 : decode cJ6_numberOfLeadingZeros_0f7a4 29 = .ok (.bipush 16, 2) := by decide +kernel
theorem dJ6_numberOfLeadingZeros_0f7a4_31 : decode cJ6_numberOfLeadingZeros_0f7a4 31 = .ok (.iushr, 1) := by decide +kernel
theorem dJ6_numberOfLeadingZeros_0f7a4_32 : decode cJ6_numberOfLeadingZeros_0f7a4 32 = .ok (.istore_n 0, 1) := by decide +kernel
theorem dJ6_numberOfLeadingZeros_0f7a4_33 : decode cJ6_numberOfLeadingZeros_0f7a4 33 = .ok (.iload_n 0, 1) := by decide +kernel
theorem dJ6_numberOfLeadingZeros_0f7a4_34 : decode cJ6_numberOfLeadingZeros_0f7a4 34 = .ok (.sipush 256, 3) := by decide +kernel
theorem dJ6_numberOfLeadingZeros_0f7a4_37 : decode cJ6_numberOfLeadingZeros_0f7a4 37 = .ok (.if_icmp .lt 11, 3) := by decide +kernel
theorem dJ6_numberOfLeadingZeros_0f7a4_40 : decode cJ6_numberOfLeadingZeros_0f7a4 40 = .ok (.iinc 1 (-8), 3) := by decide +kernel
theorem dJ6_numberOfLeadingZeros_0f7a4_43 : decode cJ6_numberOfLeadingZeros_0f7a4 43 = .ok (.iload_n 0, 1) := by decide +kernel
theorem dJ6_numberOfLeadingZeros_0f7a4_44 : decode cJ6_numberOfLeadingZeros_0f7a4 44 = .ok (.bipush 8, 2) := by decide +kernel
theorem dJ6_numberOfLeadingZeros_0f7a4_46 : decode cJ6_numberOfLeadingZeros_0f7a4 46 = .ok (.iushr, 1) := by decide +kernel
theorem dJ6_numberOfLeadingZeros_0f7a4_47 : decode cJ6_numberOfLeadingZeros_0f7a4 47 = .ok (.istore_n 0, 1) := by decide +kernel
theorem dJ6_numberOfLeadingZeros_0f7a4_48 : decode cJ6_numberOfLeadingZeros_0f7a4 48 = .ok (.iload_n 0, 1) := by decide +kernel
theorem dJ6_numberOfLeadingZeros_0f7a4_49 : decode cJ6_numberOfLeadingZeros_0f7a4 49 = .ok (.bipush 16, 2) := by decide +kernel
theorem dJ6_numberOfLeadingZeros_0f7a4_51 : decode cJ6_numberOfLeadingZeros_0f7a4 51 = .ok (.if_icmp .lt 10, 3) := by decide +kernel
theorem dJ6_numberOfLeadingZeros_0f7a4_54 : decode cJ6_numberOfLeadingZeros_0f7a4 54 = .ok (.iinc 1 (-4), 3) := by decide +kernel
theorem dJ6_numberOfLeadingZeros_0f7a4_57 : decode cJ6_numberOfLeadingZeros_0f7a4 57 = .ok (.iload_n 0, 1) := by decide +kernel
theorem dJ6_numberOfLeadingZeros_0f7a4_58 : decode cJ6_numberOfLeadingZeros_0f7a4 58 = .ok (.iconst 4, 1) := by decide +kernel
theorem dJ6_numberOfLeadingZeros_0f7a4_59 : decode cJ6_numberOfLeadingZeros_0f7a4 59 = .ok (.iushr, 1) := by decide +kernel
theorem dJ6_numberOfLeadingZeros_0f7a4_60 : decode cJ6_numberOfLeadingZeros_0f7a4 60 = .ok (.istore_n 0, 1) := by decide +kernel
theorem dJ6_numberOfLeadingZeros_0f7a4_61 : decode cJ6_numberOfLeadingZeros_0f7a4 61 = .ok (.iload_n 0, 1) := by decide +kernel
theorem dJ6_numberOfLeadingZeros_0f7a4_62 : decode cJ6_numberOfLeadingZeros_0f7a4 62 = .ok (.iconst 4, 1) := by decide +kernel
theorem dJ6_numberOfLeadingZeros_0f7a4_63 : decode cJ6_numberOfLeadingZeros_0f7a4 63 = .ok (.if_icmp .lt 10, 3) := by decide +kernel
theorem dJ6_numberOfLeadingZeros_0f7a4_66 : decode cJ6_numberOfLeadingZeros_0f7a4 66 = .ok (.iinc 1 (-2), 3) := by decide +kernel
theorem dJ6_numberOfLeadingZeros_0f7a4_69 : decode cJ6_numberOfLeadingZeros_0f7a4 69 = .ok (.iload_n 0, 1) := by decide +kernel
theorem dJ6_numberOfLeadingZeros_0f7a4_70 : decode cJ6_numberOfLeadingZeros_0f7a4 70 = .ok (.iconst 2, 1) := by decide +kernel
theorem dJ6_numberOfLeadingZeros_0f7a4_71 : decode cJ6_numberOfLeadingZeros_0f7a4 71 = .ok (.iushr, 1) := by decide +kernel
theorem dJ6_numberOfLeadingZeros_0f7a4_72 : decode cJ6_numberOfLeadingZeros_0f7a4 72 = .ok (.istore_n 0, 1) := by decide +kernel
theorem dJ6_numberOfLeadingZeros_0f7a4_73 : decode cJ6_numberOfLeadingZeros_0f7a4 73 = .ok (.iload_n 1, 1) := by decide +kernel
theorem dJ6_numberOfLeadingZeros_0f7a4_74 : decode cJ6_numberOfLeadingZeros_0f7a4 74 = .ok (.iload_n 0, 1) := by decide +kernel
theorem dJ6_numberOfLeadingZeros_0f7a4_75 : decode cJ6_numberOfLeadingZeros_0f7a4 75 = .ok (.iconst 1, 1) := by decide +kernel
theorem dJ6_numberOfLeadingZeros_0f7a4_76 : decode cJ6_numberOfLeadingZeros_0f7a4 76 = .ok (.iushr, 1) := by decide +kernel
theorem dJ6_numberOfLeadingZeros_0f7a4_77 : decode cJ6_numberOfLeadingZeros_0f7a4 77 = .ok (.isub, 1) := by decide +kernel
theorem dJ6_numberOfLeadingZeros_0f7a4_78 : decode cJ6_numberOfLeadingZeros_0f7a4 78 = .ok (.ireturn, 1) := by decide +kernel
theorem dJ6_bitCount_0f7a4_0 : decode cJ6_bitCount_0f7a4 0 = .ok (.iload_n 0, 1) := by decide +kernel
theorem dJ6_bitCount_0f7a4_1 : decode cJ6_bitCount_0f7a4 1 = .ok (.iload_n 0, 1) := by decide +kernel
theorem dJ6_bitCount_0f7a4_2 : decode cJ6_bitCount_0f7a4 2 = .ok (.iconst 1, 1) := by decide +kernel
theorem dJ6_bitCount_0f7a4_3 : decode cJ6_bitCount_0f7a4 3 = .ok (.iushr, 1) := by decide +kernel
theorem dJ6_bitCount_0f7a4_4 : decode cJ6_bitCount_0f7a4 4 = .ok (.ldc_w 265, 3) := by decide +kernel
theorem dJ6_bitCount_0f7a4_7 : decode cJ6_bitCount_0f7a4 7 = .ok (.iand, 1) := by decide +kernel
theorem dJ6_bitCount_0f7a4_8 : decode cJ6_bitCount_0f7a4 8 = .ok (.isub, 1) := by decide +kernel
theorem dJ6_bitCount_0f7a4_9 : decode cJ6_bitCount_0f7a4 9 = .ok (.istore_n 0, 1) := by decide +kernel
theorem dJ6_bitCount_0f7a4_10 : decode cJ6_bitCount_0f7a4 10 = .ok (.iload_n 0, 1) := by decide +kernel
theorem dJ6_bitCount_0f7a4_11 : decode cJ6_bitCount_0f7a4 11 = .ok (.ldc_w 266, 3) := by decide +kernel
theorem dJ6_bitCount_0f7a4_14 : decode cJ6_bitCount_0f7a4 14 = .ok (.iand, 1) := by decide +kernel
theorem dJ6_bitCount_0f7a4_15 : decode cJ6_bitCount_0f7a4 15 = .ok (.iload_n 0, 1) := by decide +kernel
theorem dJ6_bitCount_0f7a4_16 : decode cJ6_bitCount_0f7a4 16 = .ok (.iconst 2, 1) := by decide +kernel
theorem dJ6_bitCount_0f7a4_17 : decode cJ6_bitCount_0f7a4 17 = .ok (.iushr, 1) := by decide +kernel
theorem dJ6_bitCount_0f7a4_18 : decode cJ6_bitCount_0f7a4 18 = .ok (.ldc_w 266, 3) := by decide +kernel
theorem dJ6_bitCount_0f7a4_21 : decode cJ6_bitCount_0f7a4 21 = .ok (.iand, 1) := by decide +kernel
theorem dJ6_bitCount_0f7a4_22 : decode cJ6_bitCount_0f7a4 22 = .ok (.iadd, 1) := by decide +kernel
theorem dJ6_bitCount_0f7a4_23 : decode cJ6_bitCount_0f7a4 23 = .ok (.istore_n 0, 1) := by decide +kernel
theorem dJ6_bitCount_0f7a4_24 : decode cJ6_bitCount_0f7a4 24 = .ok (.iload_n 0, 1) := by decide +kernel
theorem dJ6_bitCount_0f7a4_25 : decode cJ6_bitCount_0f7a4 25 = .ok (.iload_n 0, 1) := by decide +kernel
theorem dJ6_bitCount_0f7a4_26 : decode cJ6_bitCount_0f7a4 26 = .ok (.iconst 4, 1) := by decide +kernel
theorem dJ6_bitCount_0f7a4_27 : decode cJ6_bitCount_0f7a4 27 = .ok (.iushr, 1) := by decide +kernel
theorem dJ6_bitCount_0f7a4_28 : decode cJ6_bitCount_0f7a4 28 = .ok (.iadd, 1) := by decide +kernel
theorem dJ6_bitCount_0f7a4_29 : decode cJ6_bitCount_0f7a4 29 = .ok (.ldc_w 267, 3) := by decide +kernel
theorem dJ6_bitCount_0f7a4_32 : decode cJ6_bitCount_0f7a4 32 = .ok (.iand, 1) := by decide +kernel
theorem dJ6_bitCount_0f7a4_33 : decode cJ6_bitCount_0f7a4 33 = .ok (.istore_n 0, 1) := by decide +kernel
theorem dJ6_bitCount_0f7a4_34 : decode cJ6_bitCount_0f7a4 34 = .ok (.iload_n 0, 1) := by decide +kernel
theorem dJ6_bitCount_0f7a4_35 : decode cJ6_bitCount_0f7a4 35 = .ok (.iload_n 0, 1) := by decide +kernel
theorem dJ6_bitCount_0f7a4_36 : decode cJ6_bitCount_0f7a4 36 = .ok (.bipush 8, 2) := by decide +kernel
theorem dJ6_bitCount_0f7a4_38 : decode cJ6_bitCount_0f7a4 38 = .ok (.iushr, 1) := by decide +kernel
theorem dJ6_bitCount_0f7a4_39 : decode cJ6_bitCount_0f7a4 39 = .ok (.iadd, 1) := by decide +kernel
theorem dJ6_bitCount_0f7a4_40 : decode cJ6_bitCount_0f7a4 40 = .ok (.istore_n 0, 1) := by decide +kernel
theorem dJ6_bitCount_0f7a4_41 : decode cJ6_bitCount_0f7a4 41 = .ok (.iload_n 0, 1) := by decide +kernel
theorem dJ6_bitCount_0f7a4_42 : decode cJ6_bitCount_0f7a4 42 = .ok (.iload_n 0, 1) := by decide +kernel
theorem dJ6_bitCount_0f7a4_43 : decode cJ6_bitCount_0f7a4 43 = .ok (.bipush 16, 2) := by decide +kernel
theorem dJ6_bitCount_0f7a4_45 : decode cJ6_bitCount_0f7a4 45 = .ok (.iushr, 1) := by decide +kernel
theorem dJ6_bitCount_0f7a4_46 : decode cJ6_bitCount_0f7a4 46 = .ok (.iadd, 1) := by decide +kernel
theorem dJ6_bitCount_0f7a4_47 : decode cJ6_bitCount_0f7a4 47 = .ok (.istore_n 0, 1) := by decide +kernel
theorem dJ6_bitCount_0f7a4_48 : decode cJ6_bitCount_0f7a4 48 = .ok (.iload_n 0, 1) := by decide +kernel
theorem dJ6_bitCount_0f7a4_49 : decode cJ6_bitCount_0f7a4 49 = .ok (.bipush 63, 2) := by decide +kernel
theorem dJ6_bitCount_0f7a4_51 : decode cJ6_bitCount_0f7a4 51 = .ok (.iand, 1) := by decide +kernel
theorem dJ6_bitCount_0f7a4_52 : decode cJ6_bitCount_0f7a4 52 = .ok (.ireturn, 1) := by decide +kernel
theorem dJ13_numberOfLeadingZeros_95d88_0 : decode cJ13_numberOfLeadingZeros_95d88 0 = .ok (.lload_n 0, 1) := by decide +kernel
theorem dJ13_numberOfLeadingZeros_95d88_1 : decode cJ13_numberOfLeadingZeros_95d88 1 = .ok (.bipush 32, 2) := by decide +kernel
theorem dJ13_numberOfLeadingZeros_95d88_3 : decode cJ13_numberOfLeadingZeros_95d88 3 = .ok (.lushr, 1) := by decide +kernel
theorem dJ13_numberOfLeadingZeros_95d88_4 : decode cJ13_numberOfLeadingZeros_95d88 4 = .ok (.l2i, 1) := by decide +kernel
theorem dJ13_numberOfLeadingZeros_95d88_5 : decode cJ13_numberOfLeadingZeros_95d88 5 = .ok (.istore_n 2, 1) := by decide +kernel
theorem dJ13_numberOfLeadingZeros_95d88_6 : decode cJ13_numberOfLeadingZeros_95d88 6 = .ok (.iload_n 2, 1) := by decide +kernel
theorem dJ13_numberOfLeadingZeros_95d88_7 : decode cJ13_numberOfLeadingZeros_95d88 7 = .ok (.ifCond .ne 14, 3) := by decide +kernel
theorem dJ13_numberOfLeadingZeros_95d88_10 : decode cJ13_numberOfLeadingZeros_95d88 10 = .ok (.bipush 32, 2) := by decide +kernel
theorem dJ13_numberOfLeadingZeros_95d88_12 : decode cJ13_numberOfLeadingZeros_95d88 12 = .ok (.lload_n 0, 1) := by decide +kernel
theorem dJ13_numberOfLeadingZeros_95d88_13 : decode cJ13_numberOfLeadingZeros_95d88 13 = .ok (.l2i, 1) := by decide +kernel
theorem dJ13_numberOfLeadingZeros_95d88_14 : decode cJ13_numberOfLeadingZeros_95d88 14 = .ok (.invokestatic 308, 3) := by decide +kernel
theorem dJ13_numberOfLeadingZeros_95d88_17 : decode cJ13_numberOfLeadingZeros_95d88 17 = .ok (.iadd, 1) := by decide +kernel
theorem dJ13_numberOfLeadingZeros_95d88_18 : decode cJ13_numberOfLeadingZeros_95d88 18 = .ok (.goto 7, 3) := by decide +kernel
theorem dJ13_numberOfLeadingZeros_95d88_21 : decode cJ13_numberOfLeadingZeros_95d88 21 = .ok (.iload_n 2, 1) := by decide +kernel
theorem dJ13_numberOfLeadingZeros_95d88_22 : decode cJ13_numberOfLeadingZeros_95d88 22 = .ok (.invokestatic 308, 3) := by decide +kernel
theorem dJ13_numberOfLeadingZeros_95d88_25 : decode cJ13_numberOfLeadingZeros_95d88 25 = .ok (.ireturn, 1) := by decide +kernel
theorem dJ13_signum_95d88_0 : decode cJ13_signum_95d88 0 = .ok (.lload_n 0, 1) := by decide +kernel
theorem dJ13_signum_95d88_1 : decode cJ13_signum_95d88 1 = .ok (.bipush 63, 2) := by decide +kernel
theorem dJ13_signum_95d88_3 : decode cJ13_signum_95d88 3 = .ok (.lshr, 1) := by decide +kernel
theorem dJ13_signum_95d88_4 : decode cJ13_signum_95d88 4 = .ok (.lload_n 0, 1) := by decide +kernel
theorem dJ13_signum_95d88_5 : decode cJ13_signum_95d88 5 = .ok (.lneg, 1) := by decide +kernel
theorem dJ13_signum_95d88_6 : decode cJ13_signum_95d88 6 = .ok (.bipush 63, 2) := by decide +kernel
theorem dJ13_signum_95d88_8 : decode cJ13_signum_95d88 8 = .ok (.lushr, 1) := by decide +kernel
theorem dJ13_signum_95d88_9 : decode cJ13_signum_95d88 9 = .ok (.lor, 1) := by decide +kernel
theorem dJ13_signum_95d88_10 : decode cJ13_signum_95d88 10 = .ok (.l2i, 1) := by decide +kernel
theorem dJ13_signum_95d88_11 : decode cJ13_signum_95d88 11 = .ok (.ireturn, 1) := by decide +kernel
theorem dJ9_floorMod_7cf53_0 : decode cJ9_floorMod_7cf53 0 = .ok (.iload_n 0, 1) := by decide +kernel
theorem dJ9_floorMod_7cf53_1 : decode cJ9_floorMod_7cf53 1 = .ok (.iload_n 1, 1) := by decide +kernel
theorem dJ9_floorMod_7cf53_2 : decode cJ9_floorMod_7cf53 2 = .ok (.irem, 1) := by decide +kernel
theorem dJ9_floorMod_7cf53_3 : decode cJ9_floorMod_7cf53 3 = .ok (.istore_n 2, 1) := by decide +kernel
theorem dJ9_floorMod_7cf53_4 : decode cJ9_floorMod_7cf53 4 = .ok (.iload_n 0, 1) := by decide +kernel
theorem dJ9_floorMod_7cf53_5 : decode cJ9_floorMod_7cf53 5 = .ok (.iload_n 1, 1) := by decide +kernel
theorem dJ9_floorMod_7cf53_6 : decode cJ9_floorMod_7cf53 6 = .ok (.ixor, 1) := by decide +kernel
theorem dJ9_floorMod_7cf53_7 : decode cJ9_floorMod_7cf53 7 = .ok (.ifCond .ge 11, 3) := by decide +kernel
theorem dJ9_floorMod_7cf53_10 : decode cJ9_floorMod_7cf53 10 = .ok (.iload_n 2, 1) := by decide +kernel
theorem dJ9_floorMod_7cf53_11 : decode cJ9_floorMod_7cf53 11 = .ok (.ifCond .eq 7, 3) := by decide +kernel
theorem dJ9_floorMod_7cf53_14 : decode cJ9_floorMod_7cf53 14 = .ok (.iload_n 2, 1) := by decide +kernel
theorem dJ9_floorMod_7cf53_15 : decode cJ9_floorMod_7cf53 15 = .ok (.iload_n 1, 1) := by decide +kernel
theorem dJ9_floorMod_7cf53_16 : decode cJ9_floorMod_7cf53 16 = .ok (.iadd, 1) := by decide +kernel
theorem dJ9_floorMod_7cf53_17 : decode cJ9_floorMod_7cf53 17 = .ok (.ireturn, 1) := by decide +kernel
theorem dJ9_floorMod_7cf53_18 : decode cJ9_floorMod_7cf53 18 = .ok (.iload_n 2, 1) := by decide +kernel
theorem dJ9_floorMod_7cf53_19 : decode cJ9_floorMod_7cf53 19 = .ok (.ireturn, 1) := by decide +kernel
theorem dJ9_abs_067f4_0 : decode cJ9_abs_067f4 0 = .ok (.lload_n 0, 1) := by decide +kernel
theorem dJ9_abs_067f4_1 : decode cJ9_abs_067f4 1 = .ok (.lconst 0, 1) := by decide +kernel
theorem dJ9_abs_067f4_2 : decode cJ9_abs_067f4 2 = .ok (.lcmp, 1) := by decide +kernel
theorem dJ9_abs_067f4_3 : decode cJ9_abs_067f4 3 = .ok (.ifCond .ge 8, 3) := by decide +kernel
theorem dJ9_abs_067f4_6 : decode cJ9_abs_067f4 6 = .ok (.lload_n 0, 1) := by decide +kernel
theorem dJ9_abs_067f4_7 : decode cJ9_abs_067f4 7 = .ok (.lneg, 1) := by decide +kernel
theorem dJ9_abs_067f4_8 : decode cJ9_abs_067f4 8 = .ok (.goto 4, 3) := by decide +kernel
theorem dJ9_abs_067f4_11 : decode cJ9_abs_067f4 11 = .ok (.lload_n 0, 1) := by decide +kernel
theorem dJ9_abs_067f4_12 : decode cJ9_abs_067f4 12 = .ok (.lreturn, 1) := by decide +kernel
theorem dJ9_max_7cf53_0 : decode cJ9_max_7cf53 0 = .ok (.iload_n 0, 1) := by decide +kernel
theorem dJ9_max_7cf53_1 : decode cJ9_max_7cf53 1 = .ok (.iload_n 1, 1) := by decide +kernel
theorem dJ9_max_7cf53_2 : decode cJ9_max_7cf53 2 = .ok (.if_icmp .lt 7, 3) := by decide +kernel
theorem dJ9_max_7cf53_5 : decode cJ9_max_7cf53 5 = .ok (.iload_n 0, 1) := by decide +kernel
theorem dJ9_max_7cf53_6 : decode cJ9_max_7cf53 6 = .ok (.goto 4, 3) := by decide +kernel
theorem dJ9_max_7cf53_9 : decode cJ9_max_7cf53 9 = .ok (.iload_n 1, 1) := by decide +kernel
theorem dJ9_max_7cf53_10 : decode cJ9_max_7cf53 10 = .ok (.ireturn, 1) := by decide +kernel
theorem dJ9_min_7cf53_0 : decode cJ9_min_7cf53 0 = .ok (.iload_n 0, 1) := by decide +kernel
theorem dJ9_min_7cf53_1 : decode cJ9_min_7cf53 1 = .ok (.iload_n 1, 1) := by decide +kernel
theorem dJ9_min_7cf53_2 : decode cJ9_min_7cf53 2 = .ok (.if_icmp .gt 7, 3) := by decide +kernel
theorem dJ9_min_7cf53_5 : decode cJ9_min_7cf53 5 = .ok (.iload_n 0, 1) := by decide +kernel
theorem dJ9_min_7cf53_6 : decode cJ9_min_7cf53 6 = .ok (.goto 4, 3) := by decide +kernel
theorem dJ9_min_7cf53_9 : decode cJ9_min_7cf53 9 = .ok (.iload_n 1, 1) := by decide +kernel
theorem dJ9_min_7cf53_10 : decode cJ9_min_7cf53 10 = .ok (.ireturn, 1) := by decide +kernel
theorem dJ7_fill_53178_0 : decode cJ7_fill_53178 0 = .ok (.iconst 0, 1) := by decide +kernel
theorem dJ7_fill_53178_1 : decode cJ7_fill_53178 1 = .ok (.istore_n 2, 1) := by decide +kernel
theorem dJ7_fill_53178_2 : decode cJ7_fill_53178 2 = .ok (.aload_n 0, 1) := by decide +kernel
theorem dJ7_fill_53178_3 : decode cJ7_fill_53178 3 = .ok (.arraylength, 1) := by decide +kernel
theorem dJ7_fill_53178_4 : decode cJ7_fill_53178 4 = .ok (.istore_n 3, 1) := by decide +kernel
theorem dJ7_fill_53178_5 : decode cJ7_fill_53178 5 = .ok (.iload_n 2, 1) := by decide +kernel
theorem dJ7_fill_53178_6 : decode cJ7_fill_53178 6 = .ok (.iload_n 3, 1) := by decide +kernel
theorem dJ7_fill_53178_7 : decode cJ7_fill_53178 7 = .ok (.if_icmp .ge 13, 3) := by decide +kernel
theorem dJ7_fill_53178_10 : decode cJ7_fill_53178 10 = .ok (.aload_n 0, 1) := by decide +kernel
theorem dJ7_fill_53178_11 : decode cJ7_fill_53178 11 = .ok (.iload_n 2, 1) := by decide +kernel
theorem dJ7_fill_53178_12 : decode cJ7_fill_53178 12 = .ok (.iload_n 1, 1) := by decide +kernel
theorem dJ7_fill_53178_13 : decode cJ7_fill_53178 13 = .ok (.iastore, 1) := by decide +kernel
theorem dJ7_fill_53178_14 : decode cJ7_fill_53178 14 = .ok (.iinc 2 1, 3) := by decide +kernel
theorem dJ7_fill_53178_17 : decode cJ7_fill_53178 17 = .ok (.goto (-12), 3) := by decide +kernel
theorem dJ7_fill_53178_20 : decode cJ7_fill_53178 20 = .ok (.return_, 1) := by decide +kernel
abbrev vwCl : List vw_C := [(RX0, TX0, 6), (RX2, TX2, 7), (RX3, TX3, 12), (RX4, TX4, 5), (RX5, TX5, 2), (RX6, TX6, 3), (RX8, TX8, 12), (RX9, TX9, 14), (RX10, TX10, 46)]
