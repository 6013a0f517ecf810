theorem dL_cell_0 : decode cL_cell 0 = .ok (.iload_n 1, 1) := by decide +kernel
theorem dL_cell_1 : decode cL_cell 1 = .ok (.aload_n 0, 1) := by decide +kernel
theorem dL_cell_2 : decode cL_cell 2 = .ok (.arraylength, 1) := by decide +kernel
theorem dL_cell_3 : decode cL_cell 3 = .ok (.if_icmp .ge 9, 3) := by decide +kernel
theorem dL_cell_6 : decode cL_cell 6 = .ok (.aload_n 0, 1) := by decide +kernel
theorem dL_cell_7 : decode cL_cell 7 = .ok (.iload_n 1, 1) := by decide +kernel
theorem dL_cell_8 : decode cL_cell 8 = .ok (.iaload, 1) := by decide +kernel
theorem dL_cell_9 : decode cL_cell 9 = .ok (.goto 11, 3) := by decide +kernel
theorem dL_cell_12 : decode cL_cell 12 = .ok (.ldc 7, 2) := by decide +kernel
theorem dL_cell_14 : decode cL_cell 14 = .ok (.iload_n 1, 1) := by decide +kernel
theorem dL_cell_15 : decode cL_cell 15 = .ok (.sipush 541, 3) := by decide +kernel
theorem dL_cell_18 : decode cL_cell 18 = .ok (.iadd, 1) := by decide +kernel
theorem dL_cell_19 : decode cL_cell 19 = .ok (.imul, 1) := by decide +kernel
theorem dL_cell_20 : decode cL_cell 20 = .ok (.ireturn, 1) := by decide +kernel
theorem dL_up_0 : decode cL_up 0 = .ok (.iload_n 0, 1) := by decide +kernel
theorem dL_up_1 : decode cL_up 1 = .ok (.ldc 8, 2) := by decide +kernel
theorem dL_up_3 : decode cL_up 3 = .ok (.iand, 1) := by decide +kernel
theorem dL_up_4 : decode cL_up 4 = .ok (.iload_n 1, 1) := by decide +kernel
theorem dL_up_5 : decode cL_up 5 = .ok (.irem, 1) := by decide +kernel
theorem dL_up_6 : decode cL_up 6 = .ok (.ireturn, 1) := by decide +kernel
theorem dL_lay_0 : decode cL_lay 0 = .ok (.iconst 0, 1) := by decide +kernel
theorem dL_lay_1 : decode cL_lay 1 = .ok (.istore_n 2, 1) := by decide +kernel
theorem dL_lay_2 : decode cL_lay 2 = .ok (.iload_n 2, 1) := by decide +kernel
theorem dL_lay_3 : decode cL_lay 3 = .ok (.bipush 38, 2) := by decide +kernel
theorem dL_lay_5 : decode cL_lay 5 = .ok (.if_icmp .ge 13, 3) := by decide +kernel
theorem dL_lay_8 : decode cL_lay 8 = .ok (.aload_n 1, 1) := by decide +kernel
theorem dL_lay_9 : decode cL_lay 9 = .ok (.iload_n 2, 1) := by decide +kernel
theorem dL_lay_10 : decode cL_lay 10 = .ok (.iconst 0, 1) := by decide +kernel
theorem dL_lay_11 : decode cL_lay 11 = .ok (.iastore, 1) := by decide +kernel
theorem dL_lay_12 : decode cL_lay 12 = .ok (.iinc 2 1, 3) := by decide +kernel
theorem dL_lay_15 : decode cL_lay 15 = .ok (.goto (-13), 3) := by decide +kernel
theorem dL_lay_18 : decode cL_lay 18 = .ok (.aload_n 1, 1) := by decide +kernel
theorem dL_lay_19 : decode cL_lay 19 = .ok (.iconst 0, 1) := by decide +kernel
theorem dL_lay_20 : decode cL_lay 20 = .ok (.iconst 1, 1) := by decide +kernel
theorem dL_lay_21 : decode cL_lay 21 = .ok (.aload_n 0, 1) := by decide +kernel
theorem dL_lay_22 : decode cL_lay 22 = .ok (.iconst 0, 1) := by decide +kernel
theorem dL_lay_23 : decode cL_lay 23 = .ok (.invokestatic 9, 3) := by decide +kernel
theorem dL_lay_26 : decode cL_lay 26 = .ok (.bipush 6, 2) := by decide +kernel
theorem dL_lay_28 : decode cL_lay 28 = .ok (.invokestatic 15, 3) := by decide +kernel
theorem dL_lay_31 : decode cL_lay 31 = .ok (.iadd, 1) := by decide +kernel
theorem dL_lay_32 : decode cL_lay 32 = .ok (.iastore, 1) := by decide +kernel
theorem dL_lay_33 : decode cL_lay 33 = .ok (.aload_n 1, 1) := by decide +kernel
theorem dL_lay_34 : decode cL_lay 34 = .ok (.iconst 1, 1) := by decide +kernel
theorem dL_lay_35 : decode cL_lay 35 = .ok (.iconst 1, 1) := by decide +kernel
theorem dL_lay_36 : decode cL_lay 36 = .ok (.aload_n 0, 1) := by decide +kernel
theorem dL_lay_37 : decode cL_lay 37 = .ok (.iconst 0, 1) := by decide +kernel
theorem dL_lay_38 : decode cL_lay 38 = .ok (.invokestatic 9, 3) := by decide +kernel
theorem dL_lay_41 : decode cL_lay 41 = .ok (.iconst 4, 1) := by decide +kernel
theorem dL_lay_42 : decode cL_lay 42 = .ok (.ishr, 1) := by decide +kernel
theorem dL_lay_43 : decode cL_lay 43 = .ok (.iconst 4, 1) := by decide +kernel
theorem dL_lay_44 : decode cL_lay 44 = .ok (.invokestatic 15, 3) := by decide +kernel
theorem dL_lay_47 : decode cL_lay 47 = .ok (.iadd, 1) := by decide +kernel
theorem dL_lay_48 : decode cL_lay 48 = .ok (.iastore, 1) := by decide +kernel
theorem dL_lay_49 : decode cL_lay 49 = .ok (.aload_n 1, 1) := by decide +kernel
theorem dL_lay_50 : decode cL_lay 50 = .ok (.bipush 26, 2) := by decide +kernel
theorem dL_lay_52 : decode cL_lay 52 = .ok (.aload_n 0, 1) := by decide +kernel
theorem dL_lay_53 : decode cL_lay 53 = .ok (.iconst 0, 1) := by decide +kernel
theorem dL_lay_54 : decode cL_lay 54 = .ok (.invokestatic 9, 3) := by decide +kernel
theorem dL_lay_57 : decode cL_lay 57 = .ok (.bipush 8, 2) := by decide +kernel
theorem dL_lay_59 : decode cL_lay 59 = .ok (.ishr, 1) := by decide +kernel
theorem dL_lay_60 : decode cL_lay 60 = .ok (.iconst 1, 1) := by decide +kernel
theorem dL_lay_61 : decode cL_lay 61 = .ok (.iand, 1) := by decide +kernel
theorem dL_lay_62 : decode cL_lay 62 = .ok (.iastore, 1) := by decide +kernel
theorem dL_lay_63 : decode cL_lay 63 = .ok (.iconst 0, 1) := by decide +kernel
theorem dL_lay_64 : decode cL_lay 64 = .ok (.istore_n 2, 1) := by decide +kernel
theorem dL_lay_65 : decode cL_lay 65 = .ok (.iload_n 2, 1) := by decide +kernel
theorem dL_lay_66 : decode cL_lay 66 = .ok (.aload_n 1, 1) := by decide +kernel
theorem dL_lay_67 : decode cL_lay 67 = .ok (.iconst 0, 1) := by decide +kernel
theorem dL_lay_68 : decode cL_lay 68 = .ok (.iaload, 1) := by decide +kernel
theorem dL_lay_69 : decode cL_lay 69 = .ok (.if_icmp .ge 112, 3) := by decide +kernel
theorem dL_lay_72 : decode cL_lay 72 = .ok (.aload_n 0, 1) := by decide +kernel
theorem dL_lay_73 : decode cL_lay 73 = .ok (.iconst 1, 1) := by decide +kernel
theorem dL_lay_74 : decode cL_lay 74 = .ok (.iload_n 2, 1) := by decide +kernel
theorem dL_lay_75 : decode cL_lay 75 = .ok (.iadd, 1) := by decide +kernel
theorem dL_lay_76 : decode cL_lay 76 = .ok (.invokestatic 9, 3) := by decide +kernel
theorem dL_lay_79 : decode cL_lay 79 = .ok (.istore_n 3, 1) := by decide +kernel
theorem dL_lay_80 : decode cL_lay 80 = .ok (.aload_n 1, 1) := by decide +kernel
theorem dL_lay_81 : decode cL_lay 81 = .ok (.iconst 2, 1) := by decide +kernel
theorem dL_lay_82 : decode cL_lay 82 = .ok (.iload_n 2, 1) := by decide +kernel
theorem dL_lay_83 : decode cL_lay 83 = .ok (.iadd, 1) := by decide +kernel
theorem dL_lay_84 : decode cL_lay 84 = .ok (.iload_n 3, 1) := by decide +kernel
theorem dL_lay_85 : decode cL_lay 85 = .ok (.bipush 6, 2) := by decide +kernel
theorem dL_lay_87 : decode cL_lay 87 = .ok (.invokestatic 15, 3) := by decide +kernel
theorem dL_lay_90 : decode cL_lay 90 = .ok (.iastore, 1) := by decide +kernel
theorem dL_lay_91 : decode cL_lay 91 = .ok (.aload_n 1, 1) := by decide +kernel
theorem dL_lay_92 : decode cL_lay 92 = .ok (.bipush 8, 2) := by decide +kernel
theorem dL_lay_94 : decode cL_lay 94 = .ok (.iload_n 2, 1) := by decide +kernel
theorem dL_lay_95 : decode cL_lay 95 = .ok (.iadd, 1) := by decide +kernel
theorem dL_lay_96 : decode cL_lay 96 = .ok (.iconst 1, 1) := by decide +kernel
theorem dL_lay_97 : decode cL_lay 97 = .ok (.iload_n 3, 1) := by decide +kernel
theorem dL_lay_98 : decode cL_lay 98 = .ok (.iconst 4, 1) := by decide +kernel
theorem dL_lay_99 : decode cL_lay 99 = .ok (.ishr, 1) := by decide +kernel
theorem dL_lay_100 : decode cL_lay 100 = .ok (.bipush 9, 2) := by decide +kernel
theorem dL_lay_102 : decode cL_lay 102 = .ok (.invokestatic 15, 3) := by decide +kernel
theorem dL_lay_105 : decode cL_lay 105 = .ok (.iadd, 1) := by decide +kernel
theorem dL_lay_106 : decode cL_lay 106 = .ok (.iastore, 1) := by decide +kernel
theorem dL_lay_107 : decode cL_lay 107 = .ok (.aload_n 1, 1) := by decide +kernel
theorem dL_lay_108 : decode cL_lay 108 = .ok (.bipush 14, 2) := by decide +kernel
theorem dL_lay_110 : decode cL_lay 110 = .ok (.iload_n 2, 1) := by decide +kernel
theorem dL_lay_111 : decode cL_lay 111 = .ok (.iadd, 1) := by decide +kernel
theorem dL_lay_112 : decode cL_lay 112 = .ok (.iload_n 3, 1) := by decide +kernel
theorem dL_lay_113 : decode cL_lay 113 = .ok (.bipush 8, 2) := by decide +kernel
theorem dL_lay_115 : decode cL_lay 115 = .ok (.ishr, 1) := by decide +kernel
theorem dL_lay_116 : decode cL_lay 116 = .ok (.iload_n 3, 1) := by decide +kernel
theorem dL_lay_117 : decode cL_lay 117 = .ok (.bipush 20, 2) := by decide +kernel
theorem dL_lay_119 : decode cL_lay 119 = .ok (.ishr, 1) := by decide +kernel
theorem dL_lay_120 : decode cL_lay 120 = .ok (.iconst 3, 1) := by decide +kernel
theorem dL_lay_121 : decode cL_lay 121 = .ok (.invokestatic 15, 3) := by decide +kernel
theorem dL_lay_124 : decode cL_lay 124 = .ok (.ifCond .ne 8, 3) := by decide +kernel
theorem dL_lay_127 : decode cL_lay 127 = .ok (.bipush 6, 2) := by decide +kernel
theorem dL_lay_129 : decode cL_lay 129 = .ok (.goto 6, 3) := by decide +kernel
theorem dL_lay_132 : decode cL_lay 132 = .ok (.aload_n 1, 1) := by decide +kernel
theorem dL_lay_133 : decode cL_lay 133 = .ok (.iconst 0, 1) := by decide +kernel
theorem dL_lay_134 : decode cL_lay 134 = .ok (.iaload, 1) := by decide +kernel
theorem dL_lay_135 : decode cL_lay 135 = .ok (.invokestatic 15, 3) := by decide +kernel
theorem dL_lay_138 : decode cL_lay 138 = .ok (.iastore, 1) := by decide +kernel
theorem dL_lay_139 : decode cL_lay 139 = .ok (.aload_n 1, 1) := by decide +kernel
theorem dL_lay_140 : decode cL_lay 140 = .ok (.bipush 20, 2) := by decide +kernel
theorem dL_lay_142 : decode cL_lay 142 = .ok (.iload_n 2, 1) := by decide +kernel
theorem dL_lay_143 : decode cL_lay 143 = .ok (.iadd, 1) := by decide +kernel
theorem dL_lay_144 : decode cL_lay 144 = .ok (.iload_n 3, 1) := by decide +kernel
theorem dL_lay_145 : decode cL_lay 145 = .ok (.bipush 11, 2) := by decide +kernel
theorem dL_lay_147 : decode cL_lay 147 = .ok (.ishr, 1) := by decide +kernel
theorem dL_lay_148 : decode cL_lay 148 = .ok (.iconst 3, 1) := by decide +kernel
theorem dL_lay_149 : decode cL_lay 149 = .ok (.invokestatic 15, 3) := by decide +kernel
theorem dL_lay_152 : decode cL_lay 152 = .ok (.ifCond .ne 7, 3) := by decide +kernel
theorem dL_lay_155 : decode cL_lay 155 = .ok (.iconst 0, 1) := by decide +kernel
theorem dL_lay_156 : decode cL_lay 156 = .ok (.goto 18, 3) := by decide +kernel
theorem dL_lay_159 : decode cL_lay 159 = .ok (.iload_n 3, 1) := by decide +kernel
theorem dL_lay_160 : decode cL_lay 160 = .ok (.bipush 13, 2) := by decide +kernel
theorem dL_lay_162 : decode cL_lay 162 = .ok (.ishr, 1) := by decide +kernel
theorem dL_lay_163 : decode cL_lay 163 = .ok (.aload_n 1, 1) := by decide +kernel
theorem dL_lay_164 : decode cL_lay 164 = .ok (.bipush 8, 2) := by decide +kernel
theorem dL_lay_166 : decode cL_lay 166 = .ok (.iload_n 2, 1) := by decide +kernel
theorem dL_lay_167 : decode cL_lay 167 = .ok (.iadd, 1) := by decide +kernel
theorem dL_lay_168 : decode cL_lay 168 = .ok (.iaload, 1) := by decide +kernel
theorem dL_lay_169 : decode cL_lay 169 = .ok (.iconst 1, 1) := by decide +kernel
theorem dL_lay_170 : decode cL_lay 170 = .ok (.iadd, 1) := by decide +kernel
theorem dL_lay_171 : decode cL_lay 171 = .ok (.invokestatic 15, 3) := by decide +kernel
theorem dL_lay_174 : decode cL_lay 174 = .ok (.iastore, 1) := by decide +kernel
theorem dL_lay_175 : decode cL_lay 175 = .ok (.iinc 2 1, 3) := by decide +kernel
theorem dL_lay_178 : decode cL_lay 178 = .ok (.goto (-113), 3) := by decide +kernel
theorem dL_lay_181 : decode cL_lay 181 = .ok (.iconst 0, 1) := by decide +kernel
theorem dL_lay_182 : decode cL_lay 182 = .ok (.istore_n 2, 1) := by decide +kernel
theorem dL_lay_183 : decode cL_lay 183 = .ok (.iload_n 2, 1) := by decide +kernel
theorem dL_lay_184 : decode cL_lay 184 = .ok (.aload_n 1, 1) := by decide +kernel
theorem dL_lay_185 : decode cL_lay 185 = .ok (.iconst 1, 1) := by decide +kernel
theorem dL_lay_186 : decode cL_lay 186 = .ok (.iaload, 1) := by decide +kernel
theorem dL_lay_187 : decode cL_lay 187 = .ok (.if_icmp .ge 90, 3) := by decide +kernel
theorem dL_lay_190 : decode cL_lay 190 = .ok (.aload_n 0, 1) := by decide +kernel
theorem dL_lay_191 : decode cL_lay 191 = .ok (.bipush 7, 2) := by decide +kernel
theorem dL_lay_193 : decode cL_lay 193 = .ok (.iload_n 2, 1) := by decide +kernel
theorem dL_lay_194 : decode cL_lay 194 = .ok (.iadd, 1) := by decide +kernel
theorem dL_lay_195 : decode cL_lay 195 = .ok (.invokestatic 9, 3) := by decide +kernel
theorem dL_lay_198 : decode cL_lay 198 = .ok (.istore_n 3, 1) := by decide +kernel
theorem dL_lay_199 : decode cL_lay 199 = .ok (.aload_n 1, 1) := by decide +kernel
theorem dL_lay_200 : decode cL_lay 200 = .ok (.bipush 27, 2) := by decide +kernel
theorem dL_lay_202 : decode cL_lay 202 = .ok (.iload_n 2, 1) := by decide +kernel
theorem dL_lay_203 : decode cL_lay 203 = .ok (.iadd, 1) := by decide +kernel
theorem dL_lay_204 : decode cL_lay 204 = .ok (.iload_n 3, 1) := by decide +kernel
theorem dL_lay_205 : decode cL_lay 205 = .ok (.bipush 64, 2) := by decide +kernel
theorem dL_lay_207 : decode cL_lay 207 = .ok (.invokestatic 15, 3) := by decide +kernel
theorem dL_lay_210 : decode cL_lay 210 = .ok (.iload_n 3, 1) := by decide +kernel
theorem dL_lay_211 : decode cL_lay 211 = .ok (.bipush 6, 2) := by decide +kernel
theorem dL_lay_213 : decode cL_lay 213 = .ok (.ishr, 1) := by decide +kernel
theorem dL_lay_214 : decode cL_lay 214 = .ok (.bipush 64, 2) := by decide +kernel
theorem dL_lay_216 : decode cL_lay 216 = .ok (.invokestatic 15, 3) := by decide +kernel
theorem dL_lay_219 : decode cL_lay 219 = .ok (.iand, 1) := by decide +kernel
theorem dL_lay_220 : decode cL_lay 220 = .ok (.iastore, 1) := by decide +kernel
theorem dL_lay_221 : decode cL_lay 221 = .ok (.aload_n 1, 1) := by decide +kernel
theorem dL_lay_222 : decode cL_lay 222 = .ok (.bipush 31, 2) := by decide +kernel
theorem dL_lay_224 : decode cL_lay 224 = .ok (.iload_n 2, 1) := by decide +kernel
theorem dL_lay_225 : decode cL_lay 225 = .ok (.iadd, 1) := by decide +kernel
theorem dL_lay_226 : decode cL_lay 226 = .ok (.iload_n 3, 1) := by decide +kernel
theorem dL_lay_227 : decode cL_lay 227 = .ok (.bipush 12, 2) := by decide +kernel
theorem dL_lay_229 : decode cL_lay 229 = .ok (.ishr, 1) := by decide +kernel
theorem dL_lay_230 : decode cL_lay 230 = .ok (.bipush 64, 2) := by decide +kernel
theorem dL_lay_232 : decode cL_lay 232 = .ok (.invokestatic 15, 3) := by decide +kernel
theorem dL_lay_235 : decode cL_lay 235 = .ok (.iload_n 3, 1) := by decide +kernel
theorem dL_lay_236 : decode cL_lay 236 = .ok (.bipush 18, 2) := by decide +kernel
theorem dL_lay_238 : decode cL_lay 238 = .ok (.ishr, 1) := by decide +kernel
theorem dL_lay_239 : decode cL_lay 239 = .ok (.bipush 64, 2) := by decide +kernel
theorem dL_lay_241 : decode cL_lay 241 = .ok (.invokestatic 15, 3) := by decide +kernel
theorem dL_lay_244 : decode cL_lay 244 = .ok (.iand, 1) := by decide +kernel
theorem dL_lay_245 : decode cL_lay 245 = .ok (.iload_n 3, 1) := by decide +kernel
theorem dL_lay_246 : decode cL_lay 246 = .ok (.bipush 24, 2) := by decide +kernel
theorem dL_lay_248 : decode cL_lay 248 = .ok (.ishr, 1) := by decide +kernel
theorem dL_lay_249 : decode cL_lay 249 = .ok (.iconst 2, 1) := by decide +kernel
theorem dL_lay_250 : decode cL_lay 250 = .ok (.invokestatic 15, 3) := by decide +kernel
theorem dL_lay_253 : decode cL_lay 253 = .ok (.ifCond .ne 8, 3) := by decide +kernel
theorem dL_lay_256 : decode cL_lay 256 = .ok (.bipush 63, 2) := by decide +kernel
theorem dL_lay_258 : decode cL_lay 258 = .ok (.goto 11, 3) := by decide +kernel
theorem dL_lay_261 : decode cL_lay 261 = .ok (.aload_n 1, 1) := by decide +kernel
theorem dL_lay_262 : decode cL_lay 262 = .ok (.bipush 27, 2) := by decide +kernel
theorem dL_lay_264 : decode cL_lay 264 = .ok (.iload_n 2, 1) := by decide +kernel
theorem dL_lay_265 : decode cL_lay 265 = .ok (.iadd, 1) := by decide +kernel
theorem dL_lay_266 : decode cL_lay 266 = .ok (.iaload, 1) := by decide +kernel
theorem dL_lay_267 : decode cL_lay 267 = .ok (.iconst (-1), 1) := by decide +kernel
theorem dL_lay_268 : decode cL_lay 268 = .ok (.ixor, 1) := by decide +kernel
theorem dL_lay_269 : decode cL_lay 269 = .ok (.iand, 1) := by decide +kernel
theorem dL_lay_270 : decode cL_lay 270 = .ok (.iastore, 1) := by decide +kernel
theorem dL_lay_271 : decode cL_lay 271 = .ok (.iinc 2 1, 3) := by decide +kernel
theorem dL_lay_274 : decode cL_lay 274 = .ok (.goto (-91), 3) := by decide +kernel
theorem dL_lay_277 : decode cL_lay 277 = .ok (.return_, 1) := by decide +kernel
theorem dL_letter_0 : decode cL_letter 0 = .ok (.iload_n 0, 1) := by decide +kernel
theorem dL_letter_1 : decode cL_letter 1 = .ok (.ifCond .ne 8, 3) := by decide +kernel
theorem dL_letter_4 : decode cL_letter 4 = .ok (.bipush 114, 2) := by decide +kernel
theorem dL_letter_6 : decode cL_letter 6 = .ok (.goto 45, 3) := by decide +kernel
theorem dL_letter_9 : decode cL_letter 9 = .ok (.iload_n 0, 1) := by decide +kernel
theorem dL_letter_10 : decode cL_letter 10 = .ok (.iconst 1, 1) := by decide +kernel
theorem dL_letter_11 : decode cL_letter 11 = .ok (.if_icmp .ne 8, 3) := by decide +kernel
theorem dL_letter_14 : decode cL_letter 14 = .ok (.bipush 115, 2) := by decide +kernel
theorem dL_letter_16 : decode cL_letter 16 = .ok (.goto 35, 3) := by decide +kernel
theorem dL_letter_19 : decode cL_letter 19 = .ok (.iload_n 0, 1) := by decide +kernel
theorem dL_letter_20 : decode cL_letter 20 = .ok (.iconst 2, 1) := by decide +kernel
theorem dL_letter_21 : decode cL_letter 21 = .ok (.if_icmp .ne 8, 3) := by decide +kernel
theorem dL_letter_24 : decode cL_letter 24 = .ok (.bipush 112, 2) := by decide +kernel
theorem dL_letter_26 : decode cL_letter 26 = .ok (.goto 25, 3) := by decide +kernel
theorem dL_letter_29 : decode cL_letter 29 = .ok (.iload_n 0, 1) := by decide +kernel
theorem dL_letter_30 : decode cL_letter 30 = .ok (.iconst 3, 1) := by decide +kernel
theorem dL_letter_31 : decode cL_letter 31 = .ok (.if_icmp .ne 8, 3) := by decide +kernel
theorem dL_letter_34 : decode cL_letter 34 = .ok (.bipush 110, 2) := by decide +kernel
theorem dL_letter_36 : decode cL_letter 36 = .ok (.goto 15, 3) := by decide +kernel
theorem dL_letter_39 : decode cL_letter 39 = .ok (.iload_n 0, 1) := by decide +kernel
theorem dL_letter_40 : decode cL_letter 40 = .ok (.iconst 4, 1) := by decide +kernel
theorem dL_letter_41 : decode cL_letter 41 = .ok (.if_icmp .ne 8, 3) := by decide +kernel
theorem dL_letter_44 : decode cL_letter 44 = .ok (.bipush 116, 2) := by decide +kernel
theorem dL_letter_46 : decode cL_letter 46 = .ok (.goto 5, 3) := by decide +kernel
theorem dL_letter_49 : decode cL_letter 49 = .ok (.bipush 119, 2) := by decide +kernel
theorem dL_letter_51 : decode cL_letter 51 = .ok (.ireturn, 1) := by decide +kernel
theorem dL_sign_0 : decode cL_sign 0 = .ok (.aload_n 0, 1) := by decide +kernel
theorem dL_sign_1 : decode cL_sign 1 = .ok (.iconst 0, 1) := by decide +kernel
theorem dL_sign_2 : decode cL_sign 2 = .ok (.iload_n 1, 1) := by decide +kernel
theorem dL_sign_3 : decode cL_sign 3 = .ok (.iload_n 2, 1) := by decide +kernel
theorem dL_sign_4 : decode cL_sign 4 = .ok (.invokevirtual 19, 3) := by decide +kernel
theorem dL_sign_7 : decode cL_sign 7 = .ok (.sipush 1032, 3) := by decide +kernel
theorem dL_sign_10 : decode cL_sign 10 = .ok (.if_icmp .ne 7, 3) := by decide +kernel
theorem dL_sign_13 : decode cL_sign 13 = .ok (.iconst 1, 1) := by decide +kernel
theorem dL_sign_14 : decode cL_sign 14 = .ok (.goto 4, 3) := by decide +kernel
theorem dL_sign_17 : decode cL_sign 17 = .ok (.iconst 0, 1) := by decide +kernel
theorem dL_sign_18 : decode cL_sign 18 = .ok (.ireturn, 1) := by decide +kernel
theorem dL_made_0 : decode cL_made 0 = .ok (.iconst 2, 1) := by decide +kernel
theorem dL_made_1 : decode cL_made 1 = .ok (.iconst 4, 1) := by decide +kernel
theorem dL_made_2 : decode cL_made 2 = .ok (.aload_n 1, 1) := by decide +kernel
theorem dL_made_3 : decode cL_made 3 = .ok (.iconst 0, 1) := by decide +kernel
theorem dL_made_4 : decode cL_made 4 = .ok (.iaload, 1) := by decide +kernel
theorem dL_made_5 : decode cL_made 5 = .ok (.imul, 1) := by decide +kernel
theorem dL_made_6 : decode cL_made 6 = .ok (.iadd, 1) := by decide +kernel
theorem dL_made_7 : decode cL_made 7 = .ok (.iconst 5, 1) := by decide +kernel
theorem dL_made_8 : decode cL_made 8 = .ok (.aload_n 1, 1) := by decide +kernel
theorem dL_made_9 : decode cL_made 9 = .ok (.iconst 1, 1) := by decide +kernel
theorem dL_made_10 : decode cL_made 10 = .ok (.iaload, 1) := by decide +kernel
theorem dL_made_11 : decode cL_made 11 = .ok (.imul, 1) := by decide +kernel
theorem dL_made_12 : decode cL_made 12 = .ok (.iadd, 1) := by decide +kernel
theorem dL_made_13 : decode cL_made 13 = .ok (.istore_n 2, 1) := by decide +kernel
theorem dL_made_14 : decode cL_made 14 = .ok (.aload_n 0, 1) := by decide +kernel
theorem dL_made_15 : decode cL_made 15 = .ok (.iconst 0, 1) := by decide +kernel
theorem dL_made_16 : decode cL_made 16 = .ok (.iload_n 2, 1) := by decide +kernel
theorem dL_made_17 : decode cL_made 17 = .ok (.invokevirtual 25, 3) := by decide +kernel
theorem dL_made_20 : decode cL_made 20 = .ok (.iload_n 2, 1) := by decide +kernel
theorem dL_made_21 : decode cL_made 21 = .ok (.if_icmp .ne 32, 3) := by decide +kernel
theorem dL_made_24 : decode cL_made 24 = .ok (.aload_n 0, 1) := by decide +kernel
theorem dL_made_25 : decode cL_made 25 = .ok (.iconst 0, 1) := by decide +kernel
theorem dL_made_26 : decode cL_made 26 = .ok (.bipush 104, 2) := by decide +kernel
theorem dL_made_28 : decode cL_made 28 = .ok (.invokestatic 28, 3) := by decide +kernel
theorem dL_made_31 : decode cL_made 31 = .ok (.ifCond .eq 22, 3) := by decide +kernel
theorem dL_made_34 : decode cL_made 34 = .ok (.aload_n 0, 1) := by decide +kernel
theorem dL_made_35 : decode cL_made 35 = .ok (.iconst 1, 1) := by decide +kernel
theorem dL_made_36 : decode cL_made 36 = .ok (.bipush 48, 2) := by decide +kernel
theorem dL_made_38 : decode cL_made 38 = .ok (.aload_n 1, 1) := by decide +kernel
theorem dL_made_39 : decode cL_made 39 = .ok (.bipush 26, 2) := by decide +kernel
theorem dL_made_41 : decode cL_made 41 = .ok (.iaload, 1) := by decide +kernel
theorem dL_made_42 : decode cL_made 42 = .ok (.iadd, 1) := by decide +kernel
theorem dL_made_43 : decode cL_made 43 = .ok (.invokestatic 28, 3) := by decide +kernel
theorem dL_made_46 : decode cL_made 46 = .ok (.ifCond .eq 7, 3) := by decide +kernel
theorem dL_made_49 : decode cL_made 49 = .ok (.iconst 1, 1) := by decide +kernel
theorem dL_made_50 : decode cL_made 50 = .ok (.goto 4, 3) := by decide +kernel
theorem dL_made_53 : decode cL_made 53 = .ok (.iconst 0, 1) := by decide +kernel
theorem dL_made_54 : decode cL_made 54 = .ok (.istore_n 3, 1) := by decide +kernel
theorem dL_made_55 : decode cL_made 55 = .ok (.iconst 0, 1) := by decide +kernel
theorem dL_made_56 : decode cL_made 56 = .ok (.istore 4, 2) := by decide +kernel
theorem dL_made_58 : decode cL_made 58 = .ok (.iload 4, 2) := by decide +kernel
theorem dL_made_60 : decode cL_made 60 = .ok (.aload_n 1, 1) := by decide +kernel
theorem dL_made_61 : decode cL_made 61 = .ok (.iconst 0, 1) := by decide +kernel
theorem dL_made_62 : decode cL_made 62 = .ok (.iaload, 1) := by decide +kernel
theorem dL_made_63 : decode cL_made 63 = .ok (.if_icmp .ge 110, 3) := by decide +kernel
theorem dL_made_66 : decode cL_made 66 = .ok (.iload_n 3, 1) := by decide +kernel
theorem dL_made_67 : decode cL_made 67 = .ok (.ifCond .eq 98, 3) := by decide +kernel
theorem dL_made_70 : decode cL_made 70 = .ok (.aload_n 0, 1) := by decide +kernel
theorem dL_made_71 : decode cL_made 71 = .ok (.iconst 2, 1) := by decide +kernel
theorem dL_made_72 : decode cL_made 72 = .ok (.iconst 4, 1) := by decide +kernel
theorem dL_made_73 : decode cL_made 73 = .ok (.iload 4, 2) := by decide +kernel
theorem dL_made_75 : decode cL_made 75 = .ok (.imul, 1) := by decide +kernel
theorem dL_made_76 : decode cL_made 76 = .ok (.iadd, 1) := by decide +kernel
theorem dL_made_77 : decode cL_made 77 = .ok (.aload_n 1, 1) := by decide +kernel
theorem dL_made_78 : decode cL_made 78 = .ok (.iconst 2, 1) := by decide +kernel
theorem dL_made_79 : decode cL_made 79 = .ok (.iload 4, 2) := by decide +kernel
theorem dL_made_81 : decode cL_made 81 = .ok (.iadd, 1) := by decide +kernel
theorem dL_made_82 : decode cL_made 82 = .ok (.iaload, 1) := by decide +kernel
theorem dL_made_83 : decode cL_made 83 = .ok (.invokestatic 32, 3) := by decide +kernel
theorem dL_made_86 : decode cL_made 86 = .ok (.invokestatic 28, 3) := by decide +kernel
theorem dL_made_89 : decode cL_made 89 = .ok (.ifCond .eq 76, 3) := by decide +kernel
theorem dL_made_92 : decode cL_made 92 = .ok (.aload_n 0, 1) := by decide +kernel
theorem dL_made_93 : decode cL_made 93 = .ok (.iconst 3, 1) := by decide +kernel
theorem dL_made_94 : decode cL_made 94 = .ok (.iconst 4, 1) := by decide +kernel
theorem dL_made_95 : decode cL_made 95 = .ok (.iload 4, 2) := by decide +kernel
theorem dL_made_97 : decode cL_made 97 = .ok (.imul, 1) := by decide +kernel
theorem dL_made_98 : decode cL_made 98 = .ok (.iadd, 1) := by decide +kernel
theorem dL_made_99 : decode cL_made 99 = .ok (.bipush 48, 2) := by decide +kernel
theorem dL_made_101 : decode cL_made 101 = .ok (.aload_n 1, 1) := by decide +kernel
theorem dL_made_102 : decode cL_made 102 = .ok (.bipush 8, 2) := by decide +kernel
theorem dL_made_104 : decode cL_made 104 = .ok (.iload 4, 2) := by decide +kernel
theorem dL_made_106 : decode cL_made 106 = .ok (.iadd, 1) := by decide +kernel
theorem dL_made_107 : decode cL_made 107 = .ok (.iaload, 1) := by decide +kernel
theorem dL_made_108 : decode cL_made 108 = .ok (.iadd, 1) := by decide +kernel
theorem dL_made_109 : decode cL_made 109 = .ok (.invokestatic 28, 3) := by decide +kernel
theorem dL_made_112 : decode cL_made 112 = .ok (.ifCond .eq 53, 3) := by decide +kernel
theorem dL_made_115 : decode cL_made 115 = .ok (.aload_n 0, 1) := by decide +kernel
theorem dL_made_116 : decode cL_made 116 = .ok (.iconst 4, 1) := by decide +kernel
theorem dL_made_117 : decode cL_made 117 = .ok (.iconst 4, 1) := by decide +kernel
theorem dL_made_118 : decode cL_made 118 = .ok (.iload 4, 2) := by decide +kernel
theorem dL_made_120 : decode cL_made 120 = .ok (.imul, 1) := by decide +kernel
theorem dL_made_121 : decode cL_made 121 = .ok (.iadd, 1) := by decide +kernel
theorem dL_made_122 : decode cL_made 122 = .ok (.bipush 48, 2) := by decide +kernel
theorem dL_made_124 : decode cL_made 124 = .ok (.aload_n 1, 1) := by decide +kernel
theorem dL_made_125 : decode cL_made 125 = .ok (.bipush 14, 2) := by decide +kernel
theorem dL_made_127 : decode cL_made 127 = .ok (.iload 4, 2) := by decide +kernel
theorem dL_made_129 : decode cL_made 129 = .ok (.iadd, 1) := by decide +kernel
theorem dL_made_130 : decode cL_made 130 = .ok (.iaload, 1) := by decide +kernel
theorem dL_made_131 : decode cL_made 131 = .ok (.iadd, 1) := by decide +kernel
theorem dL_made_132 : decode cL_made 132 = .ok (.invokestatic 28, 3) := by decide +kernel
theorem dL_made_135 : decode cL_made 135 = .ok (.ifCond .eq 30, 3) := by decide +kernel
theorem dL_made_138 : decode cL_made 138 = .ok (.aload_n 0, 1) := by decide +kernel
theorem dL_made_139 : decode cL_made 139 = .ok (.iconst 5, 1) := by decide +kernel
theorem dL_made_140 : decode cL_made 140 = .ok (.iconst 4, 1) := by decide +kernel
theorem dL_made_141 : decode cL_made 141 = .ok (.iload 4, 2) := by decide +kernel
theorem dL_made_143 : decode cL_made 143 = .ok (.imul, 1) := by decide +kernel
theorem dL_made_144 : decode cL_made 144 = .ok (.iadd, 1) := by decide +kernel
theorem dL_made_145 : decode cL_made 145 = .ok (.bipush 48, 2) := by decide +kernel
theorem dL_made_147 : decode cL_made 147 = .ok (.aload_n 1, 1) := by decide +kernel
theorem dL_made_148 : decode cL_made 148 = .ok (.bipush 20, 2) := by decide +kernel
theorem dL_made_150 : decode cL_made 150 = .ok (.iload 4, 2) := by decide +kernel
theorem dL_made_152 : decode cL_made 152 = .ok (.iadd, 1) := by decide +kernel
theorem dL_made_153 : decode cL_made 153 = .ok (.iaload, 1) := by decide +kernel
theorem dL_made_154 : decode cL_made 154 = .ok (.iadd, 1) := by decide +kernel
theorem dL_made_155 : decode cL_made 155 = .ok (.invokestatic 28, 3) := by decide +kernel
theorem dL_made_158 : decode cL_made 158 = .ok (.ifCond .eq 7, 3) := by decide +kernel
theorem dL_made_161 : decode cL_made 161 = .ok (.iconst 1, 1) := by decide +kernel
theorem dL_made_162 : decode cL_made 162 = .ok (.goto 4, 3) := by decide +kernel
theorem dL_made_165 : decode cL_made 165 = .ok (.iconst 0, 1) := by decide +kernel
theorem dL_made_166 : decode cL_made 166 = .ok (.istore_n 3, 1) := by decide +kernel
theorem dL_made_167 : decode cL_made 167 = .ok (.iinc 4 1, 3) := by decide +kernel
theorem dL_made_170 : decode cL_made 170 = .ok (.goto (-112), 3) := by decide +kernel
theorem dL_made_173 : decode cL_made 173 = .ok (.iconst 0, 1) := by decide +kernel
theorem dL_made_174 : decode cL_made 174 = .ok (.istore 4, 2) := by decide +kernel
theorem dL_made_176 : decode cL_made 176 = .ok (.iload 4, 2) := by decide +kernel
theorem dL_made_178 : decode cL_made 178 = .ok (.aload_n 1, 1) := by decide +kernel
theorem dL_made_179 : decode cL_made 179 = .ok (.iconst 1, 1) := by decide +kernel
theorem dL_made_180 : decode cL_made 180 = .ok (.iaload, 1) := by decide +kernel
theorem dL_made_181 : decode cL_made 181 = .ok (.if_icmp .ge 140, 3) := by decide +kernel
theorem dL_made_184 : decode cL_made 184 = .ok (.iconst 2, 1) := by decide +kernel
theorem dL_made_185 : decode cL_made 185 = .ok (.iconst 4, 1) := by decide +kernel
theorem dL_made_186 : decode cL_made 186 = .ok (.aload_n 1, 1) := by decide +kernel
theorem dL_made_187 : decode cL_made 187 = .ok (.iconst 0, 1) := by decide +kernel
theorem dL_made_188 : decode cL_made 188 = .ok (.iaload, 1) := by decide +kernel
theorem dL_made_189 : decode cL_made 189 = .ok (.imul, 1) := by decide +kernel
theorem dL_made_190 : decode cL_made 190 = .ok (.iadd, 1) := by decide +kernel
theorem dL_made_191 : decode cL_made 191 = .ok (.iconst 5, 1) := by decide +kernel
theorem dL_made_192 : decode cL_made 192 = .ok (.iload 4, 2) := by decide +kernel
theorem dL_made_194 : decode cL_made 194 = .ok (.imul, 1) := by decide +kernel
theorem dL_made_195 : decode cL_made 195 = .ok (.iadd, 1) := by decide +kernel
theorem dL_made_196 : decode cL_made 196 = .ok (.istore 5, 2) := by decide +kernel
theorem dL_made_198 : decode cL_made 198 = .ok (.iload_n 3, 1) := by decide +kernel
theorem dL_made_199 : decode cL_made 199 = .ok (.ifCond .eq 114, 3) := by decide +kernel
theorem dL_made_202 : decode cL_made 202 = .ok (.aload_n 0, 1) := by decide +kernel
theorem dL_made_203 : decode cL_made 203 = .ok (.iload 5, 2) := by decide +kernel
theorem dL_made_205 : decode cL_made 205 = .ok (.bipush 97, 2) := by decide +kernel
theorem dL_made_207 : decode cL_made 207 = .ok (.invokestatic 28, 3) := by decide +kernel
theorem dL_made_210 : decode cL_made 210 = .ok (.ifCond .eq 103, 3) := by decide +kernel
theorem dL_made_213 : decode cL_made 213 = .ok (.aload_n 0, 1) := by decide +kernel
theorem dL_made_214 : decode cL_made 214 = .ok (.iload 5, 2) := by decide +kernel
theorem dL_made_216 : decode cL_made 216 = .ok (.iconst 1, 1) := by decide +kernel
theorem dL_made_217 : decode cL_made 217 = .ok (.iadd, 1) := by decide +kernel
theorem dL_made_218 : decode cL_made 218 = .ok (.bipush 48, 2) := by decide +kernel
theorem dL_made_220 : decode cL_made 220 = .ok (.aload_n 1, 1) := by decide +kernel
theorem dL_made_221 : decode cL_made 221 = .ok (.bipush 27, 2) := by decide +kernel
theorem dL_made_223 : decode cL_made 223 = .ok (.iload 4, 2) := by decide +kernel
theorem dL_made_225 : decode cL_made 225 = .ok (.iadd, 1) := by decide +kernel
theorem dL_made_226 : decode cL_made 226 = .ok (.iaload, 1) := by decide +kernel
theorem dL_made_227 : decode cL_made 227 = .ok (.bipush 10, 2) := by decide +kernel
theorem dL_made_229 : decode cL_made 229 = .ok (.idiv, 1) := by decide +kernel
theorem dL_made_230 : decode cL_made 230 = .ok (.iadd, 1) := by decide +kernel
theorem dL_made_231 : decode cL_made 231 = .ok (.invokestatic 28, 3) := by decide +kernel
theorem dL_made_234 : decode cL_made 234 = .ok (.ifCond .eq 79, 3) := by decide +kernel
theorem dL_made_237 : decode cL_made 237 = .ok (.aload_n 0, 1) := by decide +kernel
theorem dL_made_238 : decode cL_made 238 = .ok (.iload 5, 2) := by decide +kernel
theorem dL_made_240 : decode cL_made 240 = .ok (.iconst 2, 1) := by decide +kernel
theorem dL_made_241 : decode cL_made 241 = .ok (.iadd, 1) := by decide +kernel
theorem dL_made_242 : decode cL_made 242 = .ok (.bipush 48, 2) := by decide +kernel
theorem dL_made_244 : decode cL_made 244 = .ok (.aload_n 1, 1) := by decide +kernel
theorem dL_made_245 : decode cL_made 245 = .ok (.bipush 27, 2) := by decide +kernel
theorem dL_made_247 : decode cL_made 247 = .ok (.iload 4, 2) := by decide +kernel
theorem dL_made_249 : decode cL_made 249 = .ok (.iadd, 1) := by decide +kernel
theorem dL_made_250 : decode cL_made 250 = .ok (.iaload, 1) := by decide +kernel
theorem dL_made_251 : decode cL_made 251 = .ok (.bipush 10, 2) := by decide +kernel
theorem dL_made_253 : decode cL_made 253 = .ok (.irem, 1) := by decide +kernel
theorem dL_made_254 : decode cL_made 254 = .ok (.iadd, 1) := by decide +kernel
theorem dL_made_255 : decode cL_made 255 = .ok (.invokestatic 28, 3) := by decide +kernel
theorem dL_made_258 : decode cL_made 258 = .ok (.ifCond .eq 55, 3) := by decide +kernel
theorem dL_made_261 : decode cL_made 261 = .ok (.aload_n 0, 1) := by decide +kernel
theorem dL_made_262 : decode cL_made 262 = .ok (.iload 5, 2) := by decide +kernel
theorem dL_made_264 : decode cL_made 264 = .ok (.iconst 3, 1) := by decide +kernel
theorem dL_made_265 : decode cL_made 265 = .ok (.iadd, 1) := by decide +kernel
theorem dL_made_266 : decode cL_made 266 = .ok (.bipush 48, 2) := by decide +kernel
theorem dL_made_268 : decode cL_made 268 = .ok (.aload_n 1, 1) := by decide +kernel
theorem dL_made_269 : decode cL_made 269 = .ok (.bipush 31, 2) := by decide +kernel
theorem dL_made_271 : decode cL_made 271 = .ok (.iload 4, 2) := by decide +kernel
theorem dL_made_273 : decode cL_made 273 = .ok (.iadd, 1) := by decide +kernel
theorem dL_made_274 : decode cL_made 274 = .ok (.iaload, 1) := by decide +kernel
theorem dL_made_275 : decode cL_made 275 = .ok (.bipush 10, 2) := by decide +kernel
theorem dL_made_277 : decode cL_made 277 = .ok (.idiv, 1) := by decide +kernel
theorem dL_made_278 : decode cL_made 278 = .ok (.iadd, 1) := by decide +kernel
theorem dL_made_279 : decode cL_made 279 = .ok (.invokestatic 28, 3) := by decide +kernel
theorem dL_made_282 : decode cL_made 282 = .ok (.ifCond .eq 31, 3) := by decide +kernel
theorem dL_made_285 : decode cL_made 285 = .ok (.aload_n 0, 1) := by decide +kernel
theorem dL_made_286 : decode cL_made 286 = .ok (.iload 5, 2) := by decide +kernel
theorem dL_made_288 : decode cL_made 288 = .ok (.iconst 4, 1) := by decide +kernel
theorem dL_made_289 : decode cL_made 289 = .ok (.iadd, 1) := by decide +kernel
theorem dL_made_290 : decode cL_made 290 = .ok (.bipush 48, 2) := by decide +kernel
theorem dL_made_292 : decode cL_made 292 = .ok (.aload_n 1, 1) := by decide +kernel
theorem dL_made_293 : decode cL_made 293 = .ok (.bipush 31, 2) := by decide +kernel
theorem dL_made_295 : decode cL_made 295 = .ok (.iload 4, 2) := by decide +kernel
theorem dL_made_297 : decode cL_made 297 = .ok (.iadd, 1) := by decide +kernel
theorem dL_made_298 : decode cL_made 298 = .ok (.iaload, 1) := by decide +kernel
theorem dL_made_299 : decode cL_made 299 = .ok (.bipush 10, 2) := by decide +kernel
theorem dL_made_301 : decode cL_made 301 = .ok (.irem, 1) := by decide +kernel
theorem dL_made_302 : decode cL_made 302 = .ok (.iadd, 1) := by decide +kernel
theorem dL_made_303 : decode cL_made 303 = .ok (.invokestatic 28, 3) := by decide +kernel
theorem dL_made_306 : decode cL_made 306 = .ok (.ifCond .eq 7, 3) := by decide +kernel
theorem dL_made_309 : decode cL_made 309 = .ok (.iconst 1, 1) := by decide +kernel
theorem dL_made_310 : decode cL_made 310 = .ok (.goto 4, 3) := by decide +kernel
theorem dL_made_313 : decode cL_made 313 = .ok (.iconst 0, 1) := by decide +kernel
theorem dL_made_314 : decode cL_made 314 = .ok (.istore_n 3, 1) := by decide +kernel
theorem dL_made_315 : decode cL_made 315 = .ok (.iinc 4 1, 3) := by decide +kernel
theorem dL_made_318 : decode cL_made 318 = .ok (.goto (-142), 3) := by decide +kernel
theorem dL_made_321 : decode cL_made 321 = .ok (.iload_n 3, 1) := by decide +kernel
theorem dL_made_322 : decode cL_made 322 = .ok (.ifCond .eq 18, 3) := by decide +kernel
theorem dL_made_325 : decode cL_made 325 = .ok (.aload_n 0, 1) := by decide +kernel
theorem dL_made_326 : decode cL_made 326 = .ok (.iconst 0, 1) := by decide +kernel
theorem dL_made_327 : decode cL_made 327 = .ok (.invokevirtual 36, 3) := by decide +kernel
theorem dL_made_330 : decode cL_made 330 = .ok (.aload_n 1, 1) := by decide +kernel
theorem dL_made_331 : decode cL_made 331 = .ok (.iconst 0, 1) := by decide +kernel
theorem dL_made_332 : decode cL_made 332 = .ok (.iaload, 1) := by decide +kernel
theorem dL_made_333 : decode cL_made 333 = .ok (.if_icmp .ne 7, 3) := by decide +kernel
theorem dL_made_336 : decode cL_made 336 = .ok (.iconst 1, 1) := by decide +kernel
theorem dL_made_337 : decode cL_made 337 = .ok (.goto 4, 3) := by decide +kernel
theorem dL_made_340 : decode cL_made 340 = .ok (.iconst 0, 1) := by decide +kernel
theorem dL_made_341 : decode cL_made 341 = .ok (.istore_n 3, 1) := by decide +kernel
theorem dL_made_342 : decode cL_made 342 = .ok (.iconst 0, 1) := by decide +kernel
theorem dL_made_343 : decode cL_made 343 = .ok (.istore 4, 2) := by decide +kernel
theorem dL_made_345 : decode cL_made 345 = .ok (.iload 4, 2) := by decide +kernel
theorem dL_made_347 : decode cL_made 347 = .ok (.aload_n 1, 1) := by decide +kernel
theorem dL_made_348 : decode cL_made 348 = .ok (.iconst 0, 1) := by decide +kernel
theorem dL_made_349 : decode cL_made 349 = .ok (.iaload, 1) := by decide +kernel
theorem dL_made_350 : decode cL_made 350 = .ok (.if_icmp .ge 53, 3) := by decide +kernel
theorem dL_made_353 : decode cL_made 353 = .ok (.aload_n 1, 1) := by decide +kernel
theorem dL_made_354 : decode cL_made 354 = .ok (.bipush 14, 2) := by decide +kernel
theorem dL_made_356 : decode cL_made 356 = .ok (.iload 4, 2) := by decide +kernel
theorem dL_made_358 : decode cL_made 358 = .ok (.iadd, 1) := by decide +kernel
theorem dL_made_359 : decode cL_made 359 = .ok (.aload_n 1, 1) := by decide +kernel
theorem dL_made_360 : decode cL_made 360 = .ok (.bipush 14, 2) := by decide +kernel
theorem dL_made_362 : decode cL_made 362 = .ok (.iload 4, 2) := by decide +kernel
theorem dL_made_364 : decode cL_made 364 = .ok (.iadd, 1) := by decide +kernel
theorem dL_made_365 : decode cL_made 365 = .ok (.iaload, 1) := by decide +kernel
theorem dL_made_366 : decode cL_made 366 = .ok (.iload 4, 2) := by decide +kernel
theorem dL_made_368 : decode cL_made 368 = .ok (.if_icmp .eq 16, 3) := by decide +kernel
theorem dL_made_371 : decode cL_made 371 = .ok (.aload_n 1, 1) := by decide +kernel
theorem dL_made_372 : decode cL_made 372 = .ok (.bipush 14, 2) := by decide +kernel
theorem dL_made_374 : decode cL_made 374 = .ok (.iload 4, 2) := by decide +kernel
theorem dL_made_376 : decode cL_made 376 = .ok (.iadd, 1) := by decide +kernel
theorem dL_made_377 : decode cL_made 377 = .ok (.iaload, 1) := by decide +kernel
theorem dL_made_378 : decode cL_made 378 = .ok (.aload_n 1, 1) := by decide +kernel
theorem dL_made_379 : decode cL_made 379 = .ok (.iconst 0, 1) := by decide +kernel
theorem dL_made_380 : decode cL_made 380 = .ok (.iaload, 1) := by decide +kernel
theorem dL_made_381 : decode cL_made 381 = .ok (.if_icmp .lt 8, 3) := by decide +kernel
theorem dL_made_384 : decode cL_made 384 = .ok (.bipush (-9), 2) := by decide +kernel
theorem dL_made_386 : decode cL_made 386 = .ok (.goto 10, 3) := by decide +kernel
theorem dL_made_389 : decode cL_made 389 = .ok (.aload_n 1, 1) := by decide +kernel
theorem dL_made_390 : decode cL_made 390 = .ok (.bipush 14, 2) := by decide +kernel
theorem dL_made_392 : decode cL_made 392 = .ok (.iload 4, 2) := by decide +kernel
theorem dL_made_394 : decode cL_made 394 = .ok (.iadd, 1) := by decide +kernel
theorem dL_made_395 : decode cL_made 395 = .ok (.iaload, 1) := by decide +kernel
theorem dL_made_396 : decode cL_made 396 = .ok (.iastore, 1) := by decide +kernel
theorem dL_made_397 : decode cL_made 397 = .ok (.iinc 4 1, 3) := by decide +kernel
theorem dL_made_400 : decode cL_made 400 = .ok (.goto (-55), 3) := by decide +kernel
theorem dL_made_403 : decode cL_made 403 = .ok (.iload_n 3, 1) := by decide +kernel
theorem dL_made_404 : decode cL_made 404 = .ok (.ireturn, 1) := by decide +kernel
theorem dL_bits_0 : decode cL_bits 0 = .ok (.iconst 0, 1) := by decide +kernel
theorem dL_bits_1 : decode cL_bits 1 = .ok (.istore_n 1, 1) := by decide +kernel
theorem dL_bits_2 : decode cL_bits 2 = .ok (.iload_n 0, 1) := by decide +kernel
theorem dL_bits_3 : decode cL_bits 3 = .ok (.istore_n 2, 1) := by decide +kernel
theorem dL_bits_4 : decode cL_bits 4 = .ok (.iload_n 2, 1) := by decide +kernel
theorem dL_bits_5 : decode cL_bits 5 = .ok (.ifCond .le 16, 3) := by decide +kernel
theorem dL_bits_8 : decode cL_bits 8 = .ok (.iload_n 1, 1) := by decide +kernel
theorem dL_bits_9 : decode cL_bits 9 = .ok (.iload_n 2, 1) := by decide +kernel
theorem dL_bits_10 : decode cL_bits 10 = .ok (.iconst 1, 1) := by decide +kernel
theorem dL_bits_11 : decode cL_bits 11 = .ok (.iand, 1) := by decide +kernel
theorem dL_bits_12 : decode cL_bits 12 = .ok (.iadd, 1) := by decide +kernel
theorem dL_bits_13 : decode cL_bits 13 = .ok (.istore_n 1, 1) := by decide +kernel
theorem dL_bits_14 : decode cL_bits 14 = .ok (.iload_n 2, 1) := by decide +kernel
theorem dL_bits_15 : decode cL_bits 15 = .ok (.iconst 1, 1) := by decide +kernel
theorem dL_bits_16 : decode cL_bits 16 = .ok (.ishr, 1) := by decide +kernel
theorem dL_bits_17 : decode cL_bits 17 = .ok (.istore_n 2, 1) := by decide +kernel
theorem dL_bits_18 : decode cL_bits 18 = .ok (.goto (-14), 3) := by decide +kernel
theorem dL_bits_21 : decode cL_bits 21 = .ok (.iload_n 1, 1) := by decide +kernel
theorem dL_bits_22 : decode cL_bits 22 = .ok (.ireturn, 1) := by decide +kernel
theorem dL_told_0 : decode cL_told 0 = .ok (.aload_n 0, 1) := by decide +kernel
theorem dL_told_1 : decode cL_told 1 = .ok (.iload_n 1, 1) := by decide +kernel
theorem dL_told_2 : decode cL_told 2 = .ok (.iload_n 2, 1) := by decide +kernel
theorem dL_told_3 : decode cL_told 3 = .ok (.invokevirtual 39, 3) := by decide +kernel
theorem dL_told_6 : decode cL_told 6 = .ok (.iconst 1, 1) := by decide +kernel
theorem dL_told_7 : decode cL_told 7 = .ok (.if_icmp .ne 10, 3) := by decide +kernel
theorem dL_told_10 : decode cL_told 10 = .ok (.aload_n 0, 1) := by decide +kernel
theorem dL_told_11 : decode cL_told 11 = .ok (.invokevirtual 42, 3) := by decide +kernel
theorem dL_told_14 : decode cL_told 14 = .ok (.goto 5, 3) := by decide +kernel
theorem dL_told_17 : decode cL_told 17 = .ok (.bipush (-100), 2) := by decide +kernel
theorem dL_told_19 : decode cL_told 19 = .ok (.ireturn, 1) := by decide +kernel
theorem dL_law_0 : decode cL_law 0 = .ok (.new 20, 3) := by decide +kernel
theorem dL_law_3 : decode cL_law 3 = .ok (.dup, 1) := by decide +kernel
theorem dL_law_4 : decode cL_law 4 = .ok (.invokespecial 46, 3) := by decide +kernel
theorem dL_law_7 : decode cL_law 7 = .ok (.astore_n 1, 1) := by decide +kernel
theorem dL_law_8 : decode cL_law 8 = .ok (.bipush 38, 2) := by decide +kernel
theorem dL_law_10 : decode cL_law 10 = .ok (.newarray .int, 2) := by decide +kernel
theorem dL_law_12 : decode cL_law 12 = .ok (.astore_n 2, 1) := by decide +kernel
theorem dL_law_13 : decode cL_law 13 = .ok (.aload_n 0, 1) := by decide +kernel
theorem dL_law_14 : decode cL_law 14 = .ok (.aload_n 2, 1) := by decide +kernel
theorem dL_law_15 : decode cL_law 15 = .ok (.invokestatic 47, 3) := by decide +kernel
theorem dL_law_18 : decode cL_law 18 = .ok (.aload_n 1, 1) := by decide +kernel
theorem dL_law_19 : decode cL_law 19 = .ok (.aload_n 2, 1) := by decide +kernel
theorem dL_law_20 : decode cL_law 20 = .ok (.invokestatic 51, 3) := by decide +kernel
theorem dL_law_23 : decode cL_law 23 = .ok (.ifCond .ne 5, 3) := by decide +kernel
theorem dL_law_26 : decode cL_law 26 = .ok (.iconst 0, 1) := by decide +kernel
theorem dL_law_27 : decode cL_law 27 = .ok (.ireturn, 1) := by decide +kernel
theorem dL_law_28 : decode cL_law 28 = .ok (.aload_n 2, 1) := by decide +kernel
theorem dL_law_29 : decode cL_law 29 = .ok (.iconst 0, 1) := by decide +kernel
theorem dL_law_30 : decode cL_law 30 = .ok (.iaload, 1) := by decide +kernel
theorem dL_law_31 : decode cL_law 31 = .ok (.istore_n 3, 1) := by decide +kernel
theorem dL_law_32 : decode cL_law 32 = .ok (.aload_n 2, 1) := by decide +kernel
theorem dL_law_33 : decode cL_law 33 = .ok (.iconst 1, 1) := by decide +kernel
theorem dL_law_34 : decode cL_law 34 = .ok (.iaload, 1) := by decide +kernel
theorem dL_law_35 : decode cL_law 35 = .ok (.istore 4, 2) := by decide +kernel
theorem dL_law_37 : decode cL_law 37 = .ok (.aload_n 1, 1) := by decide +kernel
theorem dL_law_38 : decode cL_law 38 = .ok (.iconst 1, 1) := by decide +kernel
theorem dL_law_39 : decode cL_law 39 = .ok (.aload_n 0, 1) := by decide +kernel
theorem dL_law_40 : decode cL_law 40 = .ok (.bipush 11, 2) := by decide +kernel
theorem dL_law_42 : decode cL_law 42 = .ok (.invokestatic 9, 3) := by decide +kernel
theorem dL_law_45 : decode cL_law 45 = .ok (.bipush 9, 2) := by decide +kernel
theorem dL_law_47 : decode cL_law 47 = .ok (.invokestatic 15, 3) := by decide +kernel
theorem dL_law_50 : decode cL_law 50 = .ok (.iadd, 1) := by decide +kernel
theorem dL_law_51 : decode cL_law 51 = .ok (.iconst 1, 1) := by decide +kernel
theorem dL_law_52 : decode cL_law 52 = .ok (.aload_n 0, 1) := by decide +kernel
theorem dL_law_53 : decode cL_law 53 = .ok (.bipush 12, 2) := by decide +kernel
theorem dL_law_55 : decode cL_law 55 = .ok (.invokestatic 9, 3) := by decide +kernel
theorem dL_law_58 : decode cL_law 58 = .ok (.ldc 55, 2) := by decide +kernel
theorem dL_law_60 : decode cL_law 60 = .ok (.invokestatic 15, 3) := by decide +kernel
theorem dL_law_63 : decode cL_law 63 = .ok (.iadd, 1) := by decide +kernel
theorem dL_law_64 : decode cL_law 64 = .ok (.invokevirtual 56, 3) := by decide +kernel
theorem dL_law_67 : decode cL_law 67 = .ok (.ifCond .lt 16, 3) := by decide +kernel
theorem dL_law_70 : decode cL_law 70 = .ok (.aload_n 1, 1) := by decide +kernel
theorem dL_law_71 : decode cL_law 71 = .ok (.iconst 0, 1) := by decide +kernel
theorem dL_law_72 : decode cL_law 72 = .ok (.invokevirtual 59, 3) := by decide +kernel
theorem dL_law_75 : decode cL_law 75 = .ok (.aload_n 1, 1) := by decide +kernel
theorem dL_law_76 : decode cL_law 76 = .ok (.iconst 2, 1) := by decide +kernel
theorem dL_law_77 : decode cL_law 77 = .ok (.invokevirtual 62, 3) := by decide +kernel
theorem dL_law_80 : decode cL_law 80 = .ok (.if_icmp .eq 5, 3) := by decide +kernel
theorem dL_law_83 : decode cL_law 83 = .ok (.iconst 0, 1) := by decide +kernel
theorem dL_law_84 : decode cL_law 84 = .ok (.ireturn, 1) := by decide +kernel
theorem dL_law_85 : decode cL_law 85 = .ok (.aload_n 1, 1) := by decide +kernel
theorem dL_law_86 : decode cL_law 86 = .ok (.iconst 2, 1) := by decide +kernel
theorem dL_law_87 : decode cL_law 87 = .ok (.invokevirtual 62, 3) := by decide +kernel
theorem dL_law_90 : decode cL_law 90 = .ok (.istore 5, 2) := by decide +kernel
theorem dL_law_92 : decode cL_law 92 = .ok (.aload_n 1, 1) := by decide +kernel
theorem dL_law_93 : decode cL_law 93 = .ok (.iconst 3, 1) := by decide +kernel
theorem dL_law_94 : decode cL_law 94 = .ok (.invokevirtual 62, 3) := by decide +kernel
theorem dL_law_97 : decode cL_law 97 = .ok (.istore 6, 2) := by decide +kernel
theorem dL_law_99 : decode cL_law 99 = .ok (.aload_n 1, 1) := by decide +kernel
theorem dL_law_100 : decode cL_law 100 = .ok (.iconst 4, 1) := by decide +kernel
theorem dL_law_101 : decode cL_law 101 = .ok (.invokevirtual 62, 3) := by decide +kernel
theorem dL_law_104 : decode cL_law 104 = .ok (.istore 7, 2) := by decide +kernel
theorem dL_law_106 : decode cL_law 106 = .ok (.aload_n 1, 1) := by decide +kernel
theorem dL_law_107 : decode cL_law 107 = .ok (.iconst 5, 1) := by decide +kernel
theorem dL_law_108 : decode cL_law 108 = .ok (.invokevirtual 62, 3) := by decide +kernel
theorem dL_law_111 : decode cL_law 111 = .ok (.istore 8, 2) := by decide +kernel
theorem dL_law_113 : decode cL_law 113 = .ok (.aload_n 1, 1) := by decide +kernel
theorem dL_law_114 : decode cL_law 114 = .ok (.bipush 6, 2) := by decide +kernel
theorem dL_law_116 : decode cL_law 116 = .ok (.invokevirtual 62, 3) := by decide +kernel
theorem dL_law_119 : decode cL_law 119 = .ok (.istore 9, 2) := by decide +kernel
theorem dL_law_121 : decode cL_law 121 = .ok (.aload_n 1, 1) := by decide +kernel
theorem dL_law_122 : decode cL_law 122 = .ok (.invokevirtual 65, 3) := by decide +kernel
theorem dL_law_125 : decode cL_law 125 = .ok (.istore 10, 2) := by decide +kernel
theorem dL_law_127 : decode cL_law 127 = .ok (.bipush 6, 2) := by decide +kernel
theorem dL_law_129 : decode cL_law 129 = .ok (.newarray .int, 2) := by decide +kernel
theorem dL_law_131 : decode cL_law 131 = .ok (.astore 11, 2) := by decide +kernel
theorem dL_law_133 : decode cL_law 133 = .ok (.iconst 0, 1) := by decide +kernel
theorem dL_law_134 : decode cL_law 134 = .ok (.istore 12, 2) := by decide +kernel
theorem dL_law_136 : decode cL_law 136 = .ok (.iconst 0, 1) := by decide +kernel
theorem dL_law_137 : decode cL_law 137 = .ok (.istore 13, 2) := by decide +kernel
theorem dL_law_139 : decode cL_law 139 = .ok (.iload 13, 2) := by decide +kernel
theorem dL_law_141 : decode cL_law 141 = .ok (.iload_n 3, 1) := by decide +kernel
theorem dL_law_142 : decode cL_law 142 = .ok (.if_icmp .ge 174, 3) := by decide +kernel
theorem dL_law_145 : decode cL_law 145 = .ok (.aload 11, 2) := by decide +kernel
theorem dL_law_147 : decode cL_law 147 = .ok (.iload 13, 2) := by decide +kernel
theorem dL_law_149 : decode cL_law 149 = .ok (.aload_n 1, 1) := by decide +kernel
theorem dL_law_150 : decode cL_law 150 = .ok (.iload 13, 2) := by decide +kernel
theorem dL_law_152 : decode cL_law 152 = .ok (.iconst 3, 1) := by decide +kernel
theorem dL_law_153 : decode cL_law 153 = .ok (.invokestatic 68, 3) := by decide +kernel
theorem dL_law_156 : decode cL_law 156 = .ok (.iastore, 1) := by decide +kernel
theorem dL_law_157 : decode cL_law 157 = .ok (.iload 12, 2) := by decide +kernel
theorem dL_law_159 : decode cL_law 159 = .ok (.aload 11, 2) := by decide +kernel
theorem dL_law_161 : decode cL_law 161 = .ok (.iload 13, 2) := by decide +kernel
theorem dL_law_163 : decode cL_law 163 = .ok (.iaload, 1) := by decide +kernel
theorem dL_law_164 : decode cL_law 164 = .ok (.iadd, 1) := by decide +kernel
theorem dL_law_165 : decode cL_law 165 = .ok (.istore 12, 2) := by decide +kernel
theorem dL_law_167 : decode cL_law 167 = .ok (.iload 8, 2) := by decide +kernel
theorem dL_law_169 : decode cL_law 169 = .ok (.iload 9, 2) := by decide +kernel
theorem dL_law_171 : decode cL_law 171 = .ok (.ior, 1) := by decide +kernel
theorem dL_law_172 : decode cL_law 172 = .ok (.iload 13, 2) := by decide +kernel
theorem dL_law_174 : decode cL_law 174 = .ok (.ishr, 1) := by decide +kernel
theorem dL_law_175 : decode cL_law 175 = .ok (.iconst 1, 1) := by decide +kernel
theorem dL_law_176 : decode cL_law 176 = .ok (.iand, 1) := by decide +kernel
theorem dL_law_177 : decode cL_law 177 = .ok (.iconst 1, 1) := by decide +kernel
theorem dL_law_178 : decode cL_law 178 = .ok (.if_icmp .ne 7, 3) := by decide +kernel
theorem dL_law_181 : decode cL_law 181 = .ok (.iconst 1, 1) := by decide +kernel
theorem dL_law_182 : decode cL_law 182 = .ok (.goto 4, 3) := by decide +kernel
theorem dL_law_185 : decode cL_law 185 = .ok (.iconst 0, 1) := by decide +kernel
theorem dL_law_186 : decode cL_law 186 = .ok (.istore 14, 2) := by decide +kernel
theorem dL_law_188 : decode cL_law 188 = .ok (.aload 11, 2) := by decide +kernel
theorem dL_law_190 : decode cL_law 190 = .ok (.iload 13, 2) := by decide +kernel
theorem dL_law_192 : decode cL_law 192 = .ok (.iaload, 1) := by decide +kernel
theorem dL_law_193 : decode cL_law 193 = .ok (.ifCond .lt 115, 3) := by decide +kernel
theorem dL_law_196 : decode cL_law 196 = .ok (.aload 11, 2) := by decide +kernel
theorem dL_law_198 : decode cL_law 198 = .ok (.iload 13, 2) := by decide +kernel
theorem dL_law_200 : decode cL_law 200 = .ok (.iaload, 1) := by decide +kernel
theorem dL_law_201 : decode cL_law 201 = .ok (.aload_n 1, 1) := by decide +kernel
theorem dL_law_202 : decode cL_law 202 = .ok (.iload 13, 2) := by decide +kernel
theorem dL_law_204 : decode cL_law 204 = .ok (.iconst 1, 1) := by decide +kernel
theorem dL_law_205 : decode cL_law 205 = .ok (.invokestatic 68, 3) := by decide +kernel
theorem dL_law_208 : decode cL_law 208 = .ok (.aload_n 2, 1) := by decide +kernel
theorem dL_law_209 : decode cL_law 209 = .ok (.iconst 2, 1) := by decide +kernel
theorem dL_law_210 : decode cL_law 210 = .ok (.iload 13, 2) := by decide +kernel
theorem dL_law_212 : decode cL_law 212 = .ok (.iadd, 1) := by decide +kernel
theorem dL_law_213 : decode cL_law 213 = .ok (.iaload, 1) := by decide +kernel
theorem dL_law_214 : decode cL_law 214 = .ok (.iconst 2, 1) := by decide +kernel
theorem dL_law_215 : decode cL_law 215 = .ok (.if_icmp .ne 7, 3) := by decide +kernel
theorem dL_law_218 : decode cL_law 218 = .ok (.iconst 1, 1) := by decide +kernel
theorem dL_law_219 : decode cL_law 219 = .ok (.goto 4, 3) := by decide +kernel
theorem dL_law_222 : decode cL_law 222 = .ok (.iconst 0, 1) := by decide +kernel
theorem dL_law_223 : decode cL_law 223 = .ok (.iadd, 1) := by decide +kernel
theorem dL_law_224 : decode cL_law 224 = .ok (.if_icmp .gt 84, 3) := by decide +kernel
theorem dL_law_227 : decode cL_law 227 = .ok (.iload 14, 2) := by decide +kernel
theorem dL_law_229 : decode cL_law 229 = .ok (.ifCond .eq 11, 3) := by decide +kernel
theorem dL_law_232 : decode cL_law 232 = .ok (.aload 11, 2) := by decide +kernel
theorem dL_law_234 : decode cL_law 234 = .ok (.iload 13, 2) := by decide +kernel
theorem dL_law_236 : decode cL_law 236 = .ok (.iaload, 1) := by decide +kernel
theorem dL_law_237 : decode cL_law 237 = .ok (.ifCond .ne 71, 3) := by decide +kernel
theorem dL_law_240 : decode cL_law 240 = .ok (.aload 11, 2) := by decide +kernel
theorem dL_law_242 : decode cL_law 242 = .ok (.iload 13, 2) := by decide +kernel
theorem dL_law_244 : decode cL_law 244 = .ok (.iaload, 1) := by decide +kernel
theorem dL_law_245 : decode cL_law 245 = .ok (.ifCond .le 7, 3) := by decide +kernel
theorem dL_law_248 : decode cL_law 248 = .ok (.iconst 1, 1) := by decide +kernel
theorem dL_law_249 : decode cL_law 249 = .ok (.goto 4, 3) := by decide +kernel
theorem dL_law_252 : decode cL_law 252 = .ok (.iconst 0, 1) := by decide +kernel
theorem dL_law_253 : decode cL_law 253 = .ok (.iload 7, 2) := by decide +kernel
theorem dL_law_255 : decode cL_law 255 = .ok (.iload 13, 2) := by decide +kernel
theorem dL_law_257 : decode cL_law 257 = .ok (.ishr, 1) := by decide +kernel
theorem dL_law_258 : decode cL_law 258 = .ok (.iconst 1, 1) := by decide +kernel
theorem dL_law_259 : decode cL_law 259 = .ok (.iand, 1) := by decide +kernel
theorem dL_law_260 : decode cL_law 260 = .ok (.iconst 1, 1) := by decide +kernel
theorem dL_law_261 : decode cL_law 261 = .ok (.if_icmp .ne 7, 3) := by decide +kernel
theorem dL_law_264 : decode cL_law 264 = .ok (.iconst 1, 1) := by decide +kernel
theorem dL_law_265 : decode cL_law 265 = .ok (.goto 4, 3) := by decide +kernel
theorem dL_law_268 : decode cL_law 268 = .ok (.iconst 0, 1) := by decide +kernel
theorem dL_law_269 : decode cL_law 269 = .ok (.if_icmp .ne 39, 3) := by decide +kernel
theorem dL_law_272 : decode cL_law 272 = .ok (.aload_n 1, 1) := by decide +kernel
theorem dL_law_273 : decode cL_law 273 = .ok (.iload 13, 2) := by decide +kernel
theorem dL_law_275 : decode cL_law 275 = .ok (.iconst 4, 1) := by decide +kernel
theorem dL_law_276 : decode cL_law 276 = .ok (.invokestatic 68, 3) := by decide +kernel
theorem dL_law_279 : decode cL_law 279 = .ok (.iconst 1, 1) := by decide +kernel
theorem dL_law_280 : decode cL_law 280 = .ok (.iload 8, 2) := by decide +kernel
theorem dL_law_282 : decode cL_law 282 = .ok (.iload 13, 2) := by decide +kernel
theorem dL_law_284 : decode cL_law 284 = .ok (.ishr, 1) := by decide +kernel
theorem dL_law_285 : decode cL_law 285 = .ok (.iconst 1, 1) := by decide +kernel
theorem dL_law_286 : decode cL_law 286 = .ok (.iand, 1) := by decide +kernel
theorem dL_law_287 : decode cL_law 287 = .ok (.isub, 1) := by decide +kernel
theorem dL_law_288 : decode cL_law 288 = .ok (.if_icmp .ne 20, 3) := by decide +kernel
theorem dL_law_291 : decode cL_law 291 = .ok (.aload_n 1, 1) := by decide +kernel
theorem dL_law_292 : decode cL_law 292 = .ok (.iload 13, 2) := by decide +kernel
theorem dL_law_294 : decode cL_law 294 = .ok (.iconst 5, 1) := by decide +kernel
theorem dL_law_295 : decode cL_law 295 = .ok (.invokestatic 68, 3) := by decide +kernel
theorem dL_law_298 : decode cL_law 298 = .ok (.iload 9, 2) := by decide +kernel
theorem dL_law_300 : decode cL_law 300 = .ok (.iload 13, 2) := by decide +kernel
theorem dL_law_302 : decode cL_law 302 = .ok (.ishr, 1) := by decide +kernel
theorem dL_law_303 : decode cL_law 303 = .ok (.iconst 1, 1) := by decide +kernel
theorem dL_law_304 : decode cL_law 304 = .ok (.iand, 1) := by decide +kernel
theorem dL_law_305 : decode cL_law 305 = .ok (.if_icmp .eq 5, 3) := by decide +kernel
theorem dL_law_308 : decode cL_law 308 = .ok (.iconst 0, 1) := by decide +kernel
theorem dL_law_309 : decode cL_law 309 = .ok (.ireturn, 1) := by decide +kernel
theorem dL_law_310 : decode cL_law 310 = .ok (.iinc 13 1, 3) := by decide +kernel
theorem dL_law_313 : decode cL_law 313 = .ok (.goto (-174), 3) := by decide +kernel
theorem dL_law_316 : decode cL_law 316 = .ok (.iload 12, 2) := by decide +kernel
theorem dL_law_318 : decode cL_law 318 = .ok (.aload_n 1, 1) := by decide +kernel
theorem dL_law_319 : decode cL_law 319 = .ok (.bipush 7, 2) := by decide +kernel
theorem dL_law_321 : decode cL_law 321 = .ok (.invokevirtual 62, 3) := by decide +kernel
theorem dL_law_324 : decode cL_law 324 = .ok (.if_icmp .ne 17, 3) := by decide +kernel
theorem dL_law_327 : decode cL_law 327 = .ok (.iload 10, 2) := by decide +kernel
theorem dL_law_329 : decode cL_law 329 = .ok (.ifCond .lt 12, 3) := by decide +kernel
theorem dL_law_332 : decode cL_law 332 = .ok (.iload 10, 2) := by decide +kernel
theorem dL_law_334 : decode cL_law 334 = .ok (.iconst 1, 1) := by decide +kernel
theorem dL_law_335 : decode cL_law 335 = .ok (.iload 4, 2) := by decide +kernel
theorem dL_law_337 : decode cL_law 337 = .ok (.ishl, 1) := by decide +kernel
theorem dL_law_338 : decode cL_law 338 = .ok (.if_icmp .lt 5, 3) := by decide +kernel
theorem dL_law_341 : decode cL_law 341 = .ok (.iconst 0, 1) := by decide +kernel
theorem dL_law_342 : decode cL_law 342 = .ok (.ireturn, 1) := by decide +kernel
theorem dL_law_343 : decode cL_law 343 = .ok (.iconst 0, 1) := by decide +kernel
theorem dL_law_344 : decode cL_law 344 = .ok (.istore 13, 2) := by decide +kernel
theorem dL_law_346 : decode cL_law 346 = .ok (.iload 13, 2) := by decide +kernel
theorem dL_law_348 : decode cL_law 348 = .ok (.iload 4, 2) := by decide +kernel
theorem dL_law_350 : decode cL_law 350 = .ok (.if_icmp .ge 85, 3) := by decide +kernel
theorem dL_law_353 : decode cL_law 353 = .ok (.iconst 1, 1) := by decide +kernel
theorem dL_law_354 : decode cL_law 354 = .ok (.iload_n 3, 1) := by decide +kernel
theorem dL_law_355 : decode cL_law 355 = .ok (.ishl, 1) := by decide +kernel
theorem dL_law_356 : decode cL_law 356 = .ok (.iconst 1, 1) := by decide +kernel
theorem dL_law_357 : decode cL_law 357 = .ok (.isub, 1) := by decide +kernel
theorem dL_law_358 : decode cL_law 358 = .ok (.istore 14, 2) := by decide +kernel
theorem dL_law_360 : decode cL_law 360 = .ok (.iload 7, 2) := by decide +kernel
theorem dL_law_362 : decode cL_law 362 = .ok (.aload_n 2, 1) := by decide +kernel
theorem dL_law_363 : decode cL_law 363 = .ok (.bipush 27, 2) := by decide +kernel
theorem dL_law_365 : decode cL_law 365 = .ok (.iload 13, 2) := by decide +kernel
theorem dL_law_367 : decode cL_law 367 = .ok (.iadd, 1) := by decide +kernel
theorem dL_law_368 : decode cL_law 368 = .ok (.iaload, 1) := by decide +kernel
theorem dL_law_369 : decode cL_law 369 = .ok (.iand, 1) := by decide +kernel
theorem dL_law_370 : decode cL_law 370 = .ok (.iload 14, 2) := by decide +kernel
theorem dL_law_372 : decode cL_law 372 = .ok (.iand, 1) := by decide +kernel
theorem dL_law_373 : decode cL_law 373 = .ok (.aload_n 2, 1) := by decide +kernel
theorem dL_law_374 : decode cL_law 374 = .ok (.bipush 27, 2) := by decide +kernel
theorem dL_law_376 : decode cL_law 376 = .ok (.iload 13, 2) := by decide +kernel
theorem dL_law_378 : decode cL_law 378 = .ok (.iadd, 1) := by decide +kernel
theorem dL_law_379 : decode cL_law 379 = .ok (.iaload, 1) := by decide +kernel
theorem dL_law_380 : decode cL_law 380 = .ok (.iload 14, 2) := by decide +kernel
theorem dL_law_382 : decode cL_law 382 = .ok (.iand, 1) := by decide +kernel
theorem dL_law_383 : decode cL_law 383 = .ok (.if_icmp .ne 20, 3) := by decide +kernel
theorem dL_law_386 : decode cL_law 386 = .ok (.iload 7, 2) := by decide +kernel
theorem dL_law_388 : decode cL_law 388 = .ok (.aload_n 2, 1) := by decide +kernel
theorem dL_law_389 : decode cL_law 389 = .ok (.bipush 31, 2) := by decide +kernel
theorem dL_law_391 : decode cL_law 391 = .ok (.iload 13, 2) := by decide +kernel
theorem dL_law_393 : decode cL_law 393 = .ok (.iadd, 1) := by decide +kernel
theorem dL_law_394 : decode cL_law 394 = .ok (.iaload, 1) := by decide +kernel
theorem dL_law_395 : decode cL_law 395 = .ok (.iand, 1) := by decide +kernel
theorem dL_law_396 : decode cL_law 396 = .ok (.ifCond .ne 7, 3) := by decide +kernel
theorem dL_law_399 : decode cL_law 399 = .ok (.iconst 1, 1) := by decide +kernel
theorem dL_law_400 : decode cL_law 400 = .ok (.goto 4, 3) := by decide +kernel
theorem dL_law_403 : decode cL_law 403 = .ok (.iconst 0, 1) := by decide +kernel
theorem dL_law_404 : decode cL_law 404 = .ok (.istore 15, 2) := by decide +kernel
theorem dL_law_406 : decode cL_law 406 = .ok (.iload 15, 2) := by decide +kernel
theorem dL_law_408 : decode cL_law 408 = .ok (.iload 10, 2) := by decide +kernel
theorem dL_law_410 : decode cL_law 410 = .ok (.iload 13, 2) := by decide +kernel
theorem dL_law_412 : decode cL_law 412 = .ok (.ishr, 1) := by decide +kernel
theorem dL_law_413 : decode cL_law 413 = .ok (.iconst 1, 1) := by decide +kernel
theorem dL_law_414 : decode cL_law 414 = .ok (.iand, 1) := by decide +kernel
theorem dL_law_415 : decode cL_law 415 = .ok (.iconst 1, 1) := by decide +kernel
theorem dL_law_416 : decode cL_law 416 = .ok (.if_icmp .ne 7, 3) := by decide +kernel
theorem dL_law_419 : decode cL_law 419 = .ok (.iconst 1, 1) := by decide +kernel
theorem dL_law_420 : decode cL_law 420 = .ok (.goto 4, 3) := by decide +kernel
theorem dL_law_423 : decode cL_law 423 = .ok (.iconst 0, 1) := by decide +kernel
theorem dL_law_424 : decode cL_law 424 = .ok (.if_icmp .eq 5, 3) := by decide +kernel
theorem dL_law_427 : decode cL_law 427 = .ok (.iconst 0, 1) := by decide +kernel
theorem dL_law_428 : decode cL_law 428 = .ok (.ireturn, 1) := by decide +kernel
theorem dL_law_429 : decode cL_law 429 = .ok (.iinc 13 1, 3) := by decide +kernel
theorem dL_law_432 : decode cL_law 432 = .ok (.goto (-86), 3) := by decide +kernel
theorem dL_law_435 : decode cL_law 435 = .ok (.iconst 0, 1) := by decide +kernel
theorem dL_law_436 : decode cL_law 436 = .ok (.istore 13, 2) := by decide +kernel
theorem dL_law_438 : decode cL_law 438 = .ok (.iload 13, 2) := by decide +kernel
theorem dL_law_440 : decode cL_law 440 = .ok (.iload_n 3, 1) := by decide +kernel
theorem dL_law_441 : decode cL_law 441 = .ok (.if_icmp .ge 491, 3) := by decide +kernel
theorem dL_law_444 : decode cL_law 444 = .ok (.iload 8, 2) := by decide +kernel
theorem dL_law_446 : decode cL_law 446 = .ok (.iload 9, 2) := by decide +kernel
theorem dL_law_448 : decode cL_law 448 = .ok (.ior, 1) := by decide +kernel
theorem dL_law_449 : decode cL_law 449 = .ok (.iload 13, 2) := by decide +kernel
theorem dL_law_451 : decode cL_law 451 = .ok (.ishr, 1) := by decide +kernel
theorem dL_law_452 : decode cL_law 452 = .ok (.iconst 1, 1) := by decide +kernel
theorem dL_law_453 : decode cL_law 453 = .ok (.iand, 1) := by decide +kernel
theorem dL_law_454 : decode cL_law 454 = .ok (.ifCond .ne 7, 3) := by decide +kernel
theorem dL_law_457 : decode cL_law 457 = .ok (.iconst 1, 1) := by decide +kernel
theorem dL_law_458 : decode cL_law 458 = .ok (.goto 4, 3) := by decide +kernel
theorem dL_law_461 : decode cL_law 461 = .ok (.iconst 0, 1) := by decide +kernel
theorem dL_law_462 : decode cL_law 462 = .ok (.istore 14, 2) := by decide +kernel
theorem dL_law_464 : decode cL_law 464 = .ok (.iconst 1, 1) := by decide +kernel
theorem dL_law_465 : decode cL_law 465 = .ok (.aload_n 0, 1) := by decide +kernel
theorem dL_law_466 : decode cL_law 466 = .ok (.bipush 13, 2) := by decide +kernel
theorem dL_law_468 : decode cL_law 468 = .ok (.invokestatic 9, 3) := by decide +kernel
theorem dL_law_471 : decode cL_law 471 = .ok (.iconst 4, 1) := by decide +kernel
theorem dL_law_472 : decode cL_law 472 = .ok (.iload 13, 2) := by decide +kernel
theorem dL_law_474 : decode cL_law 474 = .ok (.imul, 1) := by decide +kernel
theorem dL_law_475 : decode cL_law 475 = .ok (.ishr, 1) := by decide +kernel
theorem dL_law_476 : decode cL_law 476 = .ok (.bipush 9, 2) := by decide +kernel
theorem dL_law_478 : decode cL_law 478 = .ok (.invokestatic 15, 3) := by decide +kernel
theorem dL_law_481 : decode cL_law 481 = .ok (.iadd, 1) := by decide +kernel
theorem dL_law_482 : decode cL_law 482 = .ok (.istore 15, 2) := by decide +kernel
theorem dL_law_484 : decode cL_law 484 = .ok (.aload_n 1, 1) := by decide +kernel
theorem dL_law_485 : decode cL_law 485 = .ok (.iload 13, 2) := by decide +kernel
theorem dL_law_487 : decode cL_law 487 = .ok (.iload 15, 2) := by decide +kernel
theorem dL_law_489 : decode cL_law 489 = .ok (.invokevirtual 72, 3) := by decide +kernel
theorem dL_law_492 : decode cL_law 492 = .ok (.istore 16, 2) := by decide +kernel
theorem dL_law_494 : decode cL_law 494 = .ok (.aload_n 1, 1) := by decide +kernel
theorem dL_law_495 : decode cL_law 495 = .ok (.invokevirtual 42, 3) := by decide +kernel
theorem dL_law_498 : decode cL_law 498 = .ok (.istore 17, 2) := by decide +kernel
theorem dL_law_500 : decode cL_law 500 = .ok (.aload_n 1, 1) := by decide +kernel
theorem dL_law_501 : decode cL_law 501 = .ok (.iload 13, 2) := by decide +kernel
theorem dL_law_503 : decode cL_law 503 = .ok (.iload 15, 2) := by decide +kernel
theorem dL_law_505 : decode cL_law 505 = .ok (.invokevirtual 75, 3) := by decide +kernel
theorem dL_law_508 : decode cL_law 508 = .ok (.istore 18, 2) := by decide +kernel
theorem dL_law_510 : decode cL_law 510 = .ok (.iload 14, 2) := by decide +kernel
theorem dL_law_512 : decode cL_law 512 = .ok (.ifCond .ne 30, 3) := by decide +kernel
theorem dL_law_515 : decode cL_law 515 = .ok (.iload 16, 2) := by decide +kernel
theorem dL_law_517 : decode cL_law 517 = .ok (.bipush (-4), 2) := by decide +kernel
theorem dL_law_519 : decode cL_law 519 = .ok (.if_icmp .ne 21, 3) := by decide +kernel
theorem dL_law_522 : decode cL_law 522 = .ok (.iload 18, 2) := by decide +kernel
theorem dL_law_524 : decode cL_law 524 = .ok (.bipush (-4), 2) := by decide +kernel
theorem dL_law_526 : decode cL_law 526 = .ok (.if_icmp .ne 14, 3) := by decide +kernel
theorem dL_law_529 : decode cL_law 529 = .ok (.aload_n 1, 1) := by decide +kernel
theorem dL_law_530 : decode cL_law 530 = .ok (.iload 13, 2) := by decide +kernel
theorem dL_law_532 : decode cL_law 532 = .ok (.invokevirtual 78, 3) := by decide +kernel
theorem dL_law_535 : decode cL_law 535 = .ok (.bipush (-4), 2) := by decide +kernel
theorem dL_law_537 : decode cL_law 537 = .ok (.if_icmp .eq 389, 3) := by decide +kernel
theorem dL_law_540 : decode cL_law 540 = .ok (.iconst 0, 1) := by decide +kernel
theorem dL_law_541 : decode cL_law 541 = .ok (.ireturn, 1) := by decide +kernel
theorem dL_law_542 : decode cL_law 542 = .ok (.iconst 0, 1) := by decide +kernel
theorem dL_law_543 : decode cL_law 543 = .ok (.istore 19, 2) := by decide +kernel
theorem dL_law_545 : decode cL_law 545 = .ok (.iload 18, 2) := by decide +kernel
theorem dL_law_547 : decode cL_law 547 = .ok (.ifCond .lt 86, 3) := by decide +kernel
theorem dL_law_550 : decode cL_law 550 = .ok (.iload 18, 2) := by decide +kernel
theorem dL_law_552 : decode cL_law 552 = .ok (.iconst 1, 1) := by decide +kernel
theorem dL_law_553 : decode cL_law 553 = .ok (.if_icmp .gt 80, 3) := by decide +kernel
theorem dL_law_556 : decode cL_law 556 = .ok (.iload 17, 2) := by decide +kernel
theorem dL_law_558 : decode cL_law 558 = .ok (.ifCond .lt 7, 3) := by decide +kernel
theorem dL_law_561 : decode cL_law 561 = .ok (.iconst 1, 1) := by decide +kernel
theorem dL_law_562 : decode cL_law 562 = .ok (.goto 4, 3) := by decide +kernel
theorem dL_law_565 : decode cL_law 565 = .ok (.iconst 0, 1) := by decide +kernel
theorem dL_law_566 : decode cL_law 566 = .ok (.iload 18, 2) := by decide +kernel
theorem dL_law_568 : decode cL_law 568 = .ok (.iconst 1, 1) := by decide +kernel
theorem dL_law_569 : decode cL_law 569 = .ok (.if_icmp .ne 7, 3) := by decide +kernel
theorem dL_law_572 : decode cL_law 572 = .ok (.iconst 1, 1) := by decide +kernel
theorem dL_law_573 : decode cL_law 573 = .ok (.goto 4, 3) := by decide +kernel
theorem dL_law_576 : decode cL_law 576 = .ok (.iconst 0, 1) := by decide +kernel
theorem dL_law_577 : decode cL_law 577 = .ok (.if_icmp .ne 56, 3) := by decide +kernel
theorem dL_law_580 : decode cL_law 580 = .ok (.aload_n 1, 1) := by decide +kernel
theorem dL_law_581 : decode cL_law 581 = .ok (.bipush 6, 2) := by decide +kernel
theorem dL_law_583 : decode cL_law 583 = .ok (.invokevirtual 62, 3) := by decide +kernel
theorem dL_law_586 : decode cL_law 586 = .ok (.iload 17, 2) := by decide +kernel
theorem dL_law_588 : decode cL_law 588 = .ok (.ifCond .ge 8, 3) := by decide +kernel
theorem dL_law_591 : decode cL_law 591 = .ok (.iload 9, 2) := by decide +kernel
theorem dL_law_593 : decode cL_law 593 = .ok (.goto 10, 3) := by decide +kernel
theorem dL_law_596 : decode cL_law 596 = .ok (.iload 9, 2) := by decide +kernel
theorem dL_law_598 : decode cL_law 598 = .ok (.iconst 1, 1) := by decide +kernel
theorem dL_law_599 : decode cL_law 599 = .ok (.iload 17, 2) := by decide +kernel
theorem dL_law_601 : decode cL_law 601 = .ok (.ishl, 1) := by decide +kernel
theorem dL_law_602 : decode cL_law 602 = .ok (.ior, 1) := by decide +kernel
theorem dL_law_603 : decode cL_law 603 = .ok (.if_icmp .ne 30, 3) := by decide +kernel
theorem dL_law_606 : decode cL_law 606 = .ok (.iload 16, 2) := by decide +kernel
theorem dL_law_608 : decode cL_law 608 = .ok (.iload 13, 2) := by decide +kernel
theorem dL_law_610 : decode cL_law 610 = .ok (.ishr, 1) := by decide +kernel
theorem dL_law_611 : decode cL_law 611 = .ok (.iconst 1, 1) := by decide +kernel
theorem dL_law_612 : decode cL_law 612 = .ok (.iand, 1) := by decide +kernel
theorem dL_law_613 : decode cL_law 613 = .ok (.iconst 1, 1) := by decide +kernel
theorem dL_law_614 : decode cL_law 614 = .ok (.if_icmp .ne 19, 3) := by decide +kernel
theorem dL_law_617 : decode cL_law 617 = .ok (.iload 17, 2) := by decide +kernel
theorem dL_law_619 : decode cL_law 619 = .ok (.ifCond .lt 16, 3) := by decide +kernel
theorem dL_law_622 : decode cL_law 622 = .ok (.iload 16, 2) := by decide +kernel
theorem dL_law_624 : decode cL_law 624 = .ok (.iload 17, 2) := by decide +kernel
theorem dL_law_626 : decode cL_law 626 = .ok (.ishr, 1) := by decide +kernel
theorem dL_law_627 : decode cL_law 627 = .ok (.iconst 1, 1) := by decide +kernel
theorem dL_law_628 : decode cL_law 628 = .ok (.iand, 1) := by decide +kernel
theorem dL_law_629 : decode cL_law 629 = .ok (.iconst 1, 1) := by decide +kernel
theorem dL_law_630 : decode cL_law 630 = .ok (.if_icmp .eq 5, 3) := by decide +kernel
theorem dL_law_633 : decode cL_law 633 = .ok (.iconst 0, 1) := by decide +kernel
theorem dL_law_634 : decode cL_law 634 = .ok (.ireturn, 1) := by decide +kernel
theorem dL_law_635 : decode cL_law 635 = .ok (.iconst 0, 1) := by decide +kernel
theorem dL_law_636 : decode cL_law 636 = .ok (.istore 20, 2) := by decide +kernel
theorem dL_law_638 : decode cL_law 638 = .ok (.iload 20, 2) := by decide +kernel
theorem dL_law_640 : decode cL_law 640 = .ok (.iload_n 3, 1) := by decide +kernel
theorem dL_law_641 : decode cL_law 641 = .ok (.if_icmp .ge 104, 3) := by decide +kernel
theorem dL_law_644 : decode cL_law 644 = .ok (.aload_n 1, 1) := by decide +kernel
theorem dL_law_645 : decode cL_law 645 = .ok (.iload 20, 2) := by decide +kernel
theorem dL_law_647 : decode cL_law 647 = .ok (.iconst 3, 1) := by decide +kernel
theorem dL_law_648 : decode cL_law 648 = .ok (.invokestatic 68, 3) := by decide +kernel
theorem dL_law_651 : decode cL_law 651 = .ok (.istore 21, 2) := by decide +kernel
theorem dL_law_653 : decode cL_law 653 = .ok (.iload 19, 2) := by decide +kernel
theorem dL_law_655 : decode cL_law 655 = .ok (.iload 20, 2) := by decide +kernel
theorem dL_law_657 : decode cL_law 657 = .ok (.iload 17, 2) := by decide +kernel
theorem dL_law_659 : decode cL_law 659 = .ok (.if_icmp .ne 7, 3) := by decide +kernel
theorem dL_law_662 : decode cL_law 662 = .ok (.iconst 0, 1) := by decide +kernel
theorem dL_law_663 : decode cL_law 663 = .ok (.goto 11, 3) := by decide +kernel
theorem dL_law_666 : decode cL_law 666 = .ok (.iload 21, 2) := by decide +kernel
theorem dL_law_668 : decode cL_law 668 = .ok (.aload 11, 2) := by decide +kernel
theorem dL_law_670 : decode cL_law 670 = .ok (.iload 20, 2) := by decide +kernel
theorem dL_law_672 : decode cL_law 672 = .ok (.iaload, 1) := by decide +kernel
theorem dL_law_673 : decode cL_law 673 = .ok (.isub, 1) := by decide +kernel
theorem dL_law_674 : decode cL_law 674 = .ok (.iadd, 1) := by decide +kernel
theorem dL_law_675 : decode cL_law 675 = .ok (.istore 19, 2) := by decide +kernel
theorem dL_law_677 : decode cL_law 677 = .ok (.iload 16, 2) := by decide +kernel
theorem dL_law_679 : decode cL_law 679 = .ok (.iload 20, 2) := by decide +kernel
theorem dL_law_681 : decode cL_law 681 = .ok (.ishr, 1) := by decide +kernel
theorem dL_law_682 : decode cL_law 682 = .ok (.iconst 1, 1) := by decide +kernel
theorem dL_law_683 : decode cL_law 683 = .ok (.iand, 1) := by decide +kernel
theorem dL_law_684 : decode cL_law 684 = .ok (.ifCond .ne 13, 3) := by decide +kernel
theorem dL_law_687 : decode cL_law 687 = .ok (.iload 21, 2) := by decide +kernel
theorem dL_law_689 : decode cL_law 689 = .ok (.aload 11, 2) := by decide +kernel
theorem dL_law_691 : decode cL_law 691 = .ok (.iload 20, 2) := by decide +kernel
theorem dL_law_693 : decode cL_law 693 = .ok (.iaload, 1) := by decide +kernel
theorem dL_law_694 : decode cL_law 694 = .ok (.if_icmp .ne 43, 3) := by decide +kernel
theorem dL_law_697 : decode cL_law 697 = .ok (.iload 20, 2) := by decide +kernel
theorem dL_law_699 : decode cL_law 699 = .ok (.iload 17, 2) := by decide +kernel
theorem dL_law_701 : decode cL_law 701 = .ok (.if_icmp .ne 8, 3) := by decide +kernel
theorem dL_law_704 : decode cL_law 704 = .ok (.iload 21, 2) := by decide +kernel
theorem dL_law_706 : decode cL_law 706 = .ok (.ifCond .ne 31, 3) := by decide +kernel
theorem dL_law_709 : decode cL_law 709 = .ok (.iload 16, 2) := by decide +kernel
theorem dL_law_711 : decode cL_law 711 = .ok (.iload 20, 2) := by decide +kernel
theorem dL_law_713 : decode cL_law 713 = .ok (.ishr, 1) := by decide +kernel
theorem dL_law_714 : decode cL_law 714 = .ok (.iconst 1, 1) := by decide +kernel
theorem dL_law_715 : decode cL_law 715 = .ok (.iand, 1) := by decide +kernel
theorem dL_law_716 : decode cL_law 716 = .ok (.iconst 1, 1) := by decide +kernel
theorem dL_law_717 : decode cL_law 717 = .ok (.if_icmp .ne 22, 3) := by decide +kernel
theorem dL_law_720 : decode cL_law 720 = .ok (.iload 20, 2) := by decide +kernel
theorem dL_law_722 : decode cL_law 722 = .ok (.iload 17, 2) := by decide +kernel
theorem dL_law_724 : decode cL_law 724 = .ok (.if_icmp .eq 15, 3) := by decide +kernel
theorem dL_law_727 : decode cL_law 727 = .ok (.iload 21, 2) := by decide +kernel
theorem dL_law_729 : decode cL_law 729 = .ok (.aload 11, 2) := by decide +kernel
theorem dL_law_731 : decode cL_law 731 = .ok (.iload 20, 2) := by decide +kernel
theorem dL_law_733 : decode cL_law 733 = .ok (.iaload, 1) := by decide +kernel
theorem dL_law_734 : decode cL_law 734 = .ok (.if_icmp .gt 5, 3) := by decide +kernel
theorem dL_law_737 : decode cL_law 737 = .ok (.iconst 0, 1) := by decide +kernel
theorem dL_law_738 : decode cL_law 738 = .ok (.ireturn, 1) := by decide +kernel
theorem dL_law_739 : decode cL_law 739 = .ok (.iinc 20 1, 3) := by decide +kernel
theorem dL_law_742 : decode cL_law 742 = .ok (.goto (-104), 3) := by decide +kernel
theorem dL_law_745 : decode cL_law 745 = .ok (.iload 17, 2) := by decide +kernel
theorem dL_law_747 : decode cL_law 747 = .ok (.ifCond .ge 10, 3) := by decide +kernel
theorem dL_law_750 : decode cL_law 750 = .ok (.iload 19, 2) := by decide +kernel
theorem dL_law_752 : decode cL_law 752 = .ok (.iload 15, 2) := by decide +kernel
theorem dL_law_754 : decode cL_law 754 = .ok (.if_icmp .lt 13, 3) := by decide +kernel
theorem dL_law_757 : decode cL_law 757 = .ok (.aload_n 1, 1) := by decide +kernel
theorem dL_law_758 : decode cL_law 758 = .ok (.iload 5, 2) := by decide +kernel
theorem dL_law_760 : decode cL_law 760 = .ok (.invokevirtual 81, 3) := by decide +kernel
theorem dL_law_763 : decode cL_law 763 = .ok (.iconst 1, 1) := by decide +kernel
theorem dL_law_764 : decode cL_law 764 = .ok (.if_icmp .eq 5, 3) := by decide +kernel
theorem dL_law_767 : decode cL_law 767 = .ok (.iconst 0, 1) := by decide +kernel
theorem dL_law_768 : decode cL_law 768 = .ok (.ireturn, 1) := by decide +kernel
theorem dL_law_769 : decode cL_law 769 = .ok (.aload_n 1, 1) := by decide +kernel
theorem dL_law_770 : decode cL_law 770 = .ok (.iload 13, 2) := by decide +kernel
theorem dL_law_772 : decode cL_law 772 = .ok (.invokevirtual 78, 3) := by decide +kernel
theorem dL_law_775 : decode cL_law 775 = .ok (.istore 20, 2) := by decide +kernel
theorem dL_law_777 : decode cL_law 777 = .ok (.aload_n 1, 1) := by decide +kernel
theorem dL_law_778 : decode cL_law 778 = .ok (.invokevirtual 42, 3) := by decide +kernel
theorem dL_law_781 : decode cL_law 781 = .ok (.istore 21, 2) := by decide +kernel
theorem dL_law_783 : decode cL_law 783 = .ok (.iload 20, 2) := by decide +kernel
theorem dL_law_785 : decode cL_law 785 = .ok (.ifCond .eq 50, 3) := by decide +kernel
theorem dL_law_788 : decode cL_law 788 = .ok (.iload 20, 2) := by decide +kernel
theorem dL_law_790 : decode cL_law 790 = .ok (.bipush 20, 2) := by decide +kernel
theorem dL_law_792 : decode cL_law 792 = .ok (.if_icmp .gt 43, 3) := by decide +kernel
theorem dL_law_795 : decode cL_law 795 = .ok (.iload 20, 2) := by decide +kernel
theorem dL_law_797 : decode cL_law 797 = .ok (.bipush (-9), 2) := by decide +kernel
theorem dL_law_799 : decode cL_law 799 = .ok (.if_icmp .ne 8, 3) := by decide +kernel
theorem dL_law_802 : decode cL_law 802 = .ok (.iload 17, 2) := by decide +kernel
theorem dL_law_804 : decode cL_law 804 = .ok (.ifCond .ge 31, 3) := by decide +kernel
theorem dL_law_807 : decode cL_law 807 = .ok (.iload 20, 2) := by decide +kernel
theorem dL_law_809 : decode cL_law 809 = .ok (.ifCond .le 28, 3) := by decide +kernel
theorem dL_law_812 : decode cL_law 812 = .ok (.iload 20, 2) := by decide +kernel
theorem dL_law_814 : decode cL_law 814 = .ok (.iload 15, 2) := by decide +kernel
theorem dL_law_816 : decode cL_law 816 = .ok (.if_icmp .le 8, 3) := by decide +kernel
theorem dL_law_819 : decode cL_law 819 = .ok (.iload 17, 2) := by decide +kernel
theorem dL_law_821 : decode cL_law 821 = .ok (.ifCond .ge 14, 3) := by decide +kernel
theorem dL_law_824 : decode cL_law 824 = .ok (.iload 21, 2) := by decide +kernel
theorem dL_law_826 : decode cL_law 826 = .ok (.ifCond .lt 9, 3) := by decide +kernel
theorem dL_law_829 : decode cL_law 829 = .ok (.iload 21, 2) := by decide +kernel
theorem dL_law_831 : decode cL_law 831 = .ok (.iload_n 3, 1) := by decide +kernel
theorem dL_law_832 : decode cL_law 832 = .ok (.if_icmp .lt 5, 3) := by decide +kernel
theorem dL_law_835 : decode cL_law 835 = .ok (.iconst 0, 1) := by decide +kernel
theorem dL_law_836 : decode cL_law 836 = .ok (.ireturn, 1) := by decide +kernel
theorem dL_law_837 : decode cL_law 837 = .ok (.iload 20, 2) := by decide +kernel
theorem dL_law_839 : decode cL_law 839 = .ok (.ifCond .le 49, 3) := by decide +kernel
theorem dL_law_842 : decode cL_law 842 = .ok (.iload 20, 2) := by decide +kernel
theorem dL_law_844 : decode cL_law 844 = .ok (.bipush 10, 2) := by decide +kernel
theorem dL_law_846 : decode cL_law 846 = .ok (.if_icmp .ge 42, 3) := by decide +kernel
theorem dL_law_849 : decode cL_law 849 = .ok (.aload_n 1, 1) := by decide +kernel
theorem dL_law_850 : decode cL_law 850 = .ok (.iload 13, 2) := by decide +kernel
theorem dL_law_852 : decode cL_law 852 = .ok (.iload 20, 2) := by decide +kernel
theorem dL_law_854 : decode cL_law 854 = .ok (.invokevirtual 75, 3) := by decide +kernel
theorem dL_law_857 : decode cL_law 857 = .ok (.iconst 1, 1) := by decide +kernel
theorem dL_law_858 : decode cL_law 858 = .ok (.if_icmp .ne 28, 3) := by decide +kernel
theorem dL_law_861 : decode cL_law 861 = .ok (.aload_n 1, 1) := by decide +kernel
theorem dL_law_862 : decode cL_law 862 = .ok (.bipush 6, 2) := by decide +kernel
theorem dL_law_864 : decode cL_law 864 = .ok (.invokevirtual 62, 3) := by decide +kernel
theorem dL_law_867 : decode cL_law 867 = .ok (.iload 21, 2) := by decide +kernel
theorem dL_law_869 : decode cL_law 869 = .ok (.ishr, 1) := by decide +kernel
theorem dL_law_870 : decode cL_law 870 = .ok (.iconst 1, 1) := by decide +kernel
theorem dL_law_871 : decode cL_law 871 = .ok (.iand, 1) := by decide +kernel
theorem dL_law_872 : decode cL_law 872 = .ok (.iconst 1, 1) := by decide +kernel
theorem dL_law_873 : decode cL_law 873 = .ok (.if_icmp .ne 13, 3) := by decide +kernel
theorem dL_law_876 : decode cL_law 876 = .ok (.aload_n 1, 1) := by decide +kernel
theorem dL_law_877 : decode cL_law 877 = .ok (.iload 5, 2) := by decide +kernel
theorem dL_law_879 : decode cL_law 879 = .ok (.invokevirtual 81, 3) := by decide +kernel
theorem dL_law_882 : decode cL_law 882 = .ok (.iconst 1, 1) := by decide +kernel
theorem dL_law_883 : decode cL_law 883 = .ok (.if_icmp .eq 5, 3) := by decide +kernel
theorem dL_law_886 : decode cL_law 886 = .ok (.iconst 0, 1) := by decide +kernel
theorem dL_law_887 : decode cL_law 887 = .ok (.ireturn, 1) := by decide +kernel
theorem dL_law_888 : decode cL_law 888 = .ok (.iload 20, 2) := by decide +kernel
theorem dL_law_890 : decode cL_law 890 = .ok (.iconst 1, 1) := by decide +kernel
theorem dL_law_891 : decode cL_law 891 = .ok (.if_icmp .le 35, 3) := by decide +kernel
theorem dL_law_894 : decode cL_law 894 = .ok (.iload 20, 2) := by decide +kernel
theorem dL_law_896 : decode cL_law 896 = .ok (.bipush 11, 2) := by decide +kernel
theorem dL_law_898 : decode cL_law 898 = .ok (.if_icmp .ge 28, 3) := by decide +kernel
theorem dL_law_901 : decode cL_law 901 = .ok (.aload_n 1, 1) := by decide +kernel
theorem dL_law_902 : decode cL_law 902 = .ok (.iload 13, 2) := by decide +kernel
theorem dL_law_904 : decode cL_law 904 = .ok (.iload 20, 2) := by decide +kernel
theorem dL_law_906 : decode cL_law 906 = .ok (.iconst 1, 1) := by decide +kernel
theorem dL_law_907 : decode cL_law 907 = .ok (.isub, 1) := by decide +kernel
theorem dL_law_908 : decode cL_law 908 = .ok (.invokevirtual 75, 3) := by decide +kernel
theorem dL_law_911 : decode cL_law 911 = .ok (.ifCond .ne 13, 3) := by decide +kernel
theorem dL_law_914 : decode cL_law 914 = .ok (.aload_n 1, 1) := by decide +kernel
theorem dL_law_915 : decode cL_law 915 = .ok (.iload 5, 2) := by decide +kernel
theorem dL_law_917 : decode cL_law 917 = .ok (.invokevirtual 81, 3) := by decide +kernel
theorem dL_law_920 : decode cL_law 920 = .ok (.iconst 1, 1) := by decide +kernel
theorem dL_law_921 : decode cL_law 921 = .ok (.if_icmp .eq 5, 3) := by decide +kernel
theorem dL_law_924 : decode cL_law 924 = .ok (.iconst 0, 1) := by decide +kernel
theorem dL_law_925 : decode cL_law 925 = .ok (.ireturn, 1) := by decide +kernel
theorem dL_law_926 : decode cL_law 926 = .ok (.iinc 13 1, 3) := by decide +kernel
theorem dL_law_929 : decode cL_law 929 = .ok (.goto (-491), 3) := by decide +kernel
theorem dL_law_932 : decode cL_law 932 = .ok (.aload_n 0, 1) := by decide +kernel
theorem dL_law_933 : decode cL_law 933 = .ok (.bipush 14, 2) := by decide +kernel
theorem dL_law_935 : decode cL_law 935 = .ok (.invokestatic 9, 3) := by decide +kernel
theorem dL_law_938 : decode cL_law 938 = .ok (.iload 4, 2) := by decide +kernel
theorem dL_law_940 : decode cL_law 940 = .ok (.invokestatic 15, 3) := by decide +kernel
theorem dL_law_943 : decode cL_law 943 = .ok (.istore 13, 2) := by decide +kernel
theorem dL_law_945 : decode cL_law 945 = .ok (.aload_n 1, 1) := by decide +kernel
theorem dL_law_946 : decode cL_law 946 = .ok (.iload 13, 2) := by decide +kernel
theorem dL_law_948 : decode cL_law 948 = .ok (.iconst 5, 1) := by decide +kernel
theorem dL_law_949 : decode cL_law 949 = .ok (.invokevirtual 84, 3) := by decide +kernel
theorem dL_law_952 : decode cL_law 952 = .ok (.istore 14, 2) := by decide +kernel
theorem dL_law_954 : decode cL_law 954 = .ok (.iload 14, 2) := by decide +kernel
theorem dL_law_956 : decode cL_law 956 = .ok (.bipush (-9), 2) := by decide +kernel
theorem dL_law_958 : decode cL_law 958 = .ok (.if_icmp .lt 50, 3) := by decide +kernel
theorem dL_law_961 : decode cL_law 961 = .ok (.iload 14, 2) := by decide +kernel
theorem dL_law_963 : decode cL_law 963 = .ok (.iconst 4, 1) := by decide +kernel
theorem dL_law_964 : decode cL_law 964 = .ok (.if_icmp .gt 44, 3) := by decide +kernel
theorem dL_law_967 : decode cL_law 967 = .ok (.iload 14, 2) := by decide +kernel
theorem dL_law_969 : decode cL_law 969 = .ok (.ifCond .ge 10, 3) := by decide +kernel
theorem dL_law_972 : decode cL_law 972 = .ok (.iload 14, 2) := by decide +kernel
theorem dL_law_974 : decode cL_law 974 = .ok (.bipush (-9), 2) := by decide +kernel
theorem dL_law_976 : decode cL_law 976 = .ok (.if_icmp .ne 32, 3) := by decide +kernel
theorem dL_law_979 : decode cL_law 979 = .ok (.iload 14, 2) := by decide +kernel
theorem dL_law_981 : decode cL_law 981 = .ok (.ifCond .ne 7, 3) := by decide +kernel
theorem dL_law_984 : decode cL_law 984 = .ok (.iconst 1, 1) := by decide +kernel
theorem dL_law_985 : decode cL_law 985 = .ok (.goto 4, 3) := by decide +kernel
theorem dL_law_988 : decode cL_law 988 = .ok (.iconst 0, 1) := by decide +kernel
theorem dL_law_989 : decode cL_law 989 = .ok (.iload 10, 2) := by decide +kernel
theorem dL_law_991 : decode cL_law 991 = .ok (.iload 13, 2) := by decide +kernel
theorem dL_law_993 : decode cL_law 993 = .ok (.ishr, 1) := by decide +kernel
theorem dL_law_994 : decode cL_law 994 = .ok (.iconst 1, 1) := by decide +kernel
theorem dL_law_995 : decode cL_law 995 = .ok (.iand, 1) := by decide +kernel
theorem dL_law_996 : decode cL_law 996 = .ok (.iconst 1, 1) := by decide +kernel
theorem dL_law_997 : decode cL_law 997 = .ok (.if_icmp .ne 7, 3) := by decide +kernel
theorem dL_law_1000 : decode cL_law 1000 = .ok (.iconst 1, 1) := by decide +kernel
theorem dL_law_1001 : decode cL_law 1001 = .ok (.goto 4, 3) := by decide +kernel
theorem dL_law_1004 : decode cL_law 1004 = .ok (.iconst 0, 1) := by decide +kernel
theorem dL_law_1005 : decode cL_law 1005 = .ok (.if_icmp .eq 5, 3) := by decide +kernel
theorem dL_law_1008 : decode cL_law 1008 = .ok (.iconst 0, 1) := by decide +kernel
theorem dL_law_1009 : decode cL_law 1009 = .ok (.ireturn, 1) := by decide +kernel
theorem dL_law_1010 : decode cL_law 1010 = .ok (.iconst 0, 1) := by decide +kernel
theorem dL_law_1011 : decode cL_law 1011 = .ok (.istore 15, 2) := by decide +kernel
theorem dL_law_1013 : decode cL_law 1013 = .ok (.iload 15, 2) := by decide +kernel
theorem dL_law_1015 : decode cL_law 1015 = .ok (.iload 14, 2) := by decide +kernel
theorem dL_law_1017 : decode cL_law 1017 = .ok (.if_icmp .ge 111, 3) := by decide +kernel
theorem dL_law_1020 : decode cL_law 1020 = .ok (.aload_n 1, 1) := by decide +kernel
theorem dL_law_1021 : decode cL_law 1021 = .ok (.iconst 5, 1) := by decide +kernel
theorem dL_law_1022 : decode cL_law 1022 = .ok (.iload 15, 2) := by decide +kernel
theorem dL_law_1024 : decode cL_law 1024 = .ok (.invokevirtual 87, 3) := by decide +kernel
theorem dL_law_1027 : decode cL_law 1027 = .ok (.istore 16, 2) := by decide +kernel
theorem dL_law_1029 : decode cL_law 1029 = .ok (.aload_n 1, 1) := by decide +kernel
theorem dL_law_1030 : decode cL_law 1030 = .ok (.invokevirtual 42, 3) := by decide +kernel
theorem dL_law_1033 : decode cL_law 1033 = .ok (.istore 17, 2) := by decide +kernel
theorem dL_law_1035 : decode cL_law 1035 = .ok (.iload 16, 2) := by decide +kernel
theorem dL_law_1037 : decode cL_law 1037 = .ok (.iconst 1, 1) := by decide +kernel
theorem dL_law_1038 : decode cL_law 1038 = .ok (.if_icmp .ne 82, 3) := by decide +kernel
theorem dL_law_1041 : decode cL_law 1041 = .ok (.iload 17, 2) := by decide +kernel
theorem dL_law_1043 : decode cL_law 1043 = .ok (.ifCond .lt 77, 3) := by decide +kernel
theorem dL_law_1046 : decode cL_law 1046 = .ok (.iload 17, 2) := by decide +kernel
theorem dL_law_1048 : decode cL_law 1048 = .ok (.bipush 11, 2) := by decide +kernel
theorem dL_law_1050 : decode cL_law 1050 = .ok (.if_icmp .gt 70, 3) := by decide +kernel
theorem dL_law_1053 : decode cL_law 1053 = .ok (.iload 17, 2) := by decide +kernel
theorem dL_law_1055 : decode cL_law 1055 = .ok (.bipush 6, 2) := by decide +kernel
theorem dL_law_1057 : decode cL_law 1057 = .ok (.irem, 1) := by decide +kernel
theorem dL_law_1058 : decode cL_law 1058 = .ok (.iload_n 3, 1) := by decide +kernel
theorem dL_law_1059 : decode cL_law 1059 = .ok (.if_icmp .ge 61, 3) := by decide +kernel
theorem dL_law_1062 : decode cL_law 1062 = .ok (.iload 17, 2) := by decide +kernel
theorem dL_law_1064 : decode cL_law 1064 = .ok (.bipush 6, 2) := by decide +kernel
theorem dL_law_1066 : decode cL_law 1066 = .ok (.if_icmp .ge 16, 3) := by decide +kernel
theorem dL_law_1069 : decode cL_law 1069 = .ok (.aload_n 1, 1) := by decide +kernel
theorem dL_law_1070 : decode cL_law 1070 = .ok (.iload 17, 2) := by decide +kernel
theorem dL_law_1072 : decode cL_law 1072 = .ok (.iconst 1, 1) := by decide +kernel
theorem dL_law_1073 : decode cL_law 1073 = .ok (.invokevirtual 75, 3) := by decide +kernel
theorem dL_law_1076 : decode cL_law 1076 = .ok (.ifCond .eq 18, 3) := by decide +kernel
theorem dL_law_1079 : decode cL_law 1079 = .ok (.goto 41, 3) := by decide +kernel
theorem dL_law_1082 : decode cL_law 1082 = .ok (.aload_n 1, 1) := by decide +kernel
theorem dL_law_1083 : decode cL_law 1083 = .ok (.iload 17, 2) := by decide +kernel
theorem dL_law_1085 : decode cL_law 1085 = .ok (.bipush 6, 2) := by decide +kernel
theorem dL_law_1087 : decode cL_law 1087 = .ok (.isub, 1) := by decide +kernel
theorem dL_law_1088 : decode cL_law 1088 = .ok (.invokevirtual 90, 3) := by decide +kernel
theorem dL_law_1091 : decode cL_law 1091 = .ok (.ifCond .lt 29, 3) := by decide +kernel
theorem dL_law_1094 : decode cL_law 1094 = .ok (.aload_n 1, 1) := by decide +kernel
theorem dL_law_1095 : decode cL_law 1095 = .ok (.invokevirtual 65, 3) := by decide +kernel
theorem dL_law_1098 : decode cL_law 1098 = .ok (.iload 13, 2) := by decide +kernel
theorem dL_law_1100 : decode cL_law 1100 = .ok (.ishr, 1) := by decide +kernel
theorem dL_law_1101 : decode cL_law 1101 = .ok (.iconst 1, 1) := by decide +kernel
theorem dL_law_1102 : decode cL_law 1102 = .ok (.iand, 1) := by decide +kernel
theorem dL_law_1103 : decode cL_law 1103 = .ok (.iload 15, 2) := by decide +kernel
theorem dL_law_1105 : decode cL_law 1105 = .ok (.iload 14, 2) := by decide +kernel
theorem dL_law_1107 : decode cL_law 1107 = .ok (.iconst 1, 1) := by decide +kernel
theorem dL_law_1108 : decode cL_law 1108 = .ok (.isub, 1) := by decide +kernel
theorem dL_law_1109 : decode cL_law 1109 = .ok (.if_icmp .ne 7, 3) := by decide +kernel
theorem dL_law_1112 : decode cL_law 1112 = .ok (.iconst 1, 1) := by decide +kernel
theorem dL_law_1113 : decode cL_law 1113 = .ok (.goto 4, 3) := by decide +kernel
theorem dL_law_1116 : decode cL_law 1116 = .ok (.iconst 0, 1) := by decide +kernel
theorem dL_law_1117 : decode cL_law 1117 = .ok (.if_icmp .eq 5, 3) := by decide +kernel
theorem dL_law_1120 : decode cL_law 1120 = .ok (.iconst 0, 1) := by decide +kernel
theorem dL_law_1121 : decode cL_law 1121 = .ok (.ireturn, 1) := by decide +kernel
theorem dL_law_1122 : decode cL_law 1122 = .ok (.iinc 15 1, 3) := by decide +kernel
theorem dL_law_1125 : decode cL_law 1125 = .ok (.goto (-112), 3) := by decide +kernel
theorem dL_law_1128 : decode cL_law 1128 = .ok (.iload 14, 2) := by decide +kernel
theorem dL_law_1130 : decode cL_law 1130 = .ok (.ifCond .le 24, 3) := by decide +kernel
theorem dL_law_1133 : decode cL_law 1133 = .ok (.aload_n 1, 1) := by decide +kernel
theorem dL_law_1134 : decode cL_law 1134 = .ok (.bipush 6, 2) := by decide +kernel
theorem dL_law_1136 : decode cL_law 1136 = .ok (.invokevirtual 62, 3) := by decide +kernel
theorem dL_law_1139 : decode cL_law 1139 = .ok (.iload 9, 2) := by decide +kernel
theorem dL_law_1141 : decode cL_law 1141 = .ok (.if_icmp .ne 23, 3) := by decide +kernel
theorem dL_law_1144 : decode cL_law 1144 = .ok (.aload_n 1, 1) := by decide +kernel
theorem dL_law_1145 : decode cL_law 1145 = .ok (.iload 13, 2) := by decide +kernel
theorem dL_law_1147 : decode cL_law 1147 = .ok (.iconst 5, 1) := by decide +kernel
theorem dL_law_1148 : decode cL_law 1148 = .ok (.invokevirtual 84, 3) := by decide +kernel
theorem dL_law_1151 : decode cL_law 1151 = .ok (.ifCond .ne 13, 3) := by decide +kernel
theorem dL_law_1154 : decode cL_law 1154 = .ok (.aload_n 1, 1) := by decide +kernel
theorem dL_law_1155 : decode cL_law 1155 = .ok (.iconst 0, 1) := by decide +kernel
theorem dL_law_1156 : decode cL_law 1156 = .ok (.invokevirtual 93, 3) := by decide +kernel
theorem dL_law_1159 : decode cL_law 1159 = .ok (.iload 5, 2) := by decide +kernel
theorem dL_law_1161 : decode cL_law 1161 = .ok (.if_icmp .eq 5, 3) := by decide +kernel
theorem dL_law_1164 : decode cL_law 1164 = .ok (.iconst 0, 1) := by decide +kernel
theorem dL_law_1165 : decode cL_law 1165 = .ok (.ireturn, 1) := by decide +kernel
theorem dL_law_1166 : decode cL_law 1166 = .ok (.aload_n 1, 1) := by decide +kernel
theorem dL_law_1167 : decode cL_law 1167 = .ok (.invokevirtual 96, 3) := by decide +kernel
theorem dL_law_1170 : decode cL_law 1170 = .ok (.istore 15, 2) := by decide +kernel
theorem dL_law_1172 : decode cL_law 1172 = .ok (.aload_n 1, 1) := by decide +kernel
theorem dL_law_1173 : decode cL_law 1173 = .ok (.invokevirtual 42, 3) := by decide +kernel
theorem dL_law_1176 : decode cL_law 1176 = .ok (.istore 16, 2) := by decide +kernel
theorem dL_law_1178 : decode cL_law 1178 = .ok (.aload_n 1, 1) := by decide +kernel
theorem dL_law_1179 : decode cL_law 1179 = .ok (.invokevirtual 99, 3) := by decide +kernel
theorem dL_law_1182 : decode cL_law 1182 = .ok (.istore 17, 2) := by decide +kernel
theorem dL_law_1184 : decode cL_law 1184 = .ok (.iload 15, 2) := by decide +kernel
theorem dL_law_1186 : decode cL_law 1186 = .ok (.bipush (-9), 2) := by decide +kernel
theorem dL_law_1188 : decode cL_law 1188 = .ok (.if_icmp .ne 11, 3) := by decide +kernel
theorem dL_law_1191 : decode cL_law 1191 = .ok (.iload 10, 2) := by decide +kernel
theorem dL_law_1193 : decode cL_law 1193 = .ok (.ifCond .ne 54, 3) := by decide +kernel
theorem dL_law_1196 : decode cL_law 1196 = .ok (.goto 49, 3) := by decide +kernel
theorem dL_law_1199 : decode cL_law 1199 = .ok (.iload 15, 2) := by decide +kernel
theorem dL_law_1201 : decode cL_law 1201 = .ok (.ifCond .lt 44, 3) := by decide +kernel
theorem dL_law_1204 : decode cL_law 1204 = .ok (.iload 15, 2) := by decide +kernel
theorem dL_law_1206 : decode cL_law 1206 = .ok (.iload 16, 2) := by decide +kernel
theorem dL_law_1208 : decode cL_law 1208 = .ok (.invokestatic 102, 3) := by decide +kernel
theorem dL_law_1211 : decode cL_law 1211 = .ok (.if_icmp .ne 34, 3) := by decide +kernel
theorem dL_law_1214 : decode cL_law 1214 = .ok (.iload 16, 2) := by decide +kernel
theorem dL_law_1216 : decode cL_law 1216 = .ok (.iload 9, 2) := by decide +kernel
theorem dL_law_1218 : decode cL_law 1218 = .ok (.iand, 1) := by decide +kernel
theorem dL_law_1219 : decode cL_law 1219 = .ok (.ifCond .ne 26, 3) := by decide +kernel
theorem dL_law_1222 : decode cL_law 1222 = .ok (.iload 15, 2) := by decide +kernel
theorem dL_law_1224 : decode cL_law 1224 = .ok (.ifCond .ne 7, 3) := by decide +kernel
theorem dL_law_1227 : decode cL_law 1227 = .ok (.iconst 1, 1) := by decide +kernel
theorem dL_law_1228 : decode cL_law 1228 = .ok (.goto 4, 3) := by decide +kernel
theorem dL_law_1231 : decode cL_law 1231 = .ok (.iconst 0, 1) := by decide +kernel
theorem dL_law_1232 : decode cL_law 1232 = .ok (.iload 10, 2) := by decide +kernel
theorem dL_law_1234 : decode cL_law 1234 = .ok (.ifCond .ne 7, 3) := by decide +kernel
theorem dL_law_1237 : decode cL_law 1237 = .ok (.iconst 1, 1) := by decide +kernel
theorem dL_law_1238 : decode cL_law 1238 = .ok (.goto 4, 3) := by decide +kernel
theorem dL_law_1241 : decode cL_law 1241 = .ok (.iconst 0, 1) := by decide +kernel
theorem dL_law_1242 : decode cL_law 1242 = .ok (.if_icmp .eq 5, 3) := by decide +kernel
theorem dL_law_1245 : decode cL_law 1245 = .ok (.iconst 0, 1) := by decide +kernel
theorem dL_law_1246 : decode cL_law 1246 = .ok (.ireturn, 1) := by decide +kernel
theorem dL_law_1247 : decode cL_law 1247 = .ok (.iconst 0, 1) := by decide +kernel
theorem dL_law_1248 : decode cL_law 1248 = .ok (.istore 18, 2) := by decide +kernel
theorem dL_law_1250 : decode cL_law 1250 = .ok (.iload 18, 2) := by decide +kernel
theorem dL_law_1252 : decode cL_law 1252 = .ok (.iload_n 3, 1) := by decide +kernel
theorem dL_law_1253 : decode cL_law 1253 = .ok (.if_icmp .ge 44, 3) := by decide +kernel
theorem dL_law_1256 : decode cL_law 1256 = .ok (.iload 15, 2) := by decide +kernel
theorem dL_law_1258 : decode cL_law 1258 = .ok (.ifCond .le 39, 3) := by decide +kernel
theorem dL_law_1261 : decode cL_law 1261 = .ok (.iload 16, 2) := by decide +kernel
theorem dL_law_1263 : decode cL_law 1263 = .ok (.iload 18, 2) := by decide +kernel
theorem dL_law_1265 : decode cL_law 1265 = .ok (.ishr, 1) := by decide +kernel
theorem dL_law_1266 : decode cL_law 1266 = .ok (.iconst 1, 1) := by decide +kernel
theorem dL_law_1267 : decode cL_law 1267 = .ok (.iand, 1) := by decide +kernel
theorem dL_law_1268 : decode cL_law 1268 = .ok (.iconst 1, 1) := by decide +kernel
theorem dL_law_1269 : decode cL_law 1269 = .ok (.if_icmp .ne 22, 3) := by decide +kernel
theorem dL_law_1272 : decode cL_law 1272 = .ok (.aload_n 1, 1) := by decide +kernel
theorem dL_law_1273 : decode cL_law 1273 = .ok (.invokevirtual 65, 3) := by decide +kernel
theorem dL_law_1276 : decode cL_law 1276 = .ok (.ifCond .eq 13, 3) := by decide +kernel
theorem dL_law_1279 : decode cL_law 1279 = .ok (.aload_n 1, 1) := by decide +kernel
theorem dL_law_1280 : decode cL_law 1280 = .ok (.iload 18, 2) := by decide +kernel
theorem dL_law_1282 : decode cL_law 1282 = .ok (.invokevirtual 105, 3) := by decide +kernel
theorem dL_law_1285 : decode cL_law 1285 = .ok (.iconst 1, 1) := by decide +kernel
theorem dL_law_1286 : decode cL_law 1286 = .ok (.if_icmp .ge 5, 3) := by decide +kernel
theorem dL_law_1289 : decode cL_law 1289 = .ok (.iconst 0, 1) := by decide +kernel
theorem dL_law_1290 : decode cL_law 1290 = .ok (.ireturn, 1) := by decide +kernel
theorem dL_law_1291 : decode cL_law 1291 = .ok (.iinc 18 1, 3) := by decide +kernel
theorem dL_law_1294 : decode cL_law 1294 = .ok (.goto (-44), 3) := by decide +kernel
theorem dL_law_1297 : decode cL_law 1297 = .ok (.iload 15, 2) := by decide +kernel
theorem dL_law_1299 : decode cL_law 1299 = .ok (.ifCond .lt 10, 3) := by decide +kernel
theorem dL_law_1302 : decode cL_law 1302 = .ok (.aload_n 1, 1) := by decide +kernel
theorem dL_law_1303 : decode cL_law 1303 = .ok (.invokevirtual 65, 3) := by decide +kernel
theorem dL_law_1306 : decode cL_law 1306 = .ok (.ifCond .ne 26, 3) := by decide +kernel
theorem dL_law_1309 : decode cL_law 1309 = .ok (.aload_n 1, 1) := by decide +kernel
theorem dL_law_1310 : decode cL_law 1310 = .ok (.iconst 0, 1) := by decide +kernel
theorem dL_law_1311 : decode cL_law 1311 = .ok (.invokevirtual 93, 3) := by decide +kernel
theorem dL_law_1314 : decode cL_law 1314 = .ok (.iload 5, 2) := by decide +kernel
theorem dL_law_1316 : decode cL_law 1316 = .ok (.if_icmp .ne 16, 3) := by decide +kernel
theorem dL_law_1319 : decode cL_law 1319 = .ok (.iload 17, 2) := by decide +kernel
theorem dL_law_1321 : decode cL_law 1321 = .ok (.ifCond .lt 11, 3) := by decide +kernel
theorem dL_law_1324 : decode cL_law 1324 = .ok (.iload 17, 2) := by decide +kernel
theorem dL_law_1326 : decode cL_law 1326 = .ok (.iload 9, 2) := by decide +kernel
theorem dL_law_1328 : decode cL_law 1328 = .ok (.iand, 1) := by decide +kernel
theorem dL_law_1329 : decode cL_law 1329 = .ok (.ifCond .eq 5, 3) := by decide +kernel
theorem dL_law_1332 : decode cL_law 1332 = .ok (.iconst 0, 1) := by decide +kernel
theorem dL_law_1333 : decode cL_law 1333 = .ok (.ireturn, 1) := by decide +kernel
theorem dL_law_1334 : decode cL_law 1334 = .ok (.iconst 0, 1) := by decide +kernel
theorem dL_law_1335 : decode cL_law 1335 = .ok (.istore 18, 2) := by decide +kernel
theorem dL_law_1337 : decode cL_law 1337 = .ok (.iload 18, 2) := by decide +kernel
theorem dL_law_1339 : decode cL_law 1339 = .ok (.iload_n 3, 1) := by decide +kernel
theorem dL_law_1340 : decode cL_law 1340 = .ok (.if_icmp .ge 80, 3) := by decide +kernel
theorem dL_law_1343 : decode cL_law 1343 = .ok (.iload 9, 2) := by decide +kernel
theorem dL_law_1345 : decode cL_law 1345 = .ok (.iload 18, 2) := by decide +kernel
theorem dL_law_1347 : decode cL_law 1347 = .ok (.ishr, 1) := by decide +kernel
theorem dL_law_1348 : decode cL_law 1348 = .ok (.iconst 1, 1) := by decide +kernel
theorem dL_law_1349 : decode cL_law 1349 = .ok (.iand, 1) := by decide +kernel
theorem dL_law_1350 : decode cL_law 1350 = .ok (.ifCond .ne 64, 3) := by decide +kernel
theorem dL_law_1353 : decode cL_law 1353 = .ok (.aload_n 1, 1) := by decide +kernel
theorem dL_law_1354 : decode cL_law 1354 = .ok (.iload 18, 2) := by decide +kernel
theorem dL_law_1356 : decode cL_law 1356 = .ok (.invokevirtual 105, 3) := by decide +kernel
theorem dL_law_1359 : decode cL_law 1359 = .ok (.iload 9, 2) := by decide +kernel
theorem dL_law_1361 : decode cL_law 1361 = .ok (.invokestatic 102, 3) := by decide +kernel
theorem dL_law_1364 : decode cL_law 1364 = .ok (.iconst 1, 1) := by decide +kernel
theorem dL_law_1365 : decode cL_law 1365 = .ok (.iadd, 1) := by decide +kernel
theorem dL_law_1366 : decode cL_law 1366 = .ok (.if_icmp .ne 46, 3) := by decide +kernel
theorem dL_law_1369 : decode cL_law 1369 = .ok (.aload_n 1, 1) := by decide +kernel
theorem dL_law_1370 : decode cL_law 1370 = .ok (.invokevirtual 65, 3) := by decide +kernel
theorem dL_law_1373 : decode cL_law 1373 = .ok (.iload 10, 2) := by decide +kernel
theorem dL_law_1375 : decode cL_law 1375 = .ok (.if_icmp .ne 7, 3) := by decide +kernel
theorem dL_law_1378 : decode cL_law 1378 = .ok (.iconst 1, 1) := by decide +kernel
theorem dL_law_1379 : decode cL_law 1379 = .ok (.goto 4, 3) := by decide +kernel
theorem dL_law_1382 : decode cL_law 1382 = .ok (.iconst 0, 1) := by decide +kernel
theorem dL_law_1383 : decode cL_law 1383 = .ok (.iload 17, 2) := by decide +kernel
theorem dL_law_1385 : decode cL_law 1385 = .ok (.iload 18, 2) := by decide +kernel
theorem dL_law_1387 : decode cL_law 1387 = .ok (.ishr, 1) := by decide +kernel
theorem dL_law_1388 : decode cL_law 1388 = .ok (.iconst 1, 1) := by decide +kernel
theorem dL_law_1389 : decode cL_law 1389 = .ok (.iand, 1) := by decide +kernel
theorem dL_law_1390 : decode cL_law 1390 = .ok (.iconst 1, 1) := by decide +kernel
theorem dL_law_1391 : decode cL_law 1391 = .ok (.if_icmp .ne 7, 3) := by decide +kernel
theorem dL_law_1394 : decode cL_law 1394 = .ok (.iconst 1, 1) := by decide +kernel
theorem dL_law_1395 : decode cL_law 1395 = .ok (.goto 4, 3) := by decide +kernel
theorem dL_law_1398 : decode cL_law 1398 = .ok (.iconst 0, 1) := by decide +kernel
theorem dL_law_1399 : decode cL_law 1399 = .ok (.if_icmp .ne 13, 3) := by decide +kernel
theorem dL_law_1402 : decode cL_law 1402 = .ok (.aload_n 1, 1) := by decide +kernel
theorem dL_law_1403 : decode cL_law 1403 = .ok (.iconst 0, 1) := by decide +kernel
theorem dL_law_1404 : decode cL_law 1404 = .ok (.invokevirtual 93, 3) := by decide +kernel
theorem dL_law_1407 : decode cL_law 1407 = .ok (.iload 5, 2) := by decide +kernel
theorem dL_law_1409 : decode cL_law 1409 = .ok (.if_icmp .eq 5, 3) := by decide +kernel
theorem dL_law_1412 : decode cL_law 1412 = .ok (.iconst 0, 1) := by decide +kernel
theorem dL_law_1413 : decode cL_law 1413 = .ok (.ireturn, 1) := by decide +kernel
theorem dL_law_1414 : decode cL_law 1414 = .ok (.iinc 18 1, 3) := by decide +kernel
theorem dL_law_1417 : decode cL_law 1417 = .ok (.goto (-80), 3) := by decide +kernel
theorem dL_law_1420 : decode cL_law 1420 = .ok (.aload_n 0, 1) := by decide +kernel
theorem dL_law_1421 : decode cL_law 1421 = .ok (.bipush 15, 2) := by decide +kernel
theorem dL_law_1423 : decode cL_law 1423 = .ok (.invokestatic 9, 3) := by decide +kernel
theorem dL_law_1426 : decode cL_law 1426 = .ok (.bipush 61, 2) := by decide +kernel
theorem dL_law_1428 : decode cL_law 1428 = .ok (.invokestatic 15, 3) := by decide +kernel
theorem dL_law_1431 : decode cL_law 1431 = .ok (.istore 18, 2) := by decide +kernel
theorem dL_law_1433 : decode cL_law 1433 = .ok (.aload_n 1, 1) := by decide +kernel
theorem dL_law_1434 : decode cL_law 1434 = .ok (.iload 18, 2) := by decide +kernel
theorem dL_law_1436 : decode cL_law 1436 = .ok (.iconst 4, 1) := by decide +kernel
theorem dL_law_1437 : decode cL_law 1437 = .ok (.invokevirtual 108, 3) := by decide +kernel
theorem dL_law_1440 : decode cL_law 1440 = .ok (.istore 19, 2) := by decide +kernel
theorem dL_law_1442 : decode cL_law 1442 = .ok (.iconst 0, 1) := by decide +kernel
theorem dL_law_1443 : decode cL_law 1443 = .ok (.istore 20, 2) := by decide +kernel
theorem dL_law_1445 : decode cL_law 1445 = .ok (.iconst 0, 1) := by decide +kernel
theorem dL_law_1446 : decode cL_law 1446 = .ok (.istore 21, 2) := by decide +kernel
theorem dL_law_1448 : decode cL_law 1448 = .ok (.iconst 0, 1) := by decide +kernel
theorem dL_law_1449 : decode cL_law 1449 = .ok (.istore 22, 2) := by decide +kernel
theorem dL_law_1451 : decode cL_law 1451 = .ok (.iload 22, 2) := by decide +kernel
theorem dL_law_1453 : decode cL_law 1453 = .ok (.iload_n 3, 1) := by decide +kernel
theorem dL_law_1454 : decode cL_law 1454 = .ok (.if_icmp .ge 104, 3) := by decide +kernel
theorem dL_law_1457 : decode cL_law 1457 = .ok (.aload_n 1, 1) := by decide +kernel
theorem dL_law_1458 : decode cL_law 1458 = .ok (.iconst 4, 1) := by decide +kernel
theorem dL_law_1459 : decode cL_law 1459 = .ok (.iload 22, 2) := by decide +kernel
theorem dL_law_1461 : decode cL_law 1461 = .ok (.invokevirtual 87, 3) := by decide +kernel
theorem dL_law_1464 : decode cL_law 1464 = .ok (.iconst 1, 1) := by decide +kernel
theorem dL_law_1465 : decode cL_law 1465 = .ok (.if_icmp .ne 10, 3) := by decide +kernel
theorem dL_law_1468 : decode cL_law 1468 = .ok (.aload_n 1, 1) := by decide +kernel
theorem dL_law_1469 : decode cL_law 1469 = .ok (.invokevirtual 42, 3) := by decide +kernel
theorem dL_law_1472 : decode cL_law 1472 = .ok (.goto 4, 3) := by decide +kernel
theorem dL_law_1475 : decode cL_law 1475 = .ok (.iconst (-1), 1) := by decide +kernel
theorem dL_law_1476 : decode cL_law 1476 = .ok (.istore 23, 2) := by decide +kernel
theorem dL_law_1478 : decode cL_law 1478 = .ok (.iload 8, 2) := by decide +kernel
theorem dL_law_1480 : decode cL_law 1480 = .ok (.iload 9, 2) := by decide +kernel
theorem dL_law_1482 : decode cL_law 1482 = .ok (.ior, 1) := by decide +kernel
theorem dL_law_1483 : decode cL_law 1483 = .ok (.iload 22, 2) := by decide +kernel
theorem dL_law_1485 : decode cL_law 1485 = .ok (.ishr, 1) := by decide +kernel
theorem dL_law_1486 : decode cL_law 1486 = .ok (.iconst 1, 1) := by decide +kernel
theorem dL_law_1487 : decode cL_law 1487 = .ok (.iand, 1) := by decide +kernel
theorem dL_law_1488 : decode cL_law 1488 = .ok (.iconst 1, 1) := by decide +kernel
theorem dL_law_1489 : decode cL_law 1489 = .ok (.if_icmp .ne 7, 3) := by decide +kernel
theorem dL_law_1492 : decode cL_law 1492 = .ok (.iconst 0, 1) := by decide +kernel
theorem dL_law_1493 : decode cL_law 1493 = .ok (.goto 16, 3) := by decide +kernel
theorem dL_law_1496 : decode cL_law 1496 = .ok (.aload_n 1, 1) := by decide +kernel
theorem dL_law_1497 : decode cL_law 1497 = .ok (.iload 22, 2) := by decide +kernel
theorem dL_law_1499 : decode cL_law 1499 = .ok (.iconst 1, 1) := by decide +kernel
theorem dL_law_1500 : decode cL_law 1500 = .ok (.invokestatic 68, 3) := by decide +kernel
theorem dL_law_1503 : decode cL_law 1503 = .ok (.aload 11, 2) := by decide +kernel
theorem dL_law_1505 : decode cL_law 1505 = .ok (.iload 22, 2) := by decide +kernel
theorem dL_law_1507 : decode cL_law 1507 = .ok (.iaload, 1) := by decide +kernel
theorem dL_law_1508 : decode cL_law 1508 = .ok (.isub, 1) := by decide +kernel
theorem dL_law_1509 : decode cL_law 1509 = .ok (.istore 24, 2) := by decide +kernel
theorem dL_law_1511 : decode cL_law 1511 = .ok (.iload 24, 2) := by decide +kernel
theorem dL_law_1513 : decode cL_law 1513 = .ok (.ifCond .ge 7, 3) := by decide +kernel
theorem dL_law_1516 : decode cL_law 1516 = .ok (.iconst 0, 1) := by decide +kernel
theorem dL_law_1517 : decode cL_law 1517 = .ok (.goto 5, 3) := by decide +kernel
theorem dL_law_1520 : decode cL_law 1520 = .ok (.iload 24, 2) := by decide +kernel
theorem dL_law_1522 : decode cL_law 1522 = .ok (.istore 24, 2) := by decide +kernel
theorem dL_law_1524 : decode cL_law 1524 = .ok (.iload 20, 2) := by decide +kernel
theorem dL_law_1526 : decode cL_law 1526 = .ok (.iload 24, 2) := by decide +kernel
theorem dL_law_1528 : decode cL_law 1528 = .ok (.iadd, 1) := by decide +kernel
theorem dL_law_1529 : decode cL_law 1529 = .ok (.istore 20, 2) := by decide +kernel
theorem dL_law_1531 : decode cL_law 1531 = .ok (.iload 21, 2) := by decide +kernel
theorem dL_law_1533 : decode cL_law 1533 = .ok (.iload 23, 2) := by decide +kernel
theorem dL_law_1535 : decode cL_law 1535 = .ok (.iadd, 1) := by decide +kernel
theorem dL_law_1536 : decode cL_law 1536 = .ok (.istore 21, 2) := by decide +kernel
theorem dL_law_1538 : decode cL_law 1538 = .ok (.iload 23, 2) := by decide +kernel
theorem dL_law_1540 : decode cL_law 1540 = .ok (.ifCond .lt 10, 3) := by decide +kernel
theorem dL_law_1543 : decode cL_law 1543 = .ok (.iload 23, 2) := by decide +kernel
theorem dL_law_1545 : decode cL_law 1545 = .ok (.iload 24, 2) := by decide +kernel
theorem dL_law_1547 : decode cL_law 1547 = .ok (.if_icmp .le 5, 3) := by decide +kernel
theorem dL_law_1550 : decode cL_law 1550 = .ok (.iconst 0, 1) := by decide +kernel
theorem dL_law_1551 : decode cL_law 1551 = .ok (.ireturn, 1) := by decide +kernel
theorem dL_law_1552 : decode cL_law 1552 = .ok (.iinc 22 1, 3) := by decide +kernel
theorem dL_law_1555 : decode cL_law 1555 = .ok (.goto (-104), 3) := by decide +kernel
theorem dL_law_1558 : decode cL_law 1558 = .ok (.iload 19, 2) := by decide +kernel
theorem dL_law_1560 : decode cL_law 1560 = .ok (.ifCond .lt 25, 3) := by decide +kernel
theorem dL_law_1563 : decode cL_law 1563 = .ok (.iload 21, 2) := by decide +kernel
theorem dL_law_1565 : decode cL_law 1565 = .ok (.iload 19, 2) := by decide +kernel
theorem dL_law_1567 : decode cL_law 1567 = .ok (.iadd, 1) := by decide +kernel
theorem dL_law_1568 : decode cL_law 1568 = .ok (.iload 18, 2) := by decide +kernel
theorem dL_law_1570 : decode cL_law 1570 = .ok (.if_icmp .ne 15, 3) := by decide +kernel
theorem dL_law_1573 : decode cL_law 1573 = .ok (.iload 19, 2) := by decide +kernel
theorem dL_law_1575 : decode cL_law 1575 = .ok (.ifCond .le 12, 3) := by decide +kernel
theorem dL_law_1578 : decode cL_law 1578 = .ok (.iload 21, 2) := by decide +kernel
theorem dL_law_1580 : decode cL_law 1580 = .ok (.iload 20, 2) := by decide +kernel
theorem dL_law_1582 : decode cL_law 1582 = .ok (.if_icmp .eq 5, 3) := by decide +kernel
theorem dL_law_1585 : decode cL_law 1585 = .ok (.iconst 0, 1) := by decide +kernel
theorem dL_law_1586 : decode cL_law 1586 = .ok (.ireturn, 1) := by decide +kernel
theorem dL_law_1587 : decode cL_law 1587 = .ok (.aload_n 0, 1) := by decide +kernel
theorem dL_law_1588 : decode cL_law 1588 = .ok (.bipush 16, 2) := by decide +kernel
theorem dL_law_1590 : decode cL_law 1590 = .ok (.invokestatic 9, 3) := by decide +kernel
theorem dL_law_1593 : decode cL_law 1593 = .ok (.bipush 9, 2) := by decide +kernel
theorem dL_law_1595 : decode cL_law 1595 = .ok (.invokestatic 15, 3) := by decide +kernel
theorem dL_law_1598 : decode cL_law 1598 = .ok (.istore 22, 2) := by decide +kernel
theorem dL_law_1600 : decode cL_law 1600 = .ok (.aload_n 0, 1) := by decide +kernel
theorem dL_law_1601 : decode cL_law 1601 = .ok (.bipush 17, 2) := by decide +kernel
theorem dL_law_1603 : decode cL_law 1603 = .ok (.invokestatic 9, 3) := by decide +kernel
theorem dL_law_1606 : decode cL_law 1606 = .ok (.iload_n 3, 1) := by decide +kernel
theorem dL_law_1607 : decode cL_law 1607 = .ok (.invokestatic 15, 3) := by decide +kernel
theorem dL_law_1610 : decode cL_law 1610 = .ok (.istore 23, 2) := by decide +kernel
theorem dL_law_1612 : decode cL_law 1612 = .ok (.aload_n 1, 1) := by decide +kernel
theorem dL_law_1613 : decode cL_law 1613 = .ok (.iconst 3, 1) := by decide +kernel
theorem dL_law_1614 : decode cL_law 1614 = .ok (.iconst 2, 1) := by decide +kernel
theorem dL_law_1615 : decode cL_law 1615 = .ok (.iload 22, 2) := by decide +kernel
theorem dL_law_1617 : decode cL_law 1617 = .ok (.imul, 1) := by decide +kernel
theorem dL_law_1618 : decode cL_law 1618 = .ok (.invokevirtual 111, 3) := by decide +kernel
theorem dL_law_1621 : decode cL_law 1621 = .ok (.iconst 2, 1) := by decide +kernel
theorem dL_law_1622 : decode cL_law 1622 = .ok (.iload 22, 2) := by decide +kernel
theorem dL_law_1624 : decode cL_law 1624 = .ok (.imul, 1) := by decide +kernel
theorem dL_law_1625 : decode cL_law 1625 = .ok (.if_icmp .eq 5, 3) := by decide +kernel
theorem dL_law_1628 : decode cL_law 1628 = .ok (.iconst 0, 1) := by decide +kernel
theorem dL_law_1629 : decode cL_law 1629 = .ok (.ireturn, 1) := by decide +kernel
theorem dL_law_1630 : decode cL_law 1630 = .ok (.iconst 0, 1) := by decide +kernel
theorem dL_law_1631 : decode cL_law 1631 = .ok (.istore 24, 2) := by decide +kernel
theorem dL_law_1633 : decode cL_law 1633 = .ok (.iload 24, 2) := by decide +kernel
theorem dL_law_1635 : decode cL_law 1635 = .ok (.iload 22, 2) := by decide +kernel
theorem dL_law_1637 : decode cL_law 1637 = .ok (.if_icmp .ge 65, 3) := by decide +kernel
theorem dL_law_1640 : decode cL_law 1640 = .ok (.aload_n 0, 1) := by decide +kernel
theorem dL_law_1641 : decode cL_law 1641 = .ok (.bipush 18, 2) := by decide +kernel
theorem dL_law_1643 : decode cL_law 1643 = .ok (.iload 24, 2) := by decide +kernel
theorem dL_law_1645 : decode cL_law 1645 = .ok (.iadd, 1) := by decide +kernel
theorem dL_law_1646 : decode cL_law 1646 = .ok (.invokestatic 9, 3) := by decide +kernel
theorem dL_law_1649 : decode cL_law 1649 = .ok (.bipush 100, 2) := by decide +kernel
theorem dL_law_1651 : decode cL_law 1651 = .ok (.invokestatic 15, 3) := by decide +kernel
theorem dL_law_1654 : decode cL_law 1654 = .ok (.istore 25, 2) := by decide +kernel
theorem dL_law_1656 : decode cL_law 1656 = .ok (.aload_n 1, 1) := by decide +kernel
theorem dL_law_1657 : decode cL_law 1657 = .ok (.iconst 3, 1) := by decide +kernel
theorem dL_law_1658 : decode cL_law 1658 = .ok (.iconst 2, 1) := by decide +kernel
theorem dL_law_1659 : decode cL_law 1659 = .ok (.iload 24, 2) := by decide +kernel
theorem dL_law_1661 : decode cL_law 1661 = .ok (.imul, 1) := by decide +kernel
theorem dL_law_1662 : decode cL_law 1662 = .ok (.iload 25, 2) := by decide +kernel
theorem dL_law_1664 : decode cL_law 1664 = .ok (.invokevirtual 114, 3) := by decide +kernel
theorem dL_law_1667 : decode cL_law 1667 = .ok (.iconst 1, 1) := by decide +kernel
theorem dL_law_1668 : decode cL_law 1668 = .ok (.if_icmp .ne 26, 3) := by decide +kernel
theorem dL_law_1671 : decode cL_law 1671 = .ok (.aload_n 1, 1) := by decide +kernel
theorem dL_law_1672 : decode cL_law 1672 = .ok (.iconst 3, 1) := by decide +kernel
theorem dL_law_1673 : decode cL_law 1673 = .ok (.iconst 2, 1) := by decide +kernel
theorem dL_law_1674 : decode cL_law 1674 = .ok (.iload 24, 2) := by decide +kernel
theorem dL_law_1676 : decode cL_law 1676 = .ok (.imul, 1) := by decide +kernel
theorem dL_law_1677 : decode cL_law 1677 = .ok (.iconst 1, 1) := by decide +kernel
theorem dL_law_1678 : decode cL_law 1678 = .ok (.iadd, 1) := by decide +kernel
theorem dL_law_1679 : decode cL_law 1679 = .ok (.aload_n 1, 1) := by decide +kernel
theorem dL_law_1680 : decode cL_law 1680 = .ok (.iload 23, 2) := by decide +kernel
theorem dL_law_1682 : decode cL_law 1682 = .ok (.iload 25, 2) := by decide +kernel
theorem dL_law_1684 : decode cL_law 1684 = .ok (.invokevirtual 116, 3) := by decide +kernel
theorem dL_law_1687 : decode cL_law 1687 = .ok (.invokevirtual 114, 3) := by decide +kernel
theorem dL_law_1690 : decode cL_law 1690 = .ok (.iconst 1, 1) := by decide +kernel
theorem dL_law_1691 : decode cL_law 1691 = .ok (.if_icmp .eq 5, 3) := by decide +kernel
theorem dL_law_1694 : decode cL_law 1694 = .ok (.iconst 0, 1) := by decide +kernel
theorem dL_law_1695 : decode cL_law 1695 = .ok (.ireturn, 1) := by decide +kernel
theorem dL_law_1696 : decode cL_law 1696 = .ok (.iinc 24 1, 3) := by decide +kernel
theorem dL_law_1699 : decode cL_law 1699 = .ok (.goto (-66), 3) := by decide +kernel
theorem dL_law_1702 : decode cL_law 1702 = .ok (.aload_n 1, 1) := by decide +kernel
theorem dL_law_1703 : decode cL_law 1703 = .ok (.iconst 3, 1) := by decide +kernel
theorem dL_law_1704 : decode cL_law 1704 = .ok (.invokevirtual 119, 3) := by decide +kernel
theorem dL_law_1707 : decode cL_law 1707 = .ok (.istore 24, 2) := by decide +kernel
theorem dL_law_1709 : decode cL_law 1709 = .ok (.aload_n 1, 1) := by decide +kernel
theorem dL_law_1710 : decode cL_law 1710 = .ok (.iconst 3, 1) := by decide +kernel
theorem dL_law_1711 : decode cL_law 1711 = .ok (.invokevirtual 122, 3) := by decide +kernel
theorem dL_law_1714 : decode cL_law 1714 = .ok (.istore 25, 2) := by decide +kernel
theorem dL_law_1716 : decode cL_law 1716 = .ok (.aload_n 1, 1) := by decide +kernel
theorem dL_law_1717 : decode cL_law 1717 = .ok (.invokevirtual 42, 3) := by decide +kernel
theorem dL_law_1720 : decode cL_law 1720 = .ok (.istore 26, 2) := by decide +kernel
theorem dL_law_1722 : decode cL_law 1722 = .ok (.iload 24, 2) := by decide +kernel
theorem dL_law_1724 : decode cL_law 1724 = .ok (.aload_n 2, 1) := by decide +kernel
theorem dL_law_1725 : decode cL_law 1725 = .ok (.iconst 2, 1) := by decide +kernel
theorem dL_law_1726 : decode cL_law 1726 = .ok (.iload 23, 2) := by decide +kernel
theorem dL_law_1728 : decode cL_law 1728 = .ok (.iadd, 1) := by decide +kernel
theorem dL_law_1729 : decode cL_law 1729 = .ok (.iaload, 1) := by decide +kernel
theorem dL_law_1730 : decode cL_law 1730 = .ok (.ishr, 1) := by decide +kernel
theorem dL_law_1731 : decode cL_law 1731 = .ok (.iconst 1, 1) := by decide +kernel
theorem dL_law_1732 : decode cL_law 1732 = .ok (.iand, 1) := by decide +kernel
theorem dL_law_1733 : decode cL_law 1733 = .ok (.iconst 1, 1) := by decide +kernel
theorem dL_law_1734 : decode cL_law 1734 = .ok (.if_icmp .ne 45, 3) := by decide +kernel
theorem dL_law_1737 : decode cL_law 1737 = .ok (.aload_n 1, 1) := by decide +kernel
theorem dL_law_1738 : decode cL_law 1738 = .ok (.iconst 3, 1) := by decide +kernel
theorem dL_law_1739 : decode cL_law 1739 = .ok (.invokevirtual 125, 3) := by decide +kernel
theorem dL_law_1742 : decode cL_law 1742 = .ok (.iload 23, 2) := by decide +kernel
theorem dL_law_1744 : decode cL_law 1744 = .ok (.ishr, 1) := by decide +kernel
theorem dL_law_1745 : decode cL_law 1745 = .ok (.iconst 1, 1) := by decide +kernel
theorem dL_law_1746 : decode cL_law 1746 = .ok (.iand, 1) := by decide +kernel
theorem dL_law_1747 : decode cL_law 1747 = .ok (.iconst 1, 1) := by decide +kernel
theorem dL_law_1748 : decode cL_law 1748 = .ok (.if_icmp .ne 31, 3) := by decide +kernel
theorem dL_law_1751 : decode cL_law 1751 = .ok (.iload 25, 2) := by decide +kernel
theorem dL_law_1753 : decode cL_law 1753 = .ok (.ifCond .lt 26, 3) := by decide +kernel
theorem dL_law_1756 : decode cL_law 1756 = .ok (.iload 25, 2) := by decide +kernel
theorem dL_law_1758 : decode cL_law 1758 = .ok (.bipush 20, 2) := by decide +kernel
theorem dL_law_1760 : decode cL_law 1760 = .ok (.if_icmp .gt 19, 3) := by decide +kernel
theorem dL_law_1763 : decode cL_law 1763 = .ok (.iload 26, 2) := by decide +kernel
theorem dL_law_1765 : decode cL_law 1765 = .ok (.iconst 1, 1) := by decide +kernel
theorem dL_law_1766 : decode cL_law 1766 = .ok (.if_icmp .lt 13, 3) := by decide +kernel
theorem dL_law_1769 : decode cL_law 1769 = .ok (.iload 26, 2) := by decide +kernel
theorem dL_law_1771 : decode cL_law 1771 = .ok (.iload 24, 2) := by decide +kernel
theorem dL_law_1773 : decode cL_law 1773 = .ok (.invokestatic 102, 3) := by decide +kernel
theorem dL_law_1776 : decode cL_law 1776 = .ok (.if_icmp .le 5, 3) := by decide +kernel
theorem dL_law_1779 : decode cL_law 1779 = .ok (.iconst 0, 1) := by decide +kernel
theorem dL_law_1780 : decode cL_law 1780 = .ok (.ireturn, 1) := by decide +kernel
theorem dL_law_1781 : decode cL_law 1781 = .ok (.iload 9, 2) := by decide +kernel
theorem dL_law_1783 : decode cL_law 1783 = .ok (.bipush 42, 2) := by decide +kernel
theorem dL_law_1785 : decode cL_law 1785 = .ok (.iand, 1) := by decide +kernel
theorem dL_law_1786 : decode cL_law 1786 = .ok (.invokestatic 102, 3) := by decide +kernel
theorem dL_law_1789 : decode cL_law 1789 = .ok (.iload 9, 2) := by decide +kernel
theorem dL_law_1791 : decode cL_law 1791 = .ok (.bipush 21, 2) := by decide +kernel
theorem dL_law_1793 : decode cL_law 1793 = .ok (.iand, 1) := by decide +kernel
theorem dL_law_1794 : decode cL_law 1794 = .ok (.invokestatic 102, 3) := by decide +kernel
theorem dL_law_1797 : decode cL_law 1797 = .ok (.isub, 1) := by decide +kernel
theorem dL_law_1798 : decode cL_law 1798 = .ok (.istore 27, 2) := by decide +kernel
theorem dL_law_1800 : decode cL_law 1800 = .ok (.aload_n 1, 1) := by decide +kernel
theorem dL_law_1801 : decode cL_law 1801 = .ok (.iconst 0, 1) := by decide +kernel
theorem dL_law_1802 : decode cL_law 1802 = .ok (.invokevirtual 128, 3) := by decide +kernel
theorem dL_law_1805 : decode cL_law 1805 = .ok (.iconst 1, 1) := by decide +kernel
theorem dL_law_1806 : decode cL_law 1806 = .ok (.if_icmp .ne 43, 3) := by decide +kernel
theorem dL_law_1809 : decode cL_law 1809 = .ok (.aload_n 1, 1) := by decide +kernel
theorem dL_law_1810 : decode cL_law 1810 = .ok (.invokevirtual 42, 3) := by decide +kernel
theorem dL_law_1813 : decode cL_law 1813 = .ok (.iload 27, 2) := by decide +kernel
theorem dL_law_1815 : decode cL_law 1815 = .ok (.if_icmp .ne 34, 3) := by decide +kernel
theorem dL_law_1818 : decode cL_law 1818 = .ok (.aload_n 1, 1) := by decide +kernel
theorem dL_law_1819 : decode cL_law 1819 = .ok (.iconst 1, 1) := by decide +kernel
theorem dL_law_1820 : decode cL_law 1820 = .ok (.invokevirtual 128, 3) := by decide +kernel
theorem dL_law_1823 : decode cL_law 1823 = .ok (.iconst 1, 1) := by decide +kernel
theorem dL_law_1824 : decode cL_law 1824 = .ok (.if_icmp .ne 25, 3) := by decide +kernel
theorem dL_law_1827 : decode cL_law 1827 = .ok (.aload_n 1, 1) := by decide +kernel
theorem dL_law_1828 : decode cL_law 1828 = .ok (.invokevirtual 42, 3) := by decide +kernel
theorem dL_law_1831 : decode cL_law 1831 = .ok (.iload 27, 2) := by decide +kernel
theorem dL_law_1833 : decode cL_law 1833 = .ok (.iconst 1, 1) := by decide +kernel
theorem dL_law_1834 : decode cL_law 1834 = .ok (.iadd, 1) := by decide +kernel
theorem dL_law_1835 : decode cL_law 1835 = .ok (.if_icmp .gt 14, 3) := by decide +kernel
theorem dL_law_1838 : decode cL_law 1838 = .ok (.aload_n 1, 1) := by decide +kernel
theorem dL_law_1839 : decode cL_law 1839 = .ok (.invokevirtual 42, 3) := by decide +kernel
theorem dL_law_1842 : decode cL_law 1842 = .ok (.iload 27, 2) := by decide +kernel
theorem dL_law_1844 : decode cL_law 1844 = .ok (.iconst 1, 1) := by decide +kernel
theorem dL_law_1845 : decode cL_law 1845 = .ok (.isub, 1) := by decide +kernel
theorem dL_law_1846 : decode cL_law 1846 = .ok (.if_icmp .ge 5, 3) := by decide +kernel
theorem dL_law_1849 : decode cL_law 1849 = .ok (.iconst 0, 1) := by decide +kernel
theorem dL_law_1850 : decode cL_law 1850 = .ok (.ireturn, 1) := by decide +kernel
theorem dL_law_1851 : decode cL_law 1851 = .ok (.aload_n 0, 1) := by decide +kernel
theorem dL_law_1852 : decode cL_law 1852 = .ok (.bipush 27, 2) := by decide +kernel
theorem dL_law_1854 : decode cL_law 1854 = .ok (.invokestatic 9, 3) := by decide +kernel
theorem dL_law_1857 : decode cL_law 1857 = .ok (.bipush 13, 2) := by decide +kernel
theorem dL_law_1859 : decode cL_law 1859 = .ok (.invokestatic 15, 3) := by decide +kernel
theorem dL_law_1862 : decode cL_law 1862 = .ok (.istore 28, 2) := by decide +kernel
theorem dL_law_1864 : decode cL_law 1864 = .ok (.aload_n 1, 1) := by decide +kernel
theorem dL_law_1865 : decode cL_law 1865 = .ok (.iload 13, 2) := by decide +kernel
theorem dL_law_1867 : decode cL_law 1867 = .ok (.iconst 0, 1) := by decide +kernel
theorem dL_law_1868 : decode cL_law 1868 = .ok (.invokevirtual 131, 3) := by decide +kernel
theorem dL_law_1871 : decode cL_law 1871 = .ok (.iconst 1, 1) := by decide +kernel
theorem dL_law_1872 : decode cL_law 1872 = .ok (.if_icmp .ne 119, 3) := by decide +kernel
theorem dL_law_1875 : decode cL_law 1875 = .ok (.aload_n 1, 1) := by decide +kernel
theorem dL_law_1876 : decode cL_law 1876 = .ok (.invokevirtual 134, 3) := by decide +kernel
theorem dL_law_1879 : decode cL_law 1879 = .ok (.iload 10, 2) := by decide +kernel
theorem dL_law_1881 : decode cL_law 1881 = .ok (.iload 13, 2) := by decide +kernel
theorem dL_law_1883 : decode cL_law 1883 = .ok (.ishr, 1) := by decide +kernel
theorem dL_law_1884 : decode cL_law 1884 = .ok (.iconst 1, 1) := by decide +kernel
theorem dL_law_1885 : decode cL_law 1885 = .ok (.iand, 1) := by decide +kernel
theorem dL_law_1886 : decode cL_law 1886 = .ok (.i2l, 1) := by decide +kernel
theorem dL_law_1887 : decode cL_law 1887 = .ok (.lcmp, 1) := by decide +kernel
theorem dL_law_1888 : decode cL_law 1888 = .ok (.ifCond .ne 103, 3) := by decide +kernel
theorem dL_law_1891 : decode cL_law 1891 = .ok (.aload_n 1, 1) := by decide +kernel
theorem dL_law_1892 : decode cL_law 1892 = .ok (.invokevirtual 138, 3) := by decide +kernel
theorem dL_law_1895 : decode cL_law 1895 = .ok (.lconst 1, 1) := by decide +kernel
theorem dL_law_1896 : decode cL_law 1896 = .ok (.lcmp, 1) := by decide +kernel
theorem dL_law_1897 : decode cL_law 1897 = .ok (.ifCond .ne 94, 3) := by decide +kernel
theorem dL_law_1900 : decode cL_law 1900 = .ok (.aload_n 1, 1) := by decide +kernel
theorem dL_law_1901 : decode cL_law 1901 = .ok (.iload 13, 2) := by decide +kernel
theorem dL_law_1903 : decode cL_law 1903 = .ok (.iload 28, 2) := by decide +kernel
theorem dL_law_1905 : decode cL_law 1905 = .ok (.invokevirtual 131, 3) := by decide +kernel
theorem dL_law_1908 : decode cL_law 1908 = .ok (.iconst 1, 1) := by decide +kernel
theorem dL_law_1909 : decode cL_law 1909 = .ok (.if_icmp .ne 82, 3) := by decide +kernel
theorem dL_law_1912 : decode cL_law 1912 = .ok (.aload_n 1, 1) := by decide +kernel
theorem dL_law_1913 : decode cL_law 1913 = .ok (.invokevirtual 134, 3) := by decide +kernel
theorem dL_law_1916 : decode cL_law 1916 = .ok (.lconst 0, 1) := by decide +kernel
theorem dL_law_1917 : decode cL_law 1917 = .ok (.lcmp, 1) := by decide +kernel
theorem dL_law_1918 : decode cL_law 1918 = .ok (.ifCond .lt 73, 3) := by decide +kernel
theorem dL_law_1921 : decode cL_law 1921 = .ok (.aload_n 1, 1) := by decide +kernel
theorem dL_law_1922 : decode cL_law 1922 = .ok (.invokevirtual 134, 3) := by decide +kernel
theorem dL_law_1925 : decode cL_law 1925 = .ok (.aload_n 1, 1) := by decide +kernel
theorem dL_law_1926 : decode cL_law 1926 = .ok (.invokevirtual 138, 3) := by decide +kernel
theorem dL_law_1929 : decode cL_law 1929 = .ok (.lcmp, 1) := by decide +kernel
theorem dL_law_1930 : decode cL_law 1930 = .ok (.ifCond .gt 61, 3) := by decide +kernel
theorem dL_law_1933 : decode cL_law 1933 = .ok (.aload_n 1, 1) := by decide +kernel
theorem dL_law_1934 : decode cL_law 1934 = .ok (.iconst 0, 1) := by decide +kernel
theorem dL_law_1935 : decode cL_law 1935 = .ok (.invokevirtual 141, 3) := by decide +kernel
theorem dL_law_1938 : decode cL_law 1938 = .ok (.iconst 1, 1) := by decide +kernel
theorem dL_law_1939 : decode cL_law 1939 = .ok (.if_icmp .ne 52, 3) := by decide +kernel
theorem dL_law_1942 : decode cL_law 1942 = .ok (.aload_n 1, 1) := by decide +kernel
theorem dL_law_1943 : decode cL_law 1943 = .ok (.invokevirtual 134, 3) := by decide +kernel
theorem dL_law_1946 : decode cL_law 1946 = .ok (.iload 10, 2) := by decide +kernel
theorem dL_law_1948 : decode cL_law 1948 = .ok (.invokestatic 102, 3) := by decide +kernel
theorem dL_law_1951 : decode cL_law 1951 = .ok (.i2l, 1) := by decide +kernel
theorem dL_law_1952 : decode cL_law 1952 = .ok (.lcmp, 1) := by decide +kernel
theorem dL_law_1953 : decode cL_law 1953 = .ok (.ifCond .ne 38, 3) := by decide +kernel
theorem dL_law_1956 : decode cL_law 1956 = .ok (.aload_n 1, 1) := by decide +kernel
theorem dL_law_1957 : decode cL_law 1957 = .ok (.iload 28, 2) := by decide +kernel
theorem dL_law_1959 : decode cL_law 1959 = .ok (.invokevirtual 141, 3) := by decide +kernel
theorem dL_law_1962 : decode cL_law 1962 = .ok (.iconst 1, 1) := by decide +kernel
theorem dL_law_1963 : decode cL_law 1963 = .ok (.if_icmp .ne 28, 3) := by decide +kernel
theorem dL_law_1966 : decode cL_law 1966 = .ok (.aload_n 1, 1) := by decide +kernel
theorem dL_law_1967 : decode cL_law 1967 = .ok (.invokevirtual 134, 3) := by decide +kernel
theorem dL_law_1970 : decode cL_law 1970 = .ok (.lconst 0, 1) := by decide +kernel
theorem dL_law_1971 : decode cL_law 1971 = .ok (.lcmp, 1) := by decide +kernel
theorem dL_law_1972 : decode cL_law 1972 = .ok (.ifCond .lt 19, 3) := by decide +kernel
theorem dL_law_1975 : decode cL_law 1975 = .ok (.aload_n 1, 1) := by decide +kernel
theorem dL_law_1976 : decode cL_law 1976 = .ok (.invokevirtual 134, 3) := by decide +kernel
theorem dL_law_1979 : decode cL_law 1979 = .ok (.iload 4, 2) := by decide +kernel
theorem dL_law_1981 : decode cL_law 1981 = .ok (.i2l, 1) := by decide +kernel
theorem dL_law_1982 : decode cL_law 1982 = .ok (.aload_n 1, 1) := by decide +kernel
theorem dL_law_1983 : decode cL_law 1983 = .ok (.invokevirtual 138, 3) := by decide +kernel
theorem dL_law_1986 : decode cL_law 1986 = .ok (.lmul, 1) := by decide +kernel
theorem dL_law_1987 : decode cL_law 1987 = .ok (.lcmp, 1) := by decide +kernel
theorem dL_law_1988 : decode cL_law 1988 = .ok (.ifCond .le 5, 3) := by decide +kernel
theorem dL_law_1991 : decode cL_law 1991 = .ok (.iconst 0, 1) := by decide +kernel
theorem dL_law_1992 : decode cL_law 1992 = .ok (.ireturn, 1) := by decide +kernel
theorem dL_law_1993 : decode cL_law 1993 = .ok (.aload_n 0, 1) := by decide +kernel
theorem dL_law_1994 : decode cL_law 1994 = .ok (.bipush 28, 2) := by decide +kernel
theorem dL_law_1996 : decode cL_law 1996 = .ok (.invokestatic 9, 3) := by decide +kernel
theorem dL_law_1999 : decode cL_law 1999 = .ok (.bipush 15, 2) := by decide +kernel
theorem dL_law_2001 : decode cL_law 2001 = .ok (.invokestatic 15, 3) := by decide +kernel
theorem dL_law_2004 : decode cL_law 2004 = .ok (.istore 29, 2) := by decide +kernel
theorem dL_law_2006 : decode cL_law 2006 = .ok (.bipush 16, 2) := by decide +kernel
theorem dL_law_2008 : decode cL_law 2008 = .ok (.newarray .int, 2) := by decide +kernel
theorem dL_law_2010 : decode cL_law 2010 = .ok (.astore 30, 2) := by decide +kernel
theorem dL_law_2012 : decode cL_law 2012 = .ok (.bipush 16, 2) := by decide +kernel
theorem dL_law_2014 : decode cL_law 2014 = .ok (.newarray .int, 2) := by decide +kernel
theorem dL_law_2016 : decode cL_law 2016 = .ok (.astore 31, 2) := by decide +kernel
theorem dL_law_2018 : decode cL_law 2018 = .ok (.iconst 0, 1) := by decide +kernel
theorem dL_law_2019 : decode cL_law 2019 = .ok (.istore 32, 2) := by decide +kernel
theorem dL_law_2021 : decode cL_law 2021 = .ok (.aload 30, 2) := by decide +kernel
theorem dL_law_2023 : decode cL_law 2023 = .ok (.iconst 0, 1) := by decide +kernel
theorem dL_law_2024 : decode cL_law 2024 = .ok (.iload 7, 2) := by decide +kernel
theorem dL_law_2026 : decode cL_law 2026 = .ok (.iastore, 1) := by decide +kernel
theorem dL_law_2027 : decode cL_law 2027 = .ok (.aload 31, 2) := by decide +kernel
theorem dL_law_2029 : decode cL_law 2029 = .ok (.iconst 0, 1) := by decide +kernel
theorem dL_law_2030 : decode cL_law 2030 = .ok (.iload 9, 2) := by decide +kernel
theorem dL_law_2032 : decode cL_law 2032 = .ok (.iastore, 1) := by decide +kernel
theorem dL_law_2033 : decode cL_law 2033 = .ok (.iconst 0, 1) := by decide +kernel
theorem dL_law_2034 : decode cL_law 2034 = .ok (.istore 33, 2) := by decide +kernel
theorem dL_law_2036 : decode cL_law 2036 = .ok (.iload 33, 2) := by decide +kernel
theorem dL_law_2038 : decode cL_law 2038 = .ok (.iload 29, 2) := by decide +kernel
theorem dL_law_2040 : decode cL_law 2040 = .ok (.if_icmp .ge 202, 3) := by decide +kernel
theorem dL_law_2043 : decode cL_law 2043 = .ok (.aload_n 0, 1) := by decide +kernel
theorem dL_law_2044 : decode cL_law 2044 = .ok (.bipush 29, 2) := by decide +kernel
theorem dL_law_2046 : decode cL_law 2046 = .ok (.iload 33, 2) := by decide +kernel
theorem dL_law_2048 : decode cL_law 2048 = .ok (.iadd, 1) := by decide +kernel
theorem dL_law_2049 : decode cL_law 2049 = .ok (.invokestatic 9, 3) := by decide +kernel
theorem dL_law_2052 : decode cL_law 2052 = .ok (.istore 34, 2) := by decide +kernel
theorem dL_law_2054 : decode cL_law 2054 = .ok (.iload 34, 2) := by decide +kernel
theorem dL_law_2056 : decode cL_law 2056 = .ok (.bipush 6, 2) := by decide +kernel
theorem dL_law_2058 : decode cL_law 2058 = .ok (.invokestatic 15, 3) := by decide +kernel
theorem dL_law_2061 : decode cL_law 2061 = .ok (.istore 35, 2) := by decide +kernel
theorem dL_law_2063 : decode cL_law 2063 = .ok (.iload 34, 2) := by decide +kernel
theorem dL_law_2065 : decode cL_law 2065 = .ok (.iconst 3, 1) := by decide +kernel
theorem dL_law_2066 : decode cL_law 2066 = .ok (.ishr, 1) := by decide +kernel
theorem dL_law_2067 : decode cL_law 2067 = .ok (.iload_n 3, 1) := by decide +kernel
theorem dL_law_2068 : decode cL_law 2068 = .ok (.invokestatic 15, 3) := by decide +kernel
theorem dL_law_2071 : decode cL_law 2071 = .ok (.istore 36, 2) := by decide +kernel
theorem dL_law_2073 : decode cL_law 2073 = .ok (.iload 35, 2) := by decide +kernel
theorem dL_law_2075 : decode cL_law 2075 = .ok (.ifCond .ne 12, 3) := by decide +kernel
theorem dL_law_2078 : decode cL_law 2078 = .ok (.aload_n 1, 1) := by decide +kernel
theorem dL_law_2079 : decode cL_law 2079 = .ok (.iload 36, 2) := by decide +kernel
theorem dL_law_2081 : decode cL_law 2081 = .ok (.invokevirtual 90, 3) := by decide +kernel
theorem dL_law_2084 : decode cL_law 2084 = .ok (.goto 85, 3) := by decide +kernel
theorem dL_law_2087 : decode cL_law 2087 = .ok (.iload 35, 2) := by decide +kernel
theorem dL_law_2089 : decode cL_law 2089 = .ok (.iconst 1, 1) := by decide +kernel
theorem dL_law_2090 : decode cL_law 2090 = .ok (.if_icmp .ne 12, 3) := by decide +kernel
theorem dL_law_2093 : decode cL_law 2093 = .ok (.aload_n 1, 1) := by decide +kernel
theorem dL_law_2094 : decode cL_law 2094 = .ok (.iload 36, 2) := by decide +kernel
theorem dL_law_2096 : decode cL_law 2096 = .ok (.invokevirtual 144, 3) := by decide +kernel
theorem dL_law_2099 : decode cL_law 2099 = .ok (.goto 70, 3) := by decide +kernel
theorem dL_law_2102 : decode cL_law 2102 = .ok (.iload 35, 2) := by decide +kernel
theorem dL_law_2104 : decode cL_law 2104 = .ok (.iconst 2, 1) := by decide +kernel
theorem dL_law_2105 : decode cL_law 2105 = .ok (.if_icmp .ne 12, 3) := by decide +kernel
theorem dL_law_2108 : decode cL_law 2108 = .ok (.aload_n 1, 1) := by decide +kernel
theorem dL_law_2109 : decode cL_law 2109 = .ok (.iload 36, 2) := by decide +kernel
theorem dL_law_2111 : decode cL_law 2111 = .ok (.invokevirtual 105, 3) := by decide +kernel
theorem dL_law_2114 : decode cL_law 2114 = .ok (.goto 55, 3) := by decide +kernel
theorem dL_law_2117 : decode cL_law 2117 = .ok (.iload 35, 2) := by decide +kernel
theorem dL_law_2119 : decode cL_law 2119 = .ok (.iconst 3, 1) := by decide +kernel
theorem dL_law_2120 : decode cL_law 2120 = .ok (.if_icmp .ne 12, 3) := by decide +kernel
theorem dL_law_2123 : decode cL_law 2123 = .ok (.aload_n 1, 1) := by decide +kernel
theorem dL_law_2124 : decode cL_law 2124 = .ok (.iload 36, 2) := by decide +kernel
theorem dL_law_2126 : decode cL_law 2126 = .ok (.invokevirtual 147, 3) := by decide +kernel
theorem dL_law_2129 : decode cL_law 2129 = .ok (.goto 40, 3) := by decide +kernel
theorem dL_law_2132 : decode cL_law 2132 = .ok (.iload 35, 2) := by decide +kernel
theorem dL_law_2134 : decode cL_law 2134 = .ok (.iconst 4, 1) := by decide +kernel
theorem dL_law_2135 : decode cL_law 2135 = .ok (.if_icmp .ne 17, 3) := by decide +kernel
theorem dL_law_2138 : decode cL_law 2138 = .ok (.aload_n 1, 1) := by decide +kernel
theorem dL_law_2139 : decode cL_law 2139 = .ok (.iload 34, 2) := by decide +kernel
theorem dL_law_2141 : decode cL_law 2141 = .ok (.bipush 6, 2) := by decide +kernel
theorem dL_law_2143 : decode cL_law 2143 = .ok (.ishr, 1) := by decide +kernel
theorem dL_law_2144 : decode cL_law 2144 = .ok (.iconst 1, 1) := by decide +kernel
theorem dL_law_2145 : decode cL_law 2145 = .ok (.iand, 1) := by decide +kernel
theorem dL_law_2146 : decode cL_law 2146 = .ok (.invokevirtual 150, 3) := by decide +kernel
theorem dL_law_2149 : decode cL_law 2149 = .ok (.goto 20, 3) := by decide +kernel
theorem dL_law_2152 : decode cL_law 2152 = .ok (.aload_n 1, 1) := by decide +kernel
theorem dL_law_2153 : decode cL_law 2153 = .ok (.iload 36, 2) := by decide +kernel
theorem dL_law_2155 : decode cL_law 2155 = .ok (.iconst 1, 1) := by decide +kernel
theorem dL_law_2156 : decode cL_law 2156 = .ok (.iload 34, 2) := by decide +kernel
theorem dL_law_2158 : decode cL_law 2158 = .ok (.bipush 6, 2) := by decide +kernel
theorem dL_law_2160 : decode cL_law 2160 = .ok (.ishr, 1) := by decide +kernel
theorem dL_law_2161 : decode cL_law 2161 = .ok (.iconst 3, 1) := by decide +kernel
theorem dL_law_2162 : decode cL_law 2162 = .ok (.invokestatic 15, 3) := by decide +kernel
theorem dL_law_2165 : decode cL_law 2165 = .ok (.iadd, 1) := by decide +kernel
theorem dL_law_2166 : decode cL_law 2166 = .ok (.invokevirtual 75, 3) := by decide +kernel
theorem dL_law_2169 : decode cL_law 2169 = .ok (.istore 37, 2) := by decide +kernel
theorem dL_law_2171 : decode cL_law 2171 = .ok (.iload 37, 2) := by decide +kernel
theorem dL_law_2173 : decode cL_law 2173 = .ok (.bipush (-4), 2) := by decide +kernel
theorem dL_law_2175 : decode cL_law 2175 = .ok (.if_icmp .eq 27, 3) := by decide +kernel
theorem dL_law_2178 : decode cL_law 2178 = .ok (.iinc 32 1, 3) := by decide +kernel
theorem dL_law_2181 : decode cL_law 2181 = .ok (.aload 30, 2) := by decide +kernel
theorem dL_law_2183 : decode cL_law 2183 = .ok (.iload 32, 2) := by decide +kernel
theorem dL_law_2185 : decode cL_law 2185 = .ok (.aload_n 1, 1) := by decide +kernel
theorem dL_law_2186 : decode cL_law 2186 = .ok (.iconst 4, 1) := by decide +kernel
theorem dL_law_2187 : decode cL_law 2187 = .ok (.invokevirtual 62, 3) := by decide +kernel
theorem dL_law_2190 : decode cL_law 2190 = .ok (.iastore, 1) := by decide +kernel
theorem dL_law_2191 : decode cL_law 2191 = .ok (.aload 31, 2) := by decide +kernel
theorem dL_law_2193 : decode cL_law 2193 = .ok (.iload 32, 2) := by decide +kernel
theorem dL_law_2195 : decode cL_law 2195 = .ok (.aload_n 1, 1) := by decide +kernel
theorem dL_law_2196 : decode cL_law 2196 = .ok (.bipush 6, 2) := by decide +kernel
theorem dL_law_2198 : decode cL_law 2198 = .ok (.invokevirtual 62, 3) := by decide +kernel
theorem dL_law_2201 : decode cL_law 2201 = .ok (.iastore, 1) := by decide +kernel
theorem dL_law_2202 : decode cL_law 2202 = .ok (.iload 37, 2) := by decide +kernel
theorem dL_law_2204 : decode cL_law 2204 = .ok (.bipush (-4), 2) := by decide +kernel
theorem dL_law_2206 : decode cL_law 2206 = .ok (.if_icmp .lt 28, 3) := by decide +kernel
theorem dL_law_2209 : decode cL_law 2209 = .ok (.iload 37, 2) := by decide +kernel
theorem dL_law_2211 : decode cL_law 2211 = .ok (.bipush (-4), 2) := by decide +kernel
theorem dL_law_2213 : decode cL_law 2213 = .ok (.if_icmp .le 8, 3) := by decide +kernel
theorem dL_law_2216 : decode cL_law 2216 = .ok (.iload 37, 2) := by decide +kernel
theorem dL_law_2218 : decode cL_law 2218 = .ok (.ifCond .lt 16, 3) := by decide +kernel
theorem dL_law_2221 : decode cL_law 2221 = .ok (.aload_n 1, 1) := by decide +kernel
theorem dL_law_2222 : decode cL_law 2222 = .ok (.iconst 2, 1) := by decide +kernel
theorem dL_law_2223 : decode cL_law 2223 = .ok (.invokevirtual 62, 3) := by decide +kernel
theorem dL_law_2226 : decode cL_law 2226 = .ok (.iload 5, 2) := by decide +kernel
theorem dL_law_2228 : decode cL_law 2228 = .ok (.iload 32, 2) := by decide +kernel
theorem dL_law_2230 : decode cL_law 2230 = .ok (.iadd, 1) := by decide +kernel
theorem dL_law_2231 : decode cL_law 2231 = .ok (.if_icmp .eq 5, 3) := by decide +kernel
theorem dL_law_2234 : decode cL_law 2234 = .ok (.iconst 0, 1) := by decide +kernel
theorem dL_law_2235 : decode cL_law 2235 = .ok (.ireturn, 1) := by decide +kernel
theorem dL_law_2236 : decode cL_law 2236 = .ok (.iinc 33 1, 3) := by decide +kernel
theorem dL_law_2239 : decode cL_law 2239 = .ok (.goto (-203), 3) := by decide +kernel
theorem dL_law_2242 : decode cL_law 2242 = .ok (.iload 32, 2) := by decide +kernel
theorem dL_law_2244 : decode cL_law 2244 = .ok (.istore 33, 2) := by decide +kernel
theorem dL_law_2246 : decode cL_law 2246 = .ok (.iload 33, 2) := by decide +kernel
theorem dL_law_2248 : decode cL_law 2248 = .ok (.ifCond .lt 62, 3) := by decide +kernel
theorem dL_law_2251 : decode cL_law 2251 = .ok (.aload_n 1, 1) := by decide +kernel
theorem dL_law_2252 : decode cL_law 2252 = .ok (.iload 5, 2) := by decide +kernel
theorem dL_law_2254 : decode cL_law 2254 = .ok (.iload 33, 2) := by decide +kernel
theorem dL_law_2256 : decode cL_law 2256 = .ok (.iadd, 1) := by decide +kernel
theorem dL_law_2257 : decode cL_law 2257 = .ok (.invokevirtual 81, 3) := by decide +kernel
theorem dL_law_2260 : decode cL_law 2260 = .ok (.iload 33, 2) := by decide +kernel
theorem dL_law_2262 : decode cL_law 2262 = .ok (.iload 32, 2) := by decide +kernel
theorem dL_law_2264 : decode cL_law 2264 = .ok (.if_icmp .ne 7, 3) := by decide +kernel
theorem dL_law_2267 : decode cL_law 2267 = .ok (.iconst 0, 1) := by decide +kernel
theorem dL_law_2268 : decode cL_law 2268 = .ok (.goto 4, 3) := by decide +kernel
theorem dL_law_2271 : decode cL_law 2271 = .ok (.iconst 1, 1) := by decide +kernel
theorem dL_law_2272 : decode cL_law 2272 = .ok (.if_icmp .ne 30, 3) := by decide +kernel
theorem dL_law_2275 : decode cL_law 2275 = .ok (.aload_n 1, 1) := by decide +kernel
theorem dL_law_2276 : decode cL_law 2276 = .ok (.iconst 4, 1) := by decide +kernel
theorem dL_law_2277 : decode cL_law 2277 = .ok (.invokevirtual 62, 3) := by decide +kernel
theorem dL_law_2280 : decode cL_law 2280 = .ok (.aload 30, 2) := by decide +kernel
theorem dL_law_2282 : decode cL_law 2282 = .ok (.iload 33, 2) := by decide +kernel
theorem dL_law_2284 : decode cL_law 2284 = .ok (.iaload, 1) := by decide +kernel
theorem dL_law_2285 : decode cL_law 2285 = .ok (.if_icmp .ne 17, 3) := by decide +kernel
theorem dL_law_2288 : decode cL_law 2288 = .ok (.aload_n 1, 1) := by decide +kernel
theorem dL_law_2289 : decode cL_law 2289 = .ok (.bipush 6, 2) := by decide +kernel
theorem dL_law_2291 : decode cL_law 2291 = .ok (.invokevirtual 62, 3) := by decide +kernel
theorem dL_law_2294 : decode cL_law 2294 = .ok (.aload 31, 2) := by decide +kernel
theorem dL_law_2296 : decode cL_law 2296 = .ok (.iload 33, 2) := by decide +kernel
theorem dL_law_2298 : decode cL_law 2298 = .ok (.iaload, 1) := by decide +kernel
theorem dL_law_2299 : decode cL_law 2299 = .ok (.if_icmp .eq 5, 3) := by decide +kernel
theorem dL_law_2302 : decode cL_law 2302 = .ok (.iconst 0, 1) := by decide +kernel
theorem dL_law_2303 : decode cL_law 2303 = .ok (.ireturn, 1) := by decide +kernel
theorem dL_law_2304 : decode cL_law 2304 = .ok (.iinc 33 (-1), 3) := by decide +kernel
theorem dL_law_2307 : decode cL_law 2307 = .ok (.goto (-61), 3) := by decide +kernel
theorem dL_law_2310 : decode cL_law 2310 = .ok (.aload_n 1, 1) := by decide +kernel
theorem dL_law_2311 : decode cL_law 2311 = .ok (.invokevirtual 153, 3) := by decide +kernel
theorem dL_law_2314 : decode cL_law 2314 = .ok (.lstore 33, 2) := by decide +kernel
theorem dL_law_2316 : decode cL_law 2316 = .ok (.aload_n 1, 1) := by decide +kernel
theorem dL_law_2317 : decode cL_law 2317 = .ok (.iconst 3, 1) := by decide +kernel
theorem dL_law_2318 : decode cL_law 2318 = .ok (.invokevirtual 62, 3) := by decide +kernel
theorem dL_law_2321 : decode cL_law 2321 = .ok (.iload 6, 2) := by decide +kernel
theorem dL_law_2323 : decode cL_law 2323 = .ok (.if_icmp .ne 85, 3) := by decide +kernel
theorem dL_law_2326 : decode cL_law 2326 = .ok (.aload_n 1, 1) := by decide +kernel
theorem dL_law_2327 : decode cL_law 2327 = .ok (.iconst 0, 1) := by decide +kernel
theorem dL_law_2328 : decode cL_law 2328 = .ok (.invokevirtual 81, 3) := by decide +kernel
theorem dL_law_2331 : decode cL_law 2331 = .ok (.iload 5, 2) := by decide +kernel
theorem dL_law_2333 : decode cL_law 2333 = .ok (.if_icmp .ne 75, 3) := by decide +kernel
theorem dL_law_2336 : decode cL_law 2336 = .ok (.aload_n 1, 1) := by decide +kernel
theorem dL_law_2337 : decode cL_law 2337 = .ok (.bipush 6, 2) := by decide +kernel
theorem dL_law_2339 : decode cL_law 2339 = .ok (.invokevirtual 62, 3) := by decide +kernel
theorem dL_law_2342 : decode cL_law 2342 = .ok (.ifCond .ne 66, 3) := by decide +kernel
theorem dL_law_2345 : decode cL_law 2345 = .ok (.aload_n 1, 1) := by decide +kernel
theorem dL_law_2346 : decode cL_law 2346 = .ok (.iconst 3, 1) := by decide +kernel
theorem dL_law_2347 : decode cL_law 2347 = .ok (.invokevirtual 62, 3) := by decide +kernel
theorem dL_law_2350 : decode cL_law 2350 = .ok (.aload_n 2, 1) := by decide +kernel
theorem dL_law_2351 : decode cL_law 2351 = .ok (.bipush 26, 2) := by decide +kernel
theorem dL_law_2353 : decode cL_law 2353 = .ok (.iaload, 1) := by decide +kernel
theorem dL_law_2354 : decode cL_law 2354 = .ok (.if_icmp .ne 54, 3) := by decide +kernel
theorem dL_law_2357 : decode cL_law 2357 = .ok (.aload_n 1, 1) := by decide +kernel
theorem dL_law_2358 : decode cL_law 2358 = .ok (.iconst 0, 1) := by decide +kernel
theorem dL_law_2359 : decode cL_law 2359 = .ok (.invokevirtual 93, 3) := by decide +kernel
theorem dL_law_2362 : decode cL_law 2362 = .ok (.iload 5, 2) := by decide +kernel
theorem dL_law_2364 : decode cL_law 2364 = .ok (.if_icmp .ne 44, 3) := by decide +kernel
theorem dL_law_2367 : decode cL_law 2367 = .ok (.aload_n 1, 1) := by decide +kernel
theorem dL_law_2368 : decode cL_law 2368 = .ok (.invokevirtual 153, 3) := by decide +kernel
theorem dL_law_2371 : decode cL_law 2371 = .ok (.lload 33, 2) := by decide +kernel
theorem dL_law_2373 : decode cL_law 2373 = .ok (.lcmp, 1) := by decide +kernel
theorem dL_law_2374 : decode cL_law 2374 = .ok (.ifCond .ne 34, 3) := by decide +kernel
theorem dL_law_2377 : decode cL_law 2377 = .ok (.aload_n 1, 1) := by decide +kernel
theorem dL_law_2378 : decode cL_law 2378 = .ok (.iconst 0, 1) := by decide +kernel
theorem dL_law_2379 : decode cL_law 2379 = .ok (.invokevirtual 36, 3) := by decide +kernel
theorem dL_law_2382 : decode cL_law 2382 = .ok (.iload_n 3, 1) := by decide +kernel
theorem dL_law_2383 : decode cL_law 2383 = .ok (.if_icmp .ne 25, 3) := by decide +kernel
theorem dL_law_2386 : decode cL_law 2386 = .ok (.aload_n 1, 1) := by decide +kernel
theorem dL_law_2387 : decode cL_law 2387 = .ok (.iconst 0, 1) := by decide +kernel
theorem dL_law_2388 : decode cL_law 2388 = .ok (.invokevirtual 93, 3) := by decide +kernel
theorem dL_law_2391 : decode cL_law 2391 = .ok (.bipush (-3), 2) := by decide +kernel
theorem dL_law_2393 : decode cL_law 2393 = .ok (.if_icmp .ne 15, 3) := by decide +kernel
theorem dL_law_2396 : decode cL_law 2396 = .ok (.aload_n 1, 1) := by decide +kernel
theorem dL_law_2397 : decode cL_law 2397 = .ok (.iconst 2, 1) := by decide +kernel
theorem dL_law_2398 : decode cL_law 2398 = .ok (.invokevirtual 62, 3) := by decide +kernel
theorem dL_law_2401 : decode cL_law 2401 = .ok (.ifCond .ne 7, 3) := by decide +kernel
theorem dL_law_2404 : decode cL_law 2404 = .ok (.iconst 1, 1) := by decide +kernel
theorem dL_law_2405 : decode cL_law 2405 = .ok (.goto 4, 3) := by decide +kernel
theorem dL_law_2408 : decode cL_law 2408 = .ok (.iconst 0, 1) := by decide +kernel
theorem dL_law_2409 : decode cL_law 2409 = .ok (.ireturn, 1) := by decide +kernel
