theorem dL_cell_0 : decode cL_cell 0 = .ok (.aload_n 0, 1) := by decide +kernel
theorem dL_cell_1 : decode cL_cell 1 = .ok (.arraylength, 1) := by decide +kernel
theorem dL_cell_2 : decode cL_cell 2 = .ok (.ifCond .ne 7, 3) := by decide +kernel
theorem dL_cell_5 : decode cL_cell 5 = .ok (.iconst 0, 1) := by decide +kernel
theorem dL_cell_6 : decode cL_cell 6 = .ok (.goto 15, 3) := by decide +kernel
theorem dL_cell_9 : decode cL_cell 9 = .ok (.aload_n 0, 1) := by decide +kernel
theorem dL_cell_10 : decode cL_cell 10 = .ok (.iload_n 1, 1) := by decide +kernel
theorem dL_cell_11 : decode cL_cell 11 = .ok (.aload_n 0, 1) := by decide +kernel
theorem dL_cell_12 : decode cL_cell 12 = .ok (.arraylength, 1) := by decide +kernel
theorem dL_cell_13 : decode cL_cell 13 = .ok (.irem, 1) := by decide +kernel
theorem dL_cell_14 : decode cL_cell 14 = .ok (.iaload, 1) := by decide +kernel
theorem dL_cell_15 : decode cL_cell 15 = .ok (.ldc 7, 2) := by decide +kernel
theorem dL_cell_17 : decode cL_cell 17 = .ok (.irem, 1) := by decide +kernel
theorem dL_cell_18 : decode cL_cell 18 = .ok (.invokestatic 8, 3) := by decide +kernel
theorem dL_cell_21 : decode cL_cell 21 = .ok (.ireturn, 1) := by decide +kernel
theorem dL_load_0 : decode cL_load 0 = .ok (.lconst 0, 1) := by decide +kernel
theorem dL_load_1 : decode cL_load 1 = .ok (.lstore_n 2, 1) := by decide +kernel
theorem dL_load_2 : decode cL_load 2 = .ok (.iconst 0, 1) := by decide +kernel
theorem dL_load_3 : decode cL_load 3 = .ok (.istore 4, 2) := by decide +kernel
theorem dL_load_5 : decode cL_load 5 = .ok (.iload 4, 2) := by decide +kernel
theorem dL_load_7 : decode cL_load 7 = .ok (.aload_n 1, 1) := by decide +kernel
theorem dL_load_8 : decode cL_load 8 = .ok (.invokevirtual 14, 3) := by decide +kernel
theorem dL_load_11 : decode cL_load 11 = .ok (.if_icmp .ge 54, 3) := by decide +kernel
theorem dL_load_14 : decode cL_load 14 = .ok (.lload_n 2, 1) := by decide +kernel
theorem dL_load_15 : decode cL_load 15 = .ok (.bipush 8, 2) := by decide +kernel
theorem dL_load_17 : decode cL_load 17 = .ok (.lshl, 1) := by decide +kernel
theorem dL_load_18 : decode cL_load 18 = .ok (.aload_n 1, 1) := by decide +kernel
theorem dL_load_19 : decode cL_load 19 = .ok (.iload 4, 2) := by decide +kernel
theorem dL_load_21 : decode cL_load 21 = .ok (.invokevirtual 20, 3) := by decide +kernel
theorem dL_load_24 : decode cL_load 24 = .ok (.i2l, 1) := by decide +kernel
theorem dL_load_25 : decode cL_load 25 = .ok (.lor, 1) := by decide +kernel
theorem dL_load_26 : decode cL_load 26 = .ok (.lstore_n 2, 1) := by decide +kernel
theorem dL_load_27 : decode cL_load 27 = .ok (.iload 4, 2) := by decide +kernel
theorem dL_load_29 : decode cL_load 29 = .ok (.bipush 8, 2) := by decide +kernel
theorem dL_load_31 : decode cL_load 31 = .ok (.irem, 1) := by decide +kernel
theorem dL_load_32 : decode cL_load 32 = .ok (.bipush 7, 2) := by decide +kernel
theorem dL_load_34 : decode cL_load 34 = .ok (.if_icmp .eq 17, 3) := by decide +kernel
theorem dL_load_37 : decode cL_load 37 = .ok (.iload 4, 2) := by decide +kernel
theorem dL_load_39 : decode cL_load 39 = .ok (.aload_n 1, 1) := by decide +kernel
theorem dL_load_40 : decode cL_load 40 = .ok (.invokevirtual 14, 3) := by decide +kernel
theorem dL_load_43 : decode cL_load 43 = .ok (.iconst 1, 1) := by decide +kernel
theorem dL_load_44 : decode cL_load 44 = .ok (.isub, 1) := by decide +kernel
theorem dL_load_45 : decode cL_load 45 = .ok (.if_icmp .eq 6, 3) := by decide +kernel
theorem dL_load_48 : decode cL_load 48 = .ok (.goto 11, 3) := by decide +kernel
theorem dL_load_51 : decode cL_load 51 = .ok (.aload_n 0, 1) := by decide +kernel
theorem dL_load_52 : decode cL_load 52 = .ok (.lload_n 2, 1) := by decide +kernel
theorem dL_load_53 : decode cL_load 53 = .ok (.invokevirtual 24, 3) := by decide +kernel
theorem dL_load_56 : decode cL_load 56 = .ok (.pop, 1) := by decide +kernel
theorem dL_load_57 : decode cL_load 57 = .ok (.lconst 0, 1) := by decide +kernel
theorem dL_load_58 : decode cL_load 58 = .ok (.lstore_n 2, 1) := by decide +kernel
theorem dL_load_59 : decode cL_load 59 = .ok (.iinc 4 1, 3) := by decide +kernel
theorem dL_load_62 : decode cL_load 62 = .ok (.goto (-57), 3) := by decide +kernel
theorem dL_load_65 : decode cL_load 65 = .ok (.aload_n 0, 1) := by decide +kernel
theorem dL_load_66 : decode cL_load 66 = .ok (.invokevirtual 30, 3) := by decide +kernel
theorem dL_load_69 : decode cL_load 69 = .ok (.ireturn, 1) := by decide +kernel
theorem dL_text_0 : decode cL_text 0 = .ok (.new 33, 3) := by decide +kernel
theorem dL_text_3 : decode cL_text 3 = .ok (.dup, 1) := by decide +kernel
theorem dL_text_4 : decode cL_text 4 = .ok (.ldc 35, 2) := by decide +kernel
theorem dL_text_6 : decode cL_text 6 = .ok (.invokespecial 37, 3) := by decide +kernel
theorem dL_text_9 : decode cL_text 9 = .ok (.iconst 1, 1) := by decide +kernel
theorem dL_text_10 : decode cL_text 10 = .ok (.aload_n 0, 1) := by decide +kernel
theorem dL_text_11 : decode cL_text 11 = .ok (.iconst 0, 1) := by decide +kernel
theorem dL_text_12 : decode cL_text 12 = .ok (.invokestatic 40, 3) := by decide +kernel
theorem dL_text_15 : decode cL_text 15 = .ok (.iconst 4, 1) := by decide +kernel
theorem dL_text_16 : decode cL_text 16 = .ok (.irem, 1) := by decide +kernel
theorem dL_text_17 : decode cL_text 17 = .ok (.iadd, 1) := by decide +kernel
theorem dL_text_18 : decode cL_text 18 = .ok (.invokevirtual 46, 3) := by decide +kernel
theorem dL_text_21 : decode cL_text 21 = .ok (.astore_n 1, 1) := by decide +kernel
theorem dL_text_22 : decode cL_text 22 = .ok (.aload_n 0, 1) := by decide +kernel
theorem dL_text_23 : decode cL_text 23 = .ok (.iconst 1, 1) := by decide +kernel
theorem dL_text_24 : decode cL_text 24 = .ok (.invokestatic 40, 3) := by decide +kernel
theorem dL_text_27 : decode cL_text 27 = .ok (.iconst 3, 1) := by decide +kernel
theorem dL_text_28 : decode cL_text 28 = .ok (.irem, 1) := by decide +kernel
theorem dL_text_29 : decode cL_text 29 = .ok (.ifCond .le 22, 3) := by decide +kernel
theorem dL_text_32 : decode cL_text 32 = .ok (.aload_n 1, 1) := by decide +kernel
theorem dL_text_33 : decode cL_text 33 = .ok (.bipush 32, 2) := by decide +kernel
theorem dL_text_35 : decode cL_text 35 = .ok (.invokevirtual 49, 3) := by decide +kernel
theorem dL_text_38 : decode cL_text 38 = .ok (.iconst 1, 1) := by decide +kernel
theorem dL_text_39 : decode cL_text 39 = .ok (.aload_n 0, 1) := by decide +kernel
theorem dL_text_40 : decode cL_text 40 = .ok (.iconst 2, 1) := by decide +kernel
theorem dL_text_41 : decode cL_text 41 = .ok (.invokestatic 40, 3) := by decide +kernel
theorem dL_text_44 : decode cL_text 44 = .ok (.iconst 3, 1) := by decide +kernel
theorem dL_text_45 : decode cL_text 45 = .ok (.irem, 1) := by decide +kernel
theorem dL_text_46 : decode cL_text 46 = .ok (.iadd, 1) := by decide +kernel
theorem dL_text_47 : decode cL_text 47 = .ok (.invokevirtual 46, 3) := by decide +kernel
theorem dL_text_50 : decode cL_text 50 = .ok (.pop, 1) := by decide +kernel
theorem dL_text_51 : decode cL_text 51 = .ok (.aload_n 1, 1) := by decide +kernel
theorem dL_text_52 : decode cL_text 52 = .ok (.aload_n 0, 1) := by decide +kernel
theorem dL_text_53 : decode cL_text 53 = .ok (.iconst 3, 1) := by decide +kernel
theorem dL_text_54 : decode cL_text 54 = .ok (.invokestatic 40, 3) := by decide +kernel
theorem dL_text_57 : decode cL_text 57 = .ok (.iconst 2, 1) := by decide +kernel
theorem dL_text_58 : decode cL_text 58 = .ok (.irem, 1) := by decide +kernel
theorem dL_text_59 : decode cL_text 59 = .ok (.ifCond .ne 8, 3) := by decide +kernel
theorem dL_text_62 : decode cL_text 62 = .ok (.ldc 52, 2) := by decide +kernel
theorem dL_text_64 : decode cL_text 64 = .ok (.goto 5, 3) := by decide +kernel
theorem dL_text_67 : decode cL_text 67 = .ok (.ldc 54, 2) := by decide +kernel
theorem dL_text_69 : decode cL_text 69 = .ok (.invokevirtual 56, 3) := by decide +kernel
theorem dL_text_72 : decode cL_text 72 = .ok (.aload_n 0, 1) := by decide +kernel
theorem dL_text_73 : decode cL_text 73 = .ok (.iconst 4, 1) := by decide +kernel
theorem dL_text_74 : decode cL_text 74 = .ok (.invokestatic 40, 3) := by decide +kernel
theorem dL_text_77 : decode cL_text 77 = .ok (.iconst 2, 1) := by decide +kernel
theorem dL_text_78 : decode cL_text 78 = .ok (.irem, 1) := by decide +kernel
theorem dL_text_79 : decode cL_text 79 = .ok (.ifCond .ne 8, 3) := by decide +kernel
theorem dL_text_82 : decode cL_text 82 = .ok (.ldc 59, 2) := by decide +kernel
theorem dL_text_84 : decode cL_text 84 = .ok (.goto 5, 3) := by decide +kernel
theorem dL_text_87 : decode cL_text 87 = .ok (.ldc 54, 2) := by decide +kernel
theorem dL_text_89 : decode cL_text 89 = .ok (.invokevirtual 56, 3) := by decide +kernel
theorem dL_text_92 : decode cL_text 92 = .ok (.pop, 1) := by decide +kernel
theorem dL_text_93 : decode cL_text 93 = .ok (.iconst 0, 1) := by decide +kernel
theorem dL_text_94 : decode cL_text 94 = .ok (.istore_n 2, 1) := by decide +kernel
theorem dL_text_95 : decode cL_text 95 = .ok (.iload_n 2, 1) := by decide +kernel
theorem dL_text_96 : decode cL_text 96 = .ok (.iconst 1, 1) := by decide +kernel
theorem dL_text_97 : decode cL_text 97 = .ok (.aload_n 0, 1) := by decide +kernel
theorem dL_text_98 : decode cL_text 98 = .ok (.iconst 5, 1) := by decide +kernel
theorem dL_text_99 : decode cL_text 99 = .ok (.invokestatic 40, 3) := by decide +kernel
theorem dL_text_102 : decode cL_text 102 = .ok (.bipush 6, 2) := by decide +kernel
theorem dL_text_104 : decode cL_text 104 = .ok (.irem, 1) := by decide +kernel
theorem dL_text_105 : decode cL_text 105 = .ok (.iadd, 1) := by decide +kernel
theorem dL_text_106 : decode cL_text 106 = .ok (.if_icmp .ge 96, 3) := by decide +kernel
theorem dL_text_109 : decode cL_text 109 = .ok (.aload_n 0, 1) := by decide +kernel
theorem dL_text_110 : decode cL_text 110 = .ok (.bipush 6, 2) := by decide +kernel
theorem dL_text_112 : decode cL_text 112 = .ok (.iload_n 2, 1) := by decide +kernel
theorem dL_text_113 : decode cL_text 113 = .ok (.iadd, 1) := by decide +kernel
theorem dL_text_114 : decode cL_text 114 = .ok (.invokestatic 40, 3) := by decide +kernel
theorem dL_text_117 : decode cL_text 117 = .ok (.istore_n 3, 1) := by decide +kernel
theorem dL_text_118 : decode cL_text 118 = .ok (.aload_n 1, 1) := by decide +kernel
theorem dL_text_119 : decode cL_text 119 = .ok (.ldc 61, 2) := by decide +kernel
theorem dL_text_121 : decode cL_text 121 = .ok (.invokevirtual 56, 3) := by decide +kernel
theorem dL_text_124 : decode cL_text 124 = .ok (.iload_n 3, 1) := by decide +kernel
theorem dL_text_125 : decode cL_text 125 = .ok (.iconst 4, 1) := by decide +kernel
theorem dL_text_126 : decode cL_text 126 = .ok (.irem, 1) := by decide +kernel
theorem dL_text_127 : decode cL_text 127 = .ok (.ifCond .ne 8, 3) := by decide +kernel
theorem dL_text_130 : decode cL_text 130 = .ok (.bipush 6, 2) := by decide +kernel
theorem dL_text_132 : decode cL_text 132 = .ok (.goto 9, 3) := by decide +kernel
theorem dL_text_135 : decode cL_text 135 = .ok (.iload_n 3, 1) := by decide +kernel
theorem dL_text_136 : decode cL_text 136 = .ok (.iconst 4, 1) := by decide +kernel
theorem dL_text_137 : decode cL_text 137 = .ok (.idiv, 1) := by decide +kernel
theorem dL_text_138 : decode cL_text 138 = .ok (.bipush 10, 2) := by decide +kernel
theorem dL_text_140 : decode cL_text 140 = .ok (.irem, 1) := by decide +kernel
theorem dL_text_141 : decode cL_text 141 = .ok (.invokevirtual 46, 3) := by decide +kernel
theorem dL_text_144 : decode cL_text 144 = .ok (.pop, 1) := by decide +kernel
theorem dL_text_145 : decode cL_text 145 = .ok (.iload_n 3, 1) := by decide +kernel
theorem dL_text_146 : decode cL_text 146 = .ok (.iconst 3, 1) := by decide +kernel
theorem dL_text_147 : decode cL_text 147 = .ok (.irem, 1) := by decide +kernel
theorem dL_text_148 : decode cL_text 148 = .ok (.ifCond .ne 31, 3) := by decide +kernel
theorem dL_text_151 : decode cL_text 151 = .ok (.aload_n 1, 1) := by decide +kernel
theorem dL_text_152 : decode cL_text 152 = .ok (.ldc 63, 2) := by decide +kernel
theorem dL_text_154 : decode cL_text 154 = .ok (.invokevirtual 56, 3) := by decide +kernel
theorem dL_text_157 : decode cL_text 157 = .ok (.iload_n 3, 1) := by decide +kernel
theorem dL_text_158 : decode cL_text 158 = .ok (.iconst 5, 1) := by decide +kernel
theorem dL_text_159 : decode cL_text 159 = .ok (.irem, 1) := by decide +kernel
theorem dL_text_160 : decode cL_text 160 = .ok (.ifCond .ne 8, 3) := by decide +kernel
theorem dL_text_163 : decode cL_text 163 = .ok (.bipush 9, 2) := by decide +kernel
theorem dL_text_165 : decode cL_text 165 = .ok (.goto 10, 3) := by decide +kernel
theorem dL_text_168 : decode cL_text 168 = .ok (.iload_n 3, 1) := by decide +kernel
theorem dL_text_169 : decode cL_text 169 = .ok (.bipush 7, 2) := by decide +kernel
theorem dL_text_171 : decode cL_text 171 = .ok (.idiv, 1) := by decide +kernel
theorem dL_text_172 : decode cL_text 172 = .ok (.bipush 10, 2) := by decide +kernel
theorem dL_text_174 : decode cL_text 174 = .ok (.irem, 1) := by decide +kernel
theorem dL_text_175 : decode cL_text 175 = .ok (.invokevirtual 46, 3) := by decide +kernel
theorem dL_text_178 : decode cL_text 178 = .ok (.pop, 1) := by decide +kernel
theorem dL_text_179 : decode cL_text 179 = .ok (.aload_n 1, 1) := by decide +kernel
theorem dL_text_180 : decode cL_text 180 = .ok (.bipush 32, 2) := by decide +kernel
theorem dL_text_182 : decode cL_text 182 = .ok (.invokevirtual 49, 3) := by decide +kernel
theorem dL_text_185 : decode cL_text 185 = .ok (.iload_n 3, 1) := by decide +kernel
theorem dL_text_186 : decode cL_text 186 = .ok (.bipush 11, 2) := by decide +kernel
theorem dL_text_188 : decode cL_text 188 = .ok (.idiv, 1) := by decide +kernel
theorem dL_text_189 : decode cL_text 189 = .ok (.bipush 6, 2) := by decide +kernel
theorem dL_text_191 : decode cL_text 191 = .ok (.irem, 1) := by decide +kernel
theorem dL_text_192 : decode cL_text 192 = .ok (.invokevirtual 46, 3) := by decide +kernel
theorem dL_text_195 : decode cL_text 195 = .ok (.pop, 1) := by decide +kernel
theorem dL_text_196 : decode cL_text 196 = .ok (.iinc 2 1, 3) := by decide +kernel
theorem dL_text_199 : decode cL_text 199 = .ok (.goto (-104), 3) := by decide +kernel
theorem dL_text_202 : decode cL_text 202 = .ok (.aload_n 1, 1) := by decide +kernel
theorem dL_text_203 : decode cL_text 203 = .ok (.ldc 65, 2) := by decide +kernel
theorem dL_text_205 : decode cL_text 205 = .ok (.invokevirtual 56, 3) := by decide +kernel
theorem dL_text_208 : decode cL_text 208 = .ok (.iconst 1, 1) := by decide +kernel
theorem dL_text_209 : decode cL_text 209 = .ok (.aload_n 0, 1) := by decide +kernel
theorem dL_text_210 : decode cL_text 210 = .ok (.bipush 12, 2) := by decide +kernel
theorem dL_text_212 : decode cL_text 212 = .ok (.invokestatic 40, 3) := by decide +kernel
theorem dL_text_215 : decode cL_text 215 = .ok (.iconst 3, 1) := by decide +kernel
theorem dL_text_216 : decode cL_text 216 = .ok (.irem, 1) := by decide +kernel
theorem dL_text_217 : decode cL_text 217 = .ok (.iadd, 1) := by decide +kernel
theorem dL_text_218 : decode cL_text 218 = .ok (.invokevirtual 46, 3) := by decide +kernel
theorem dL_text_221 : decode cL_text 221 = .ok (.pop, 1) := by decide +kernel
theorem dL_text_222 : decode cL_text 222 = .ok (.iconst 0, 1) := by decide +kernel
theorem dL_text_223 : decode cL_text 223 = .ok (.istore_n 2, 1) := by decide +kernel
theorem dL_text_224 : decode cL_text 224 = .ok (.iload_n 2, 1) := by decide +kernel
theorem dL_text_225 : decode cL_text 225 = .ok (.bipush 10, 2) := by decide +kernel
theorem dL_text_227 : decode cL_text 227 = .ok (.if_icmp .ge 29, 3) := by decide +kernel
theorem dL_text_230 : decode cL_text 230 = .ok (.aload_n 1, 1) := by decide +kernel
theorem dL_text_231 : decode cL_text 231 = .ok (.bipush 32, 2) := by decide +kernel
theorem dL_text_233 : decode cL_text 233 = .ok (.invokevirtual 49, 3) := by decide +kernel
theorem dL_text_236 : decode cL_text 236 = .ok (.aload_n 0, 1) := by decide +kernel
theorem dL_text_237 : decode cL_text 237 = .ok (.bipush 13, 2) := by decide +kernel
theorem dL_text_239 : decode cL_text 239 = .ok (.iload_n 2, 1) := by decide +kernel
theorem dL_text_240 : decode cL_text 240 = .ok (.iadd, 1) := by decide +kernel
theorem dL_text_241 : decode cL_text 241 = .ok (.invokestatic 40, 3) := by decide +kernel
theorem dL_text_244 : decode cL_text 244 = .ok (.iconst 4, 1) := by decide +kernel
theorem dL_text_245 : decode cL_text 245 = .ok (.irem, 1) := by decide +kernel
theorem dL_text_246 : decode cL_text 246 = .ok (.invokevirtual 46, 3) := by decide +kernel
theorem dL_text_249 : decode cL_text 249 = .ok (.pop, 1) := by decide +kernel
theorem dL_text_250 : decode cL_text 250 = .ok (.iinc 2 1, 3) := by decide +kernel
theorem dL_text_253 : decode cL_text 253 = .ok (.goto (-29), 3) := by decide +kernel
theorem dL_text_256 : decode cL_text 256 = .ok (.iconst 0, 1) := by decide +kernel
theorem dL_text_257 : decode cL_text 257 = .ok (.istore_n 2, 1) := by decide +kernel
theorem dL_text_258 : decode cL_text 258 = .ok (.iload_n 2, 1) := by decide +kernel
theorem dL_text_259 : decode cL_text 259 = .ok (.iconst 2, 1) := by decide +kernel
theorem dL_text_260 : decode cL_text 260 = .ok (.if_icmp .ge 77, 3) := by decide +kernel
theorem dL_text_263 : decode cL_text 263 = .ok (.aload_n 1, 1) := by decide +kernel
theorem dL_text_264 : decode cL_text 264 = .ok (.ldc 67, 2) := by decide +kernel
theorem dL_text_266 : decode cL_text 266 = .ok (.invokevirtual 56, 3) := by decide +kernel
theorem dL_text_269 : decode cL_text 269 = .ok (.aload_n 0, 1) := by decide +kernel
theorem dL_text_270 : decode cL_text 270 = .ok (.bipush 23, 2) := by decide +kernel
theorem dL_text_272 : decode cL_text 272 = .ok (.iload_n 2, 1) := by decide +kernel
theorem dL_text_273 : decode cL_text 273 = .ok (.iadd, 1) := by decide +kernel
theorem dL_text_274 : decode cL_text 274 = .ok (.invokestatic 40, 3) := by decide +kernel
theorem dL_text_277 : decode cL_text 277 = .ok (.invokestatic 69, 3) := by decide +kernel
theorem dL_text_280 : decode cL_text 280 = .ok (.invokevirtual 46, 3) := by decide +kernel
theorem dL_text_283 : decode cL_text 283 = .ok (.pop, 1) := by decide +kernel
theorem dL_text_284 : decode cL_text 284 = .ok (.iconst 0, 1) := by decide +kernel
theorem dL_text_285 : decode cL_text 285 = .ok (.istore_n 3, 1) := by decide +kernel
theorem dL_text_286 : decode cL_text 286 = .ok (.iload_n 3, 1) := by decide +kernel
theorem dL_text_287 : decode cL_text 287 = .ok (.aload_n 0, 1) := by decide +kernel
theorem dL_text_288 : decode cL_text 288 = .ok (.bipush 25, 2) := by decide +kernel
theorem dL_text_290 : decode cL_text 290 = .ok (.iload_n 2, 1) := by decide +kernel
theorem dL_text_291 : decode cL_text 291 = .ok (.iadd, 1) := by decide +kernel
theorem dL_text_292 : decode cL_text 292 = .ok (.invokestatic 40, 3) := by decide +kernel
theorem dL_text_295 : decode cL_text 295 = .ok (.iconst 5, 1) := by decide +kernel
theorem dL_text_296 : decode cL_text 296 = .ok (.irem, 1) := by decide +kernel
theorem dL_text_297 : decode cL_text 297 = .ok (.if_icmp .ge 34, 3) := by decide +kernel
theorem dL_text_300 : decode cL_text 300 = .ok (.aload_n 1, 1) := by decide +kernel
theorem dL_text_301 : decode cL_text 301 = .ok (.bipush 32, 2) := by decide +kernel
theorem dL_text_303 : decode cL_text 303 = .ok (.invokevirtual 49, 3) := by decide +kernel
theorem dL_text_306 : decode cL_text 306 = .ok (.aload_n 0, 1) := by decide +kernel
theorem dL_text_307 : decode cL_text 307 = .ok (.bipush 27, 2) := by decide +kernel
theorem dL_text_309 : decode cL_text 309 = .ok (.iconst 4, 1) := by decide +kernel
theorem dL_text_310 : decode cL_text 310 = .ok (.iload_n 2, 1) := by decide +kernel
theorem dL_text_311 : decode cL_text 311 = .ok (.imul, 1) := by decide +kernel
theorem dL_text_312 : decode cL_text 312 = .ok (.iadd, 1) := by decide +kernel
theorem dL_text_313 : decode cL_text 313 = .ok (.iload_n 3, 1) := by decide +kernel
theorem dL_text_314 : decode cL_text 314 = .ok (.iadd, 1) := by decide +kernel
theorem dL_text_315 : decode cL_text 315 = .ok (.invokestatic 40, 3) := by decide +kernel
theorem dL_text_318 : decode cL_text 318 = .ok (.invokestatic 69, 3) := by decide +kernel
theorem dL_text_321 : decode cL_text 321 = .ok (.invokevirtual 46, 3) := by decide +kernel
theorem dL_text_324 : decode cL_text 324 = .ok (.pop, 1) := by decide +kernel
theorem dL_text_325 : decode cL_text 325 = .ok (.iinc 3 1, 3) := by decide +kernel
theorem dL_text_328 : decode cL_text 328 = .ok (.goto (-42), 3) := by decide +kernel
theorem dL_text_331 : decode cL_text 331 = .ok (.iinc 2 1, 3) := by decide +kernel
theorem dL_text_334 : decode cL_text 334 = .ok (.goto (-76), 3) := by decide +kernel
theorem dL_text_337 : decode cL_text 337 = .ok (.aload_n 1, 1) := by decide +kernel
theorem dL_text_338 : decode cL_text 338 = .ok (.invokevirtual 72, 3) := by decide +kernel
theorem dL_text_341 : decode cL_text 341 = .ok (.areturn, 1) := by decide +kernel
theorem dL_hymn_0 : decode cL_hymn 0 = .ok (.iload_n 0, 1) := by decide +kernel
theorem dL_hymn_1 : decode cL_hymn 1 = .ok (.iconst 3, 1) := by decide +kernel
theorem dL_hymn_2 : decode cL_hymn 2 = .ok (.irem, 1) := by decide +kernel
theorem dL_hymn_3 : decode cL_hymn 3 = .ok (.ifCond .ne 14, 3) := by decide +kernel
theorem dL_hymn_6 : decode cL_hymn 6 = .ok (.iconst 1, 1) := by decide +kernel
theorem dL_hymn_7 : decode cL_hymn 7 = .ok (.iload_n 0, 1) := by decide +kernel
theorem dL_hymn_8 : decode cL_hymn 8 = .ok (.iconst 3, 1) := by decide +kernel
theorem dL_hymn_9 : decode cL_hymn 9 = .ok (.idiv, 1) := by decide +kernel
theorem dL_hymn_10 : decode cL_hymn 10 = .ok (.bipush 9, 2) := by decide +kernel
theorem dL_hymn_12 : decode cL_hymn 12 = .ok (.irem, 1) := by decide +kernel
theorem dL_hymn_13 : decode cL_hymn 13 = .ok (.iadd, 1) := by decide +kernel
theorem dL_hymn_14 : decode cL_hymn 14 = .ok (.goto 31, 3) := by decide +kernel
theorem dL_hymn_17 : decode cL_hymn 17 = .ok (.iload_n 0, 1) := by decide +kernel
theorem dL_hymn_18 : decode cL_hymn 18 = .ok (.iconst 3, 1) := by decide +kernel
theorem dL_hymn_19 : decode cL_hymn 19 = .ok (.irem, 1) := by decide +kernel
theorem dL_hymn_20 : decode cL_hymn 20 = .ok (.iconst 1, 1) := by decide +kernel
theorem dL_hymn_21 : decode cL_hymn 21 = .ok (.if_icmp .ne 15, 3) := by decide +kernel
theorem dL_hymn_24 : decode cL_hymn 24 = .ok (.bipush 66, 2) := by decide +kernel
theorem dL_hymn_26 : decode cL_hymn 26 = .ok (.iload_n 0, 1) := by decide +kernel
theorem dL_hymn_27 : decode cL_hymn 27 = .ok (.iconst 3, 1) := by decide +kernel
theorem dL_hymn_28 : decode cL_hymn 28 = .ok (.idiv, 1) := by decide +kernel
theorem dL_hymn_29 : decode cL_hymn 29 = .ok (.bipush 34, 2) := by decide +kernel
theorem dL_hymn_31 : decode cL_hymn 31 = .ok (.irem, 1) := by decide +kernel
theorem dL_hymn_32 : decode cL_hymn 32 = .ok (.iadd, 1) := by decide +kernel
theorem dL_hymn_33 : decode cL_hymn 33 = .ok (.goto 12, 3) := by decide +kernel
theorem dL_hymn_36 : decode cL_hymn 36 = .ok (.iconst 1, 1) := by decide +kernel
theorem dL_hymn_37 : decode cL_hymn 37 = .ok (.iload_n 0, 1) := by decide +kernel
theorem dL_hymn_38 : decode cL_hymn 38 = .ok (.iconst 3, 1) := by decide +kernel
theorem dL_hymn_39 : decode cL_hymn 39 = .ok (.idiv, 1) := by decide +kernel
theorem dL_hymn_40 : decode cL_hymn 40 = .ok (.sipush 999, 3) := by decide +kernel
theorem dL_hymn_43 : decode cL_hymn 43 = .ok (.irem, 1) := by decide +kernel
theorem dL_hymn_44 : decode cL_hymn 44 = .ok (.iadd, 1) := by decide +kernel
theorem dL_hymn_45 : decode cL_hymn 45 = .ok (.ireturn, 1) := by decide +kernel
theorem dL_step_0 : decode cL_step 0 = .ok (.aload_n 1, 1) := by decide +kernel
theorem dL_step_1 : decode cL_step 1 = .ok (.iload_n 2, 1) := by decide +kernel
theorem dL_step_2 : decode cL_step 2 = .ok (.iconst 1, 1) := by decide +kernel
theorem dL_step_3 : decode cL_step 3 = .ok (.iadd, 1) := by decide +kernel
theorem dL_step_4 : decode cL_step 4 = .ok (.invokestatic 40, 3) := by decide +kernel
theorem dL_step_7 : decode cL_step 7 = .ok (.istore_n 3, 1) := by decide +kernel
theorem dL_step_8 : decode cL_step 8 = .ok (.aload_n 1, 1) := by decide +kernel
theorem dL_step_9 : decode cL_step 9 = .ok (.iload_n 2, 1) := by decide +kernel
theorem dL_step_10 : decode cL_step 10 = .ok (.iconst 2, 1) := by decide +kernel
theorem dL_step_11 : decode cL_step 11 = .ok (.iadd, 1) := by decide +kernel
theorem dL_step_12 : decode cL_step 12 = .ok (.invokestatic 40, 3) := by decide +kernel
theorem dL_step_15 : decode cL_step 15 = .ok (.istore 4, 2) := by decide +kernel
theorem dL_step_17 : decode cL_step 17 = .ok (.iload_n 3, 1) := by decide +kernel
theorem dL_step_18 : decode cL_step 18 = .ok (.aload_n 0, 1) := by decide +kernel
theorem dL_step_19 : decode cL_step 19 = .ok (.bipush 6, 2) := by decide +kernel
theorem dL_step_21 : decode cL_step 21 = .ok (.invokevirtual 76, 3) := by decide +kernel
theorem dL_step_24 : decode cL_step 24 = .ok (.irem, 1) := by decide +kernel
theorem dL_step_25 : decode cL_step 25 = .ok (.istore 5, 2) := by decide +kernel
theorem dL_step_27 : decode cL_step 27 = .ok (.aload_n 1, 1) := by decide +kernel
theorem dL_step_28 : decode cL_step 28 = .ok (.iload_n 2, 1) := by decide +kernel
theorem dL_step_29 : decode cL_step 29 = .ok (.invokestatic 40, 3) := by decide +kernel
theorem dL_step_32 : decode cL_step 32 = .ok (.bipush 14, 2) := by decide +kernel
theorem dL_step_34 : decode cL_step 34 = .ok (.irem, 1) := by decide +kernel
theorem dL_step_35 : decode cL_step 35 = .ok (.tableswitch 305 0 12 #[65, 65, 65, 75, 83, 83, 102, 127, 148, 169, 214, 232, 280], 65) := by decide +kernel
theorem dL_step_100 : decode cL_step 100 = .ok (.aload_n 0, 1) := by decide +kernel
theorem dL_step_101 : decode cL_step 101 = .ok (.iload 5, 2) := by decide +kernel
theorem dL_step_103 : decode cL_step 103 = .ok (.invokevirtual 79, 3) := by decide +kernel
theorem dL_step_106 : decode cL_step 106 = .ok (.pop, 1) := by decide +kernel
theorem dL_step_107 : decode cL_step 107 = .ok (.goto 238, 3) := by decide +kernel
theorem dL_step_110 : decode cL_step 110 = .ok (.aload_n 0, 1) := by decide +kernel
theorem dL_step_111 : decode cL_step 111 = .ok (.invokevirtual 82, 3) := by decide +kernel
theorem dL_step_114 : decode cL_step 114 = .ok (.pop, 1) := by decide +kernel
theorem dL_step_115 : decode cL_step 115 = .ok (.goto 230, 3) := by decide +kernel
theorem dL_step_118 : decode cL_step 118 = .ok (.aload_n 0, 1) := by decide +kernel
theorem dL_step_119 : decode cL_step 119 = .ok (.iconst 0, 1) := by decide +kernel
theorem dL_step_120 : decode cL_step 120 = .ok (.iload_n 3, 1) := by decide +kernel
theorem dL_step_121 : decode cL_step 121 = .ok (.bipush 10, 2) := by decide +kernel
theorem dL_step_123 : decode cL_step 123 = .ok (.irem, 1) := by decide +kernel
theorem dL_step_124 : decode cL_step 124 = .ok (.iconst 1, 1) := by decide +kernel
theorem dL_step_125 : decode cL_step 125 = .ok (.iload 4, 2) := by decide +kernel
theorem dL_step_127 : decode cL_step 127 = .ok (.iconst 3, 1) := by decide +kernel
theorem dL_step_128 : decode cL_step 128 = .ok (.irem, 1) := by decide +kernel
theorem dL_step_129 : decode cL_step 129 = .ok (.iadd, 1) := by decide +kernel
theorem dL_step_130 : decode cL_step 130 = .ok (.invokevirtual 85, 3) := by decide +kernel
theorem dL_step_133 : decode cL_step 133 = .ok (.pop, 1) := by decide +kernel
theorem dL_step_134 : decode cL_step 134 = .ok (.goto 211, 3) := by decide +kernel
theorem dL_step_137 : decode cL_step 137 = .ok (.aload_n 0, 1) := by decide +kernel
theorem dL_step_138 : decode cL_step 138 = .ok (.bipush 7, 2) := by decide +kernel
theorem dL_step_140 : decode cL_step 140 = .ok (.invokevirtual 76, 3) := by decide +kernel
theorem dL_step_143 : decode cL_step 143 = .ok (.ifCond .le 202, 3) := by decide +kernel
theorem dL_step_146 : decode cL_step 146 = .ok (.aload_n 0, 1) := by decide +kernel
theorem dL_step_147 : decode cL_step 147 = .ok (.iload_n 3, 1) := by decide +kernel
theorem dL_step_148 : decode cL_step 148 = .ok (.aload_n 0, 1) := by decide +kernel
theorem dL_step_149 : decode cL_step 149 = .ok (.bipush 7, 2) := by decide +kernel
theorem dL_step_151 : decode cL_step 151 = .ok (.invokevirtual 76, 3) := by decide +kernel
theorem dL_step_154 : decode cL_step 154 = .ok (.irem, 1) := by decide +kernel
theorem dL_step_155 : decode cL_step 155 = .ok (.invokevirtual 89, 3) := by decide +kernel
theorem dL_step_158 : decode cL_step 158 = .ok (.pop, 1) := by decide +kernel
theorem dL_step_159 : decode cL_step 159 = .ok (.goto 186, 3) := by decide +kernel
theorem dL_step_162 : decode cL_step 162 = .ok (.aload_n 0, 1) := by decide +kernel
theorem dL_step_163 : decode cL_step 163 = .ok (.iload_n 3, 1) := by decide +kernel
theorem dL_step_164 : decode cL_step 164 = .ok (.aload_n 0, 1) := by decide +kernel
theorem dL_step_165 : decode cL_step 165 = .ok (.iconst 4, 1) := by decide +kernel
theorem dL_step_166 : decode cL_step 166 = .ok (.invokevirtual 76, 3) := by decide +kernel
theorem dL_step_169 : decode cL_step 169 = .ok (.irem, 1) := by decide +kernel
theorem dL_step_170 : decode cL_step 170 = .ok (.iconst 1, 1) := by decide +kernel
theorem dL_step_171 : decode cL_step 171 = .ok (.iload 4, 2) := by decide +kernel
theorem dL_step_173 : decode cL_step 173 = .ok (.iconst 3, 1) := by decide +kernel
theorem dL_step_174 : decode cL_step 174 = .ok (.irem, 1) := by decide +kernel
theorem dL_step_175 : decode cL_step 175 = .ok (.iadd, 1) := by decide +kernel
theorem dL_step_176 : decode cL_step 176 = .ok (.invokevirtual 92, 3) := by decide +kernel
theorem dL_step_179 : decode cL_step 179 = .ok (.pop, 1) := by decide +kernel
theorem dL_step_180 : decode cL_step 180 = .ok (.goto 165, 3) := by decide +kernel
theorem dL_step_183 : decode cL_step 183 = .ok (.aload_n 0, 1) := by decide +kernel
theorem dL_step_184 : decode cL_step 184 = .ok (.iload_n 3, 1) := by decide +kernel
theorem dL_step_185 : decode cL_step 185 = .ok (.aload_n 0, 1) := by decide +kernel
theorem dL_step_186 : decode cL_step 186 = .ok (.iconst 4, 1) := by decide +kernel
theorem dL_step_187 : decode cL_step 187 = .ok (.invokevirtual 76, 3) := by decide +kernel
theorem dL_step_190 : decode cL_step 190 = .ok (.irem, 1) := by decide +kernel
theorem dL_step_191 : decode cL_step 191 = .ok (.iconst 1, 1) := by decide +kernel
theorem dL_step_192 : decode cL_step 192 = .ok (.iload 4, 2) := by decide +kernel
theorem dL_step_194 : decode cL_step 194 = .ok (.iconst 3, 1) := by decide +kernel
theorem dL_step_195 : decode cL_step 195 = .ok (.irem, 1) := by decide +kernel
theorem dL_step_196 : decode cL_step 196 = .ok (.iadd, 1) := by decide +kernel
theorem dL_step_197 : decode cL_step 197 = .ok (.invokevirtual 96, 3) := by decide +kernel
theorem dL_step_200 : decode cL_step 200 = .ok (.pop, 1) := by decide +kernel
theorem dL_step_201 : decode cL_step 201 = .ok (.goto 144, 3) := by decide +kernel
theorem dL_step_204 : decode cL_step 204 = .ok (.iload 4, 2) := by decide +kernel
theorem dL_step_206 : decode cL_step 206 = .ok (.iconst 2, 1) := by decide +kernel
theorem dL_step_207 : decode cL_step 207 = .ok (.irem, 1) := by decide +kernel
theorem dL_step_208 : decode cL_step 208 = .ok (.ifCond .ne 22, 3) := by decide +kernel
theorem dL_step_211 : decode cL_step 211 = .ok (.aload_n 0, 1) := by decide +kernel
theorem dL_step_212 : decode cL_step 212 = .ok (.iload_n 3, 1) := by decide +kernel
theorem dL_step_213 : decode cL_step 213 = .ok (.iconst 2, 1) := by decide +kernel
theorem dL_step_214 : decode cL_step 214 = .ok (.irem, 1) := by decide +kernel
theorem dL_step_215 : decode cL_step 215 = .ok (.ifCond .ne 7, 3) := by decide +kernel
theorem dL_step_218 : decode cL_step 218 = .ok (.iconst 1, 1) := by decide +kernel
theorem dL_step_219 : decode cL_step 219 = .ok (.goto 4, 3) := by decide +kernel
theorem dL_step_222 : decode cL_step 222 = .ok (.iconst 0, 1) := by decide +kernel
theorem dL_step_223 : decode cL_step 223 = .ok (.invokevirtual 99, 3) := by decide +kernel
theorem dL_step_226 : decode cL_step 226 = .ok (.pop, 1) := by decide +kernel
theorem dL_step_227 : decode cL_step 227 = .ok (.goto 118, 3) := by decide +kernel
theorem dL_step_230 : decode cL_step 230 = .ok (.aload_n 0, 1) := by decide +kernel
theorem dL_step_231 : decode cL_step 231 = .ok (.iload_n 3, 1) := by decide +kernel
theorem dL_step_232 : decode cL_step 232 = .ok (.iconst 2, 1) := by decide +kernel
theorem dL_step_233 : decode cL_step 233 = .ok (.irem, 1) := by decide +kernel
theorem dL_step_234 : decode cL_step 234 = .ok (.ifCond .ne 7, 3) := by decide +kernel
theorem dL_step_237 : decode cL_step 237 = .ok (.iconst 1, 1) := by decide +kernel
theorem dL_step_238 : decode cL_step 238 = .ok (.goto 4, 3) := by decide +kernel
theorem dL_step_241 : decode cL_step 241 = .ok (.iconst 0, 1) := by decide +kernel
theorem dL_step_242 : decode cL_step 242 = .ok (.invokevirtual 103, 3) := by decide +kernel
theorem dL_step_245 : decode cL_step 245 = .ok (.pop, 1) := by decide +kernel
theorem dL_step_246 : decode cL_step 246 = .ok (.goto 99, 3) := by decide +kernel
theorem dL_step_249 : decode cL_step 249 = .ok (.aload_n 0, 1) := by decide +kernel
theorem dL_step_250 : decode cL_step 250 = .ok (.iload 5, 2) := by decide +kernel
theorem dL_step_252 : decode cL_step 252 = .ok (.iload 4, 2) := by decide +kernel
theorem dL_step_254 : decode cL_step 254 = .ok (.iconst 5, 1) := by decide +kernel
theorem dL_step_255 : decode cL_step 255 = .ok (.irem, 1) := by decide +kernel
theorem dL_step_256 : decode cL_step 256 = .ok (.iload_n 3, 1) := by decide +kernel
theorem dL_step_257 : decode cL_step 257 = .ok (.invokestatic 69, 3) := by decide +kernel
theorem dL_step_260 : decode cL_step 260 = .ok (.invokevirtual 106, 3) := by decide +kernel
theorem dL_step_263 : decode cL_step 263 = .ok (.pop, 1) := by decide +kernel
theorem dL_step_264 : decode cL_step 264 = .ok (.goto 81, 3) := by decide +kernel
theorem dL_step_267 : decode cL_step 267 = .ok (.iload 4, 2) := by decide +kernel
theorem dL_step_269 : decode cL_step 269 = .ok (.iconst 2, 1) := by decide +kernel
theorem dL_step_270 : decode cL_step 270 = .ok (.irem, 1) := by decide +kernel
theorem dL_step_271 : decode cL_step 271 = .ok (.ifCond .ne 17, 3) := by decide +kernel
theorem dL_step_274 : decode cL_step 274 = .ok (.aload_n 0, 1) := by decide +kernel
theorem dL_step_275 : decode cL_step 275 = .ok (.iload 5, 2) := by decide +kernel
theorem dL_step_277 : decode cL_step 277 = .ok (.iload_n 3, 1) := by decide +kernel
theorem dL_step_278 : decode cL_step 278 = .ok (.invokestatic 69, 3) := by decide +kernel
theorem dL_step_281 : decode cL_step 281 = .ok (.invokevirtual 109, 3) := by decide +kernel
theorem dL_step_284 : decode cL_step 284 = .ok (.pop, 1) := by decide +kernel
theorem dL_step_285 : decode cL_step 285 = .ok (.goto 60, 3) := by decide +kernel
theorem dL_step_288 : decode cL_step 288 = .ok (.aload_n 0, 1) := by decide +kernel
theorem dL_step_289 : decode cL_step 289 = .ok (.iload_n 3, 1) := by decide +kernel
theorem dL_step_290 : decode cL_step 290 = .ok (.bipush 10, 2) := by decide +kernel
theorem dL_step_292 : decode cL_step 292 = .ok (.irem, 1) := by decide +kernel
theorem dL_step_293 : decode cL_step 293 = .ok (.iload 4, 2) := by decide +kernel
theorem dL_step_295 : decode cL_step 295 = .ok (.iconst 2, 1) := by decide +kernel
theorem dL_step_296 : decode cL_step 296 = .ok (.idiv, 1) := by decide +kernel
theorem dL_step_297 : decode cL_step 297 = .ok (.bipush 11, 2) := by decide +kernel
theorem dL_step_299 : decode cL_step 299 = .ok (.irem, 1) := by decide +kernel
theorem dL_step_300 : decode cL_step 300 = .ok (.iconst 1, 1) := by decide +kernel
theorem dL_step_301 : decode cL_step 301 = .ok (.isub, 1) := by decide +kernel
theorem dL_step_302 : decode cL_step 302 = .ok (.iload_n 3, 1) := by decide +kernel
theorem dL_step_303 : decode cL_step 303 = .ok (.bipush 10, 2) := by decide +kernel
theorem dL_step_305 : decode cL_step 305 = .ok (.idiv, 1) := by decide +kernel
theorem dL_step_306 : decode cL_step 306 = .ok (.iconst 4, 1) := by decide +kernel
theorem dL_step_307 : decode cL_step 307 = .ok (.irem, 1) := by decide +kernel
theorem dL_step_308 : decode cL_step 308 = .ok (.invokevirtual 112, 3) := by decide +kernel
theorem dL_step_311 : decode cL_step 311 = .ok (.pop, 1) := by decide +kernel
theorem dL_step_312 : decode cL_step 312 = .ok (.goto 33, 3) := by decide +kernel
theorem dL_step_315 : decode cL_step 315 = .ok (.iload 4, 2) := by decide +kernel
theorem dL_step_317 : decode cL_step 317 = .ok (.iconst 3, 1) := by decide +kernel
theorem dL_step_318 : decode cL_step 318 = .ok (.irem, 1) := by decide +kernel
theorem dL_step_319 : decode cL_step 319 = .ok (.ifCond .ne 11, 3) := by decide +kernel
theorem dL_step_322 : decode cL_step 322 = .ok (.aload_n 0, 1) := by decide +kernel
theorem dL_step_323 : decode cL_step 323 = .ok (.invokevirtual 115, 3) := by decide +kernel
theorem dL_step_326 : decode cL_step 326 = .ok (.pop, 1) := by decide +kernel
theorem dL_step_327 : decode cL_step 327 = .ok (.goto 18, 3) := by decide +kernel
theorem dL_step_330 : decode cL_step 330 = .ok (.aload_n 0, 1) := by decide +kernel
theorem dL_step_331 : decode cL_step 331 = .ok (.iload 5, 2) := by decide +kernel
theorem dL_step_333 : decode cL_step 333 = .ok (.invokevirtual 79, 3) := by decide +kernel
theorem dL_step_336 : decode cL_step 336 = .ok (.pop, 1) := by decide +kernel
theorem dL_step_337 : decode cL_step 337 = .ok (.goto 8, 3) := by decide +kernel
theorem dL_step_340 : decode cL_step 340 = .ok (.aload_n 0, 1) := by decide +kernel
theorem dL_step_341 : decode cL_step 341 = .ok (.invokevirtual 118, 3) := by decide +kernel
theorem dL_step_344 : decode cL_step 344 = .ok (.pop, 1) := by decide +kernel
theorem dL_step_345 : decode cL_step 345 = .ok (.return_, 1) := by decide +kernel
theorem dL_whole_0 : decode cL_whole 0 = .ok (.ldc2_w 121, 3) := by decide +kernel
theorem dL_whole_3 : decode cL_whole 3 = .ok (.lstore_n 1, 1) := by decide +kernel
theorem dL_whole_4 : decode cL_whole 4 = .ok (.iconst 0, 1) := by decide +kernel
theorem dL_whole_5 : decode cL_whole 5 = .ok (.istore_n 3, 1) := by decide +kernel
theorem dL_whole_6 : decode cL_whole 6 = .ok (.iload_n 3, 1) := by decide +kernel
theorem dL_whole_7 : decode cL_whole 7 = .ok (.bipush 13, 2) := by decide +kernel
theorem dL_whole_9 : decode cL_whole 9 = .ok (.if_icmp .gt 22, 3) := by decide +kernel
theorem dL_whole_12 : decode cL_whole 12 = .ok (.ldc2_w 123, 3) := by decide +kernel
theorem dL_whole_15 : decode cL_whole 15 = .ok (.lload_n 1, 1) := by decide +kernel
theorem dL_whole_16 : decode cL_whole 16 = .ok (.lmul, 1) := by decide +kernel
theorem dL_whole_17 : decode cL_whole 17 = .ok (.aload_n 0, 1) := by decide +kernel
theorem dL_whole_18 : decode cL_whole 18 = .ok (.iload_n 3, 1) := by decide +kernel
theorem dL_whole_19 : decode cL_whole 19 = .ok (.invokevirtual 76, 3) := by decide +kernel
theorem dL_whole_22 : decode cL_whole 22 = .ok (.i2l, 1) := by decide +kernel
theorem dL_whole_23 : decode cL_whole 23 = .ok (.ladd, 1) := by decide +kernel
theorem dL_whole_24 : decode cL_whole 24 = .ok (.lstore_n 1, 1) := by decide +kernel
theorem dL_whole_25 : decode cL_whole 25 = .ok (.iinc 3 1, 3) := by decide +kernel
theorem dL_whole_28 : decode cL_whole 28 = .ok (.goto (-22), 3) := by decide +kernel
theorem dL_whole_31 : decode cL_whole 31 = .ok (.iconst 0, 1) := by decide +kernel
theorem dL_whole_32 : decode cL_whole 32 = .ok (.istore_n 3, 1) := by decide +kernel
theorem dL_whole_33 : decode cL_whole 33 = .ok (.iload_n 3, 1) := by decide +kernel
theorem dL_whole_34 : decode cL_whole 34 = .ok (.aload_n 0, 1) := by decide +kernel
theorem dL_whole_35 : decode cL_whole 35 = .ok (.iconst 4, 1) := by decide +kernel
theorem dL_whole_36 : decode cL_whole 36 = .ok (.invokevirtual 76, 3) := by decide +kernel
theorem dL_whole_39 : decode cL_whole 39 = .ok (.if_icmp .ge 39, 3) := by decide +kernel
theorem dL_whole_42 : decode cL_whole 42 = .ok (.iconst 0, 1) := by decide +kernel
theorem dL_whole_43 : decode cL_whole 43 = .ok (.istore 4, 2) := by decide +kernel
theorem dL_whole_45 : decode cL_whole 45 = .ok (.iload 4, 2) := by decide +kernel
theorem dL_whole_47 : decode cL_whole 47 = .ok (.iconst 3, 1) := by decide +kernel
theorem dL_whole_48 : decode cL_whole 48 = .ok (.if_icmp .gt 24, 3) := by decide +kernel
theorem dL_whole_51 : decode cL_whole 51 = .ok (.ldc2_w 123, 3) := by decide +kernel
theorem dL_whole_54 : decode cL_whole 54 = .ok (.lload_n 1, 1) := by decide +kernel
theorem dL_whole_55 : decode cL_whole 55 = .ok (.lmul, 1) := by decide +kernel
theorem dL_whole_56 : decode cL_whole 56 = .ok (.aload_n 0, 1) := by decide +kernel
theorem dL_whole_57 : decode cL_whole 57 = .ok (.iload_n 3, 1) := by decide +kernel
theorem dL_whole_58 : decode cL_whole 58 = .ok (.iload 4, 2) := by decide +kernel
theorem dL_whole_60 : decode cL_whole 60 = .ok (.invokevirtual 125, 3) := by decide +kernel
theorem dL_whole_63 : decode cL_whole 63 = .ok (.i2l, 1) := by decide +kernel
theorem dL_whole_64 : decode cL_whole 64 = .ok (.ladd, 1) := by decide +kernel
theorem dL_whole_65 : decode cL_whole 65 = .ok (.lstore_n 1, 1) := by decide +kernel
theorem dL_whole_66 : decode cL_whole 66 = .ok (.iinc 4 1, 3) := by decide +kernel
theorem dL_whole_69 : decode cL_whole 69 = .ok (.goto (-24), 3) := by decide +kernel
theorem dL_whole_72 : decode cL_whole 72 = .ok (.iinc 3 1, 3) := by decide +kernel
theorem dL_whole_75 : decode cL_whole 75 = .ok (.goto (-42), 3) := by decide +kernel
theorem dL_whole_78 : decode cL_whole 78 = .ok (.iconst 0, 1) := by decide +kernel
theorem dL_whole_79 : decode cL_whole 79 = .ok (.istore_n 3, 1) := by decide +kernel
theorem dL_whole_80 : decode cL_whole 80 = .ok (.iload_n 3, 1) := by decide +kernel
theorem dL_whole_81 : decode cL_whole 81 = .ok (.bipush 10, 2) := by decide +kernel
theorem dL_whole_83 : decode cL_whole 83 = .ok (.if_icmp .ge 38, 3) := by decide +kernel
theorem dL_whole_86 : decode cL_whole 86 = .ok (.ldc2_w 123, 3) := by decide +kernel
theorem dL_whole_89 : decode cL_whole 89 = .ok (.lload_n 1, 1) := by decide +kernel
theorem dL_whole_90 : decode cL_whole 90 = .ok (.lmul, 1) := by decide +kernel
theorem dL_whole_91 : decode cL_whole 91 = .ok (.ldc2_w 128, 3) := by decide +kernel
theorem dL_whole_94 : decode cL_whole 94 = .ok (.aload_n 0, 1) := by decide +kernel
theorem dL_whole_95 : decode cL_whole 95 = .ok (.iconst 0, 1) := by decide +kernel
theorem dL_whole_96 : decode cL_whole 96 = .ok (.iload_n 3, 1) := by decide +kernel
theorem dL_whole_97 : decode cL_whole 97 = .ok (.invokevirtual 130, 3) := by decide +kernel
theorem dL_whole_100 : decode cL_whole 100 = .ok (.i2l, 1) := by decide +kernel
theorem dL_whole_101 : decode cL_whole 101 = .ok (.lmul, 1) := by decide +kernel
theorem dL_whole_102 : decode cL_whole 102 = .ok (.ladd, 1) := by decide +kernel
theorem dL_whole_103 : decode cL_whole 103 = .ok (.aload_n 0, 1) := by decide +kernel
theorem dL_whole_104 : decode cL_whole 104 = .ok (.bipush 100, 2) := by decide +kernel
theorem dL_whole_106 : decode cL_whole 106 = .ok (.iload_n 3, 1) := by decide +kernel
theorem dL_whole_107 : decode cL_whole 107 = .ok (.iadd, 1) := by decide +kernel
theorem dL_whole_108 : decode cL_whole 108 = .ok (.iconst 2, 1) := by decide +kernel
theorem dL_whole_109 : decode cL_whole 109 = .ok (.invokevirtual 125, 3) := by decide +kernel
theorem dL_whole_112 : decode cL_whole 112 = .ok (.i2l, 1) := by decide +kernel
theorem dL_whole_113 : decode cL_whole 113 = .ok (.ladd, 1) := by decide +kernel
theorem dL_whole_114 : decode cL_whole 114 = .ok (.lstore_n 1, 1) := by decide +kernel
theorem dL_whole_115 : decode cL_whole 115 = .ok (.iinc 3 1, 3) := by decide +kernel
theorem dL_whole_118 : decode cL_whole 118 = .ok (.goto (-38), 3) := by decide +kernel
theorem dL_whole_121 : decode cL_whole 121 = .ok (.iconst 0, 1) := by decide +kernel
theorem dL_whole_122 : decode cL_whole 122 = .ok (.istore_n 3, 1) := by decide +kernel
theorem dL_whole_123 : decode cL_whole 123 = .ok (.iload_n 3, 1) := by decide +kernel
theorem dL_whole_124 : decode cL_whole 124 = .ok (.aload_n 0, 1) := by decide +kernel
theorem dL_whole_125 : decode cL_whole 125 = .ok (.bipush 7, 2) := by decide +kernel
theorem dL_whole_127 : decode cL_whole 127 = .ok (.invokevirtual 76, 3) := by decide +kernel
theorem dL_whole_130 : decode cL_whole 130 = .ok (.if_icmp .ge 39, 3) := by decide +kernel
theorem dL_whole_133 : decode cL_whole 133 = .ok (.iconst 0, 1) := by decide +kernel
theorem dL_whole_134 : decode cL_whole 134 = .ok (.istore 4, 2) := by decide +kernel
theorem dL_whole_136 : decode cL_whole 136 = .ok (.iload 4, 2) := by decide +kernel
theorem dL_whole_138 : decode cL_whole 138 = .ok (.iconst 3, 1) := by decide +kernel
theorem dL_whole_139 : decode cL_whole 139 = .ok (.if_icmp .gt 24, 3) := by decide +kernel
theorem dL_whole_142 : decode cL_whole 142 = .ok (.ldc2_w 123, 3) := by decide +kernel
theorem dL_whole_145 : decode cL_whole 145 = .ok (.lload_n 1, 1) := by decide +kernel
theorem dL_whole_146 : decode cL_whole 146 = .ok (.lmul, 1) := by decide +kernel
theorem dL_whole_147 : decode cL_whole 147 = .ok (.aload_n 0, 1) := by decide +kernel
theorem dL_whole_148 : decode cL_whole 148 = .ok (.iload_n 3, 1) := by decide +kernel
theorem dL_whole_149 : decode cL_whole 149 = .ok (.iload 4, 2) := by decide +kernel
theorem dL_whole_151 : decode cL_whole 151 = .ok (.invokevirtual 133, 3) := by decide +kernel
theorem dL_whole_154 : decode cL_whole 154 = .ok (.i2l, 1) := by decide +kernel
theorem dL_whole_155 : decode cL_whole 155 = .ok (.ladd, 1) := by decide +kernel
theorem dL_whole_156 : decode cL_whole 156 = .ok (.lstore_n 1, 1) := by decide +kernel
theorem dL_whole_157 : decode cL_whole 157 = .ok (.iinc 4 1, 3) := by decide +kernel
theorem dL_whole_160 : decode cL_whole 160 = .ok (.goto (-24), 3) := by decide +kernel
theorem dL_whole_163 : decode cL_whole 163 = .ok (.iinc 3 1, 3) := by decide +kernel
theorem dL_whole_166 : decode cL_whole 166 = .ok (.goto (-43), 3) := by decide +kernel
theorem dL_whole_169 : decode cL_whole 169 = .ok (.iconst 0, 1) := by decide +kernel
theorem dL_whole_170 : decode cL_whole 170 = .ok (.istore_n 3, 1) := by decide +kernel
theorem dL_whole_171 : decode cL_whole 171 = .ok (.iload_n 3, 1) := by decide +kernel
theorem dL_whole_172 : decode cL_whole 172 = .ok (.aload_n 0, 1) := by decide +kernel
theorem dL_whole_173 : decode cL_whole 173 = .ok (.iconst 0, 1) := by decide +kernel
theorem dL_whole_174 : decode cL_whole 174 = .ok (.invokevirtual 76, 3) := by decide +kernel
theorem dL_whole_177 : decode cL_whole 177 = .ok (.if_icmp .ge 82, 3) := by decide +kernel
theorem dL_whole_180 : decode cL_whole 180 = .ok (.iconst 0, 1) := by decide +kernel
theorem dL_whole_181 : decode cL_whole 181 = .ok (.istore 4, 2) := by decide +kernel
theorem dL_whole_183 : decode cL_whole 183 = .ok (.iload 4, 2) := by decide +kernel
theorem dL_whole_185 : decode cL_whole 185 = .ok (.aload_n 0, 1) := by decide +kernel
theorem dL_whole_186 : decode cL_whole 186 = .ok (.iload_n 3, 1) := by decide +kernel
theorem dL_whole_187 : decode cL_whole 187 = .ok (.invokevirtual 136, 3) := by decide +kernel
theorem dL_whole_190 : decode cL_whole 190 = .ok (.if_icmp .ge 63, 3) := by decide +kernel
theorem dL_whole_193 : decode cL_whole 193 = .ok (.ldc2_w 123, 3) := by decide +kernel
theorem dL_whole_196 : decode cL_whole 196 = .ok (.lload_n 1, 1) := by decide +kernel
theorem dL_whole_197 : decode cL_whole 197 = .ok (.lmul, 1) := by decide +kernel
theorem dL_whole_198 : decode cL_whole 198 = .ok (.aload_n 0, 1) := by decide +kernel
theorem dL_whole_199 : decode cL_whole 199 = .ok (.iload_n 3, 1) := by decide +kernel
theorem dL_whole_200 : decode cL_whole 200 = .ok (.iload 4, 2) := by decide +kernel
theorem dL_whole_202 : decode cL_whole 202 = .ok (.invokevirtual 139, 3) := by decide +kernel
theorem dL_whole_205 : decode cL_whole 205 = .ok (.i2l, 1) := by decide +kernel
theorem dL_whole_206 : decode cL_whole 206 = .ok (.ladd, 1) := by decide +kernel
theorem dL_whole_207 : decode cL_whole 207 = .ok (.lstore_n 1, 1) := by decide +kernel
theorem dL_whole_208 : decode cL_whole 208 = .ok (.iconst 0, 1) := by decide +kernel
theorem dL_whole_209 : decode cL_whole 209 = .ok (.istore 5, 2) := by decide +kernel
theorem dL_whole_211 : decode cL_whole 211 = .ok (.iload 5, 2) := by decide +kernel
theorem dL_whole_213 : decode cL_whole 213 = .ok (.bipush 9, 2) := by decide +kernel
theorem dL_whole_215 : decode cL_whole 215 = .ok (.if_icmp .ge 32, 3) := by decide +kernel
theorem dL_whole_218 : decode cL_whole 218 = .ok (.ldc2_w 123, 3) := by decide +kernel
theorem dL_whole_221 : decode cL_whole 221 = .ok (.lload_n 1, 1) := by decide +kernel
theorem dL_whole_222 : decode cL_whole 222 = .ok (.lmul, 1) := by decide +kernel
theorem dL_whole_223 : decode cL_whole 223 = .ok (.aload_n 0, 1) := by decide +kernel
theorem dL_whole_224 : decode cL_whole 224 = .ok (.iload_n 3, 1) := by decide +kernel
theorem dL_whole_225 : decode cL_whole 225 = .ok (.iload 4, 2) := by decide +kernel
theorem dL_whole_227 : decode cL_whole 227 = .ok (.iload 5, 2) := by decide +kernel
theorem dL_whole_229 : decode cL_whole 229 = .ok (.iconst 3, 1) := by decide +kernel
theorem dL_whole_230 : decode cL_whole 230 = .ok (.idiv, 1) := by decide +kernel
theorem dL_whole_231 : decode cL_whole 231 = .ok (.iload 5, 2) := by decide +kernel
theorem dL_whole_233 : decode cL_whole 233 = .ok (.iconst 3, 1) := by decide +kernel
theorem dL_whole_234 : decode cL_whole 234 = .ok (.irem, 1) := by decide +kernel
theorem dL_whole_235 : decode cL_whole 235 = .ok (.invokevirtual 142, 3) := by decide +kernel
theorem dL_whole_238 : decode cL_whole 238 = .ok (.i2l, 1) := by decide +kernel
theorem dL_whole_239 : decode cL_whole 239 = .ok (.ladd, 1) := by decide +kernel
theorem dL_whole_240 : decode cL_whole 240 = .ok (.lstore_n 1, 1) := by decide +kernel
theorem dL_whole_241 : decode cL_whole 241 = .ok (.iinc 5 1, 3) := by decide +kernel
theorem dL_whole_244 : decode cL_whole 244 = .ok (.goto (-33), 3) := by decide +kernel
theorem dL_whole_247 : decode cL_whole 247 = .ok (.iinc 4 1, 3) := by decide +kernel
theorem dL_whole_250 : decode cL_whole 250 = .ok (.goto (-67), 3) := by decide +kernel
theorem dL_whole_253 : decode cL_whole 253 = .ok (.iinc 3 1, 3) := by decide +kernel
theorem dL_whole_256 : decode cL_whole 256 = .ok (.goto (-85), 3) := by decide +kernel
theorem dL_whole_259 : decode cL_whole 259 = .ok (.iconst 0, 1) := by decide +kernel
theorem dL_whole_260 : decode cL_whole 260 = .ok (.istore_n 3, 1) := by decide +kernel
theorem dL_whole_261 : decode cL_whole 261 = .ok (.iload_n 3, 1) := by decide +kernel
theorem dL_whole_262 : decode cL_whole 262 = .ok (.aload_n 0, 1) := by decide +kernel
theorem dL_whole_263 : decode cL_whole 263 = .ok (.bipush 6, 2) := by decide +kernel
theorem dL_whole_265 : decode cL_whole 265 = .ok (.invokevirtual 76, 3) := by decide +kernel
theorem dL_whole_268 : decode cL_whole 268 = .ok (.if_icmp .ge 43, 3) := by decide +kernel
theorem dL_whole_271 : decode cL_whole 271 = .ok (.iconst 0, 1) := by decide +kernel
theorem dL_whole_272 : decode cL_whole 272 = .ok (.istore 4, 2) := by decide +kernel
theorem dL_whole_274 : decode cL_whole 274 = .ok (.iload 4, 2) := by decide +kernel
theorem dL_whole_276 : decode cL_whole 276 = .ok (.aload_n 0, 1) := by decide +kernel
theorem dL_whole_277 : decode cL_whole 277 = .ok (.iload_n 3, 1) := by decide +kernel
theorem dL_whole_278 : decode cL_whole 278 = .ok (.invokevirtual 146, 3) := by decide +kernel
theorem dL_whole_281 : decode cL_whole 281 = .ok (.if_icmp .ge 24, 3) := by decide +kernel
theorem dL_whole_284 : decode cL_whole 284 = .ok (.ldc2_w 123, 3) := by decide +kernel
theorem dL_whole_287 : decode cL_whole 287 = .ok (.lload_n 1, 1) := by decide +kernel
theorem dL_whole_288 : decode cL_whole 288 = .ok (.lmul, 1) := by decide +kernel
theorem dL_whole_289 : decode cL_whole 289 = .ok (.aload_n 0, 1) := by decide +kernel
theorem dL_whole_290 : decode cL_whole 290 = .ok (.iload_n 3, 1) := by decide +kernel
theorem dL_whole_291 : decode cL_whole 291 = .ok (.iload 4, 2) := by decide +kernel
theorem dL_whole_293 : decode cL_whole 293 = .ok (.invokevirtual 149, 3) := by decide +kernel
theorem dL_whole_296 : decode cL_whole 296 = .ok (.i2l, 1) := by decide +kernel
theorem dL_whole_297 : decode cL_whole 297 = .ok (.ladd, 1) := by decide +kernel
theorem dL_whole_298 : decode cL_whole 298 = .ok (.lstore_n 1, 1) := by decide +kernel
theorem dL_whole_299 : decode cL_whole 299 = .ok (.iinc 4 1, 3) := by decide +kernel
theorem dL_whole_302 : decode cL_whole 302 = .ok (.goto (-28), 3) := by decide +kernel
theorem dL_whole_305 : decode cL_whole 305 = .ok (.iinc 3 1, 3) := by decide +kernel
theorem dL_whole_308 : decode cL_whole 308 = .ok (.goto (-47), 3) := by decide +kernel
theorem dL_whole_311 : decode cL_whole 311 = .ok (.lload_n 1, 1) := by decide +kernel
theorem dL_whole_312 : decode cL_whole 312 = .ok (.lreturn, 1) := by decide +kernel
theorem dL_cards_0 : decode cL_cards 0 = .ok (.iconst 0, 1) := by decide +kernel
theorem dL_cards_1 : decode cL_cards 1 = .ok (.istore_n 2, 1) := by decide +kernel
theorem dL_cards_2 : decode cL_cards 2 = .ok (.iconst 0, 1) := by decide +kernel
theorem dL_cards_3 : decode cL_cards 3 = .ok (.istore_n 3, 1) := by decide +kernel
theorem dL_cards_4 : decode cL_cards 4 = .ok (.iload_n 3, 1) := by decide +kernel
theorem dL_cards_5 : decode cL_cards 5 = .ok (.aload_n 0, 1) := by decide +kernel
theorem dL_cards_6 : decode cL_cards 6 = .ok (.iconst 4, 1) := by decide +kernel
theorem dL_cards_7 : decode cL_cards 7 = .ok (.invokevirtual 76, 3) := by decide +kernel
theorem dL_cards_10 : decode cL_cards 10 = .ok (.if_icmp .ge 35, 3) := by decide +kernel
theorem dL_cards_13 : decode cL_cards 13 = .ok (.iload_n 2, 1) := by decide +kernel
theorem dL_cards_14 : decode cL_cards 14 = .ok (.aload_n 0, 1) := by decide +kernel
theorem dL_cards_15 : decode cL_cards 15 = .ok (.iload_n 3, 1) := by decide +kernel
theorem dL_cards_16 : decode cL_cards 16 = .ok (.iconst 3, 1) := by decide +kernel
theorem dL_cards_17 : decode cL_cards 17 = .ok (.invokevirtual 125, 3) := by decide +kernel
theorem dL_cards_20 : decode cL_cards 20 = .ok (.iadd, 1) := by decide +kernel
theorem dL_cards_21 : decode cL_cards 21 = .ok (.istore_n 2, 1) := by decide +kernel
theorem dL_cards_22 : decode cL_cards 22 = .ok (.aload_n 0, 1) := by decide +kernel
theorem dL_cards_23 : decode cL_cards 23 = .ok (.iload_n 3, 1) := by decide +kernel
theorem dL_cards_24 : decode cL_cards 24 = .ok (.iconst 3, 1) := by decide +kernel
theorem dL_cards_25 : decode cL_cards 25 = .ok (.invokevirtual 125, 3) := by decide +kernel
theorem dL_cards_28 : decode cL_cards 28 = .ok (.aload_n 0, 1) := by decide +kernel
theorem dL_cards_29 : decode cL_cards 29 = .ok (.iload_n 3, 1) := by decide +kernel
theorem dL_cards_30 : decode cL_cards 30 = .ok (.iconst 2, 1) := by decide +kernel
theorem dL_cards_31 : decode cL_cards 31 = .ok (.invokevirtual 125, 3) := by decide +kernel
theorem dL_cards_34 : decode cL_cards 34 = .ok (.if_icmp .le 5, 3) := by decide +kernel
theorem dL_cards_37 : decode cL_cards 37 = .ok (.iconst 0, 1) := by decide +kernel
theorem dL_cards_38 : decode cL_cards 38 = .ok (.ireturn, 1) := by decide +kernel
theorem dL_cards_39 : decode cL_cards 39 = .ok (.iinc 3 1, 3) := by decide +kernel
theorem dL_cards_42 : decode cL_cards 42 = .ok (.goto (-38), 3) := by decide +kernel
theorem dL_cards_45 : decode cL_cards 45 = .ok (.iconst 0, 1) := by decide +kernel
theorem dL_cards_46 : decode cL_cards 46 = .ok (.istore_n 3, 1) := by decide +kernel
theorem dL_cards_47 : decode cL_cards 47 = .ok (.iload_n 3, 1) := by decide +kernel
theorem dL_cards_48 : decode cL_cards 48 = .ok (.bipush 10, 2) := by decide +kernel
theorem dL_cards_50 : decode cL_cards 50 = .ok (.if_icmp .ge 127, 3) := by decide +kernel
theorem dL_cards_53 : decode cL_cards 53 = .ok (.iload_n 2, 1) := by decide +kernel
theorem dL_cards_54 : decode cL_cards 54 = .ok (.aload_n 0, 1) := by decide +kernel
theorem dL_cards_55 : decode cL_cards 55 = .ok (.bipush 100, 2) := by decide +kernel
theorem dL_cards_57 : decode cL_cards 57 = .ok (.iload_n 3, 1) := by decide +kernel
theorem dL_cards_58 : decode cL_cards 58 = .ok (.iadd, 1) := by decide +kernel
theorem dL_cards_59 : decode cL_cards 59 = .ok (.iconst 3, 1) := by decide +kernel
theorem dL_cards_60 : decode cL_cards 60 = .ok (.invokevirtual 125, 3) := by decide +kernel
theorem dL_cards_63 : decode cL_cards 63 = .ok (.iadd, 1) := by decide +kernel
theorem dL_cards_64 : decode cL_cards 64 = .ok (.istore_n 2, 1) := by decide +kernel
theorem dL_cards_65 : decode cL_cards 65 = .ok (.aload_n 0, 1) := by decide +kernel
theorem dL_cards_66 : decode cL_cards 66 = .ok (.bipush 100, 2) := by decide +kernel
theorem dL_cards_68 : decode cL_cards 68 = .ok (.iload_n 3, 1) := by decide +kernel
theorem dL_cards_69 : decode cL_cards 69 = .ok (.iadd, 1) := by decide +kernel
theorem dL_cards_70 : decode cL_cards 70 = .ok (.iconst 3, 1) := by decide +kernel
theorem dL_cards_71 : decode cL_cards 71 = .ok (.invokevirtual 125, 3) := by decide +kernel
theorem dL_cards_74 : decode cL_cards 74 = .ok (.aload_n 0, 1) := by decide +kernel
theorem dL_cards_75 : decode cL_cards 75 = .ok (.bipush 100, 2) := by decide +kernel
theorem dL_cards_77 : decode cL_cards 77 = .ok (.iload_n 3, 1) := by decide +kernel
theorem dL_cards_78 : decode cL_cards 78 = .ok (.iadd, 1) := by decide +kernel
theorem dL_cards_79 : decode cL_cards 79 = .ok (.iconst 2, 1) := by decide +kernel
theorem dL_cards_80 : decode cL_cards 80 = .ok (.invokevirtual 125, 3) := by decide +kernel
theorem dL_cards_83 : decode cL_cards 83 = .ok (.if_icmp .gt 86, 3) := by decide +kernel
theorem dL_cards_86 : decode cL_cards 86 = .ok (.aload_n 0, 1) := by decide +kernel
theorem dL_cards_87 : decode cL_cards 87 = .ok (.iconst 0, 1) := by decide +kernel
theorem dL_cards_88 : decode cL_cards 88 = .ok (.iload_n 3, 1) := by decide +kernel
theorem dL_cards_89 : decode cL_cards 89 = .ok (.invokevirtual 130, 3) := by decide +kernel
theorem dL_cards_92 : decode cL_cards 92 = .ok (.aload_n 0, 1) := by decide +kernel
theorem dL_cards_93 : decode cL_cards 93 = .ok (.bipush 100, 2) := by decide +kernel
theorem dL_cards_95 : decode cL_cards 95 = .ok (.iload_n 3, 1) := by decide +kernel
theorem dL_cards_96 : decode cL_cards 96 = .ok (.iadd, 1) := by decide +kernel
theorem dL_cards_97 : decode cL_cards 97 = .ok (.iconst 2, 1) := by decide +kernel
theorem dL_cards_98 : decode cL_cards 98 = .ok (.invokevirtual 125, 3) := by decide +kernel
theorem dL_cards_101 : decode cL_cards 101 = .ok (.iadd, 1) := by decide +kernel
theorem dL_cards_102 : decode cL_cards 102 = .ok (.aload_n 1, 1) := by decide +kernel
theorem dL_cards_103 : decode cL_cards 103 = .ok (.bipush 13, 2) := by decide +kernel
theorem dL_cards_105 : decode cL_cards 105 = .ok (.iload_n 3, 1) := by decide +kernel
theorem dL_cards_106 : decode cL_cards 106 = .ok (.iadd, 1) := by decide +kernel
theorem dL_cards_107 : decode cL_cards 107 = .ok (.invokestatic 40, 3) := by decide +kernel
theorem dL_cards_110 : decode cL_cards 110 = .ok (.iconst 4, 1) := by decide +kernel
theorem dL_cards_111 : decode cL_cards 111 = .ok (.irem, 1) := by decide +kernel
theorem dL_cards_112 : decode cL_cards 112 = .ok (.if_icmp .ne 57, 3) := by decide +kernel
theorem dL_cards_115 : decode cL_cards 115 = .ok (.aload_n 0, 1) := by decide +kernel
theorem dL_cards_116 : decode cL_cards 116 = .ok (.iload_n 3, 1) := by decide +kernel
theorem dL_cards_117 : decode cL_cards 117 = .ok (.invokevirtual 151, 3) := by decide +kernel
theorem dL_cards_120 : decode cL_cards 120 = .ok (.aload_n 0, 1) := by decide +kernel
theorem dL_cards_121 : decode cL_cards 121 = .ok (.iload_n 3, 1) := by decide +kernel
theorem dL_cards_122 : decode cL_cards 122 = .ok (.invokevirtual 154, 3) := by decide +kernel
theorem dL_cards_125 : decode cL_cards 125 = .ok (.if_icmp .gt 44, 3) := by decide +kernel
theorem dL_cards_128 : decode cL_cards 128 = .ok (.aload_n 0, 1) := by decide +kernel
theorem dL_cards_129 : decode cL_cards 129 = .ok (.iload_n 3, 1) := by decide +kernel
theorem dL_cards_130 : decode cL_cards 130 = .ok (.invokevirtual 151, 3) := by decide +kernel
theorem dL_cards_133 : decode cL_cards 133 = .ok (.ifCond .le 7, 3) := by decide +kernel
theorem dL_cards_136 : decode cL_cards 136 = .ok (.iconst 1, 1) := by decide +kernel
theorem dL_cards_137 : decode cL_cards 137 = .ok (.goto 4, 3) := by decide +kernel
theorem dL_cards_140 : decode cL_cards 140 = .ok (.iconst 0, 1) := by decide +kernel
theorem dL_cards_141 : decode cL_cards 141 = .ok (.iload_n 3, 1) := by decide +kernel
theorem dL_cards_142 : decode cL_cards 142 = .ok (.ifCond .ne 19, 3) := by decide +kernel
theorem dL_cards_145 : decode cL_cards 145 = .ok (.aload_n 0, 1) := by decide +kernel
theorem dL_cards_146 : decode cL_cards 146 = .ok (.iconst 0, 1) := by decide +kernel
theorem dL_cards_147 : decode cL_cards 147 = .ok (.invokevirtual 151, 3) := by decide +kernel
theorem dL_cards_150 : decode cL_cards 150 = .ok (.ifCond .le 7, 3) := by decide +kernel
theorem dL_cards_153 : decode cL_cards 153 = .ok (.iconst 1, 1) := by decide +kernel
theorem dL_cards_154 : decode cL_cards 154 = .ok (.goto 12, 3) := by decide +kernel
theorem dL_cards_157 : decode cL_cards 157 = .ok (.iconst 0, 1) := by decide +kernel
theorem dL_cards_158 : decode cL_cards 158 = .ok (.goto 8, 3) := by decide +kernel
theorem dL_cards_161 : decode cL_cards 161 = .ok (.aload_n 0, 1) := by decide +kernel
theorem dL_cards_162 : decode cL_cards 162 = .ok (.iload_n 3, 1) := by decide +kernel
theorem dL_cards_163 : decode cL_cards 163 = .ok (.invokevirtual 157, 3) := by decide +kernel
theorem dL_cards_166 : decode cL_cards 166 = .ok (.if_icmp .eq 5, 3) := by decide +kernel
theorem dL_cards_169 : decode cL_cards 169 = .ok (.iconst 0, 1) := by decide +kernel
theorem dL_cards_170 : decode cL_cards 170 = .ok (.ireturn, 1) := by decide +kernel
theorem dL_cards_171 : decode cL_cards 171 = .ok (.iinc 3 1, 3) := by decide +kernel
theorem dL_cards_174 : decode cL_cards 174 = .ok (.goto (-127), 3) := by decide +kernel
theorem dL_cards_177 : decode cL_cards 177 = .ok (.iconst 0, 1) := by decide +kernel
theorem dL_cards_178 : decode cL_cards 178 = .ok (.istore_n 3, 1) := by decide +kernel
theorem dL_cards_179 : decode cL_cards 179 = .ok (.iconst 0, 1) := by decide +kernel
theorem dL_cards_180 : decode cL_cards 180 = .ok (.istore 4, 2) := by decide +kernel
theorem dL_cards_182 : decode cL_cards 182 = .ok (.iconst 0, 1) := by decide +kernel
theorem dL_cards_183 : decode cL_cards 183 = .ok (.istore 5, 2) := by decide +kernel
theorem dL_cards_185 : decode cL_cards 185 = .ok (.iload 5, 2) := by decide +kernel
theorem dL_cards_187 : decode cL_cards 187 = .ok (.aload_n 0, 1) := by decide +kernel
theorem dL_cards_188 : decode cL_cards 188 = .ok (.iconst 0, 1) := by decide +kernel
theorem dL_cards_189 : decode cL_cards 189 = .ok (.invokevirtual 76, 3) := by decide +kernel
theorem dL_cards_192 : decode cL_cards 192 = .ok (.if_icmp .ge 217, 3) := by decide +kernel
theorem dL_cards_195 : decode cL_cards 195 = .ok (.iconst 0, 1) := by decide +kernel
theorem dL_cards_196 : decode cL_cards 196 = .ok (.istore 6, 2) := by decide +kernel
theorem dL_cards_198 : decode cL_cards 198 = .ok (.iload 6, 2) := by decide +kernel
theorem dL_cards_200 : decode cL_cards 200 = .ok (.aload_n 0, 1) := by decide +kernel
theorem dL_cards_201 : decode cL_cards 201 = .ok (.iload 5, 2) := by decide +kernel
theorem dL_cards_203 : decode cL_cards 203 = .ok (.invokevirtual 136, 3) := by decide +kernel
theorem dL_cards_206 : decode cL_cards 206 = .ok (.if_icmp .ge 197, 3) := by decide +kernel
theorem dL_cards_209 : decode cL_cards 209 = .ok (.aload_n 0, 1) := by decide +kernel
theorem dL_cards_210 : decode cL_cards 210 = .ok (.iload 5, 2) := by decide +kernel
theorem dL_cards_212 : decode cL_cards 212 = .ok (.iload 6, 2) := by decide +kernel
theorem dL_cards_214 : decode cL_cards 214 = .ok (.invokevirtual 139, 3) := by decide +kernel
theorem dL_cards_217 : decode cL_cards 217 = .ok (.istore 7, 2) := by decide +kernel
theorem dL_cards_219 : decode cL_cards 219 = .ok (.iconst 0, 1) := by decide +kernel
theorem dL_cards_220 : decode cL_cards 220 = .ok (.istore 8, 2) := by decide +kernel
theorem dL_cards_222 : decode cL_cards 222 = .ok (.iconst 0, 1) := by decide +kernel
theorem dL_cards_223 : decode cL_cards 223 = .ok (.istore 9, 2) := by decide +kernel
theorem dL_cards_225 : decode cL_cards 225 = .ok (.iload 9, 2) := by decide +kernel
theorem dL_cards_227 : decode cL_cards 227 = .ok (.iconst 3, 1) := by decide +kernel
theorem dL_cards_228 : decode cL_cards 228 = .ok (.if_icmp .ge 154, 3) := by decide +kernel
theorem dL_cards_231 : decode cL_cards 231 = .ok (.aload_n 0, 1) := by decide +kernel
theorem dL_cards_232 : decode cL_cards 232 = .ok (.iload 5, 2) := by decide +kernel
theorem dL_cards_234 : decode cL_cards 234 = .ok (.iload 6, 2) := by decide +kernel
theorem dL_cards_236 : decode cL_cards 236 = .ok (.iload 9, 2) := by decide +kernel
theorem dL_cards_238 : decode cL_cards 238 = .ok (.iconst 0, 1) := by decide +kernel
theorem dL_cards_239 : decode cL_cards 239 = .ok (.invokevirtual 142, 3) := by decide +kernel
theorem dL_cards_242 : decode cL_cards 242 = .ok (.istore 10, 2) := by decide +kernel
theorem dL_cards_244 : decode cL_cards 244 = .ok (.iload 9, 2) := by decide +kernel
theorem dL_cards_246 : decode cL_cards 246 = .ok (.ifCond .ne 11, 3) := by decide +kernel
theorem dL_cards_249 : decode cL_cards 249 = .ok (.iload 7, 2) := by decide +kernel
theorem dL_cards_251 : decode cL_cards 251 = .ok (.bipush 100, 2) := by decide +kernel
theorem dL_cards_253 : decode cL_cards 253 = .ok (.idiv, 1) := by decide +kernel
theorem dL_cards_254 : decode cL_cards 254 = .ok (.goto 19, 3) := by decide +kernel
theorem dL_cards_257 : decode cL_cards 257 = .ok (.iload 9, 2) := by decide +kernel
theorem dL_cards_259 : decode cL_cards 259 = .ok (.iconst 1, 1) := by decide +kernel
theorem dL_cards_260 : decode cL_cards 260 = .ok (.if_icmp .ne 11, 3) := by decide +kernel
theorem dL_cards_263 : decode cL_cards 263 = .ok (.iload 7, 2) := by decide +kernel
theorem dL_cards_265 : decode cL_cards 265 = .ok (.bipush 10, 2) := by decide +kernel
theorem dL_cards_267 : decode cL_cards 267 = .ok (.idiv, 1) := by decide +kernel
theorem dL_cards_268 : decode cL_cards 268 = .ok (.goto 5, 3) := by decide +kernel
theorem dL_cards_271 : decode cL_cards 271 = .ok (.iload 7, 2) := by decide +kernel
theorem dL_cards_273 : decode cL_cards 273 = .ok (.istore 11, 2) := by decide +kernel
theorem dL_cards_275 : decode cL_cards 275 = .ok (.iload_n 3, 1) := by decide +kernel
theorem dL_cards_276 : decode cL_cards 276 = .ok (.iload 10, 2) := by decide +kernel
theorem dL_cards_278 : decode cL_cards 278 = .ok (.ifCond .lt 7, 3) := by decide +kernel
theorem dL_cards_281 : decode cL_cards 281 = .ok (.iconst 1, 1) := by decide +kernel
theorem dL_cards_282 : decode cL_cards 282 = .ok (.goto 4, 3) := by decide +kernel
theorem dL_cards_285 : decode cL_cards 285 = .ok (.iconst 0, 1) := by decide +kernel
theorem dL_cards_286 : decode cL_cards 286 = .ok (.iadd, 1) := by decide +kernel
theorem dL_cards_287 : decode cL_cards 287 = .ok (.istore_n 3, 1) := by decide +kernel
theorem dL_cards_288 : decode cL_cards 288 = .ok (.iload 10, 2) := by decide +kernel
theorem dL_cards_290 : decode cL_cards 290 = .ok (.ifCond .lt 25, 3) := by decide +kernel
theorem dL_cards_293 : decode cL_cards 293 = .ok (.iload 7, 2) := by decide +kernel
theorem dL_cards_295 : decode cL_cards 295 = .ok (.iconst 1, 1) := by decide +kernel
theorem dL_cards_296 : decode cL_cards 296 = .ok (.if_icmp .lt 51, 3) := by decide +kernel
theorem dL_cards_299 : decode cL_cards 299 = .ok (.iload 11, 2) := by decide +kernel
theorem dL_cards_301 : decode cL_cards 301 = .ok (.iconst 1, 1) := by decide +kernel
theorem dL_cards_302 : decode cL_cards 302 = .ok (.if_icmp .lt 45, 3) := by decide +kernel
theorem dL_cards_305 : decode cL_cards 305 = .ok (.iload 10, 2) := by decide +kernel
theorem dL_cards_307 : decode cL_cards 307 = .ok (.iload 11, 2) := by decide +kernel
theorem dL_cards_309 : decode cL_cards 309 = .ok (.bipush 10, 2) := by decide +kernel
theorem dL_cards_311 : decode cL_cards 311 = .ok (.irem, 1) := by decide +kernel
theorem dL_cards_312 : decode cL_cards 312 = .ok (.if_icmp .ne 35, 3) := by decide +kernel
theorem dL_cards_315 : decode cL_cards 315 = .ok (.iload 10, 2) := by decide +kernel
theorem dL_cards_317 : decode cL_cards 317 = .ok (.ifCond .ge 7, 3) := by decide +kernel
theorem dL_cards_320 : decode cL_cards 320 = .ok (.iconst 1, 1) := by decide +kernel
theorem dL_cards_321 : decode cL_cards 321 = .ok (.goto 4, 3) := by decide +kernel
theorem dL_cards_324 : decode cL_cards 324 = .ok (.iconst 0, 1) := by decide +kernel
theorem dL_cards_325 : decode cL_cards 325 = .ok (.aload_n 0, 1) := by decide +kernel
theorem dL_cards_326 : decode cL_cards 326 = .ok (.iload 5, 2) := by decide +kernel
theorem dL_cards_328 : decode cL_cards 328 = .ok (.iload 6, 2) := by decide +kernel
theorem dL_cards_330 : decode cL_cards 330 = .ok (.iload 9, 2) := by decide +kernel
theorem dL_cards_332 : decode cL_cards 332 = .ok (.iconst 1, 1) := by decide +kernel
theorem dL_cards_333 : decode cL_cards 333 = .ok (.invokevirtual 142, 3) := by decide +kernel
theorem dL_cards_336 : decode cL_cards 336 = .ok (.ifCond .ge 7, 3) := by decide +kernel
theorem dL_cards_339 : decode cL_cards 339 = .ok (.iconst 1, 1) := by decide +kernel
theorem dL_cards_340 : decode cL_cards 340 = .ok (.goto 4, 3) := by decide +kernel
theorem dL_cards_343 : decode cL_cards 343 = .ok (.iconst 0, 1) := by decide +kernel
theorem dL_cards_344 : decode cL_cards 344 = .ok (.if_icmp .eq 5, 3) := by decide +kernel
theorem dL_cards_347 : decode cL_cards 347 = .ok (.iconst 0, 1) := by decide +kernel
theorem dL_cards_348 : decode cL_cards 348 = .ok (.ireturn, 1) := by decide +kernel
theorem dL_cards_349 : decode cL_cards 349 = .ok (.iload 8, 2) := by decide +kernel
theorem dL_cards_351 : decode cL_cards 351 = .ok (.ifCond .ne 18, 3) := by decide +kernel
theorem dL_cards_354 : decode cL_cards 354 = .ok (.iload 7, 2) := by decide +kernel
theorem dL_cards_356 : decode cL_cards 356 = .ok (.ifCond .le 17, 3) := by decide +kernel
theorem dL_cards_359 : decode cL_cards 359 = .ok (.iload 11, 2) := by decide +kernel
theorem dL_cards_361 : decode cL_cards 361 = .ok (.ifCond .le 12, 3) := by decide +kernel
theorem dL_cards_364 : decode cL_cards 364 = .ok (.iload 10, 2) := by decide +kernel
theorem dL_cards_366 : decode cL_cards 366 = .ok (.ifCond .ge 7, 3) := by decide +kernel
theorem dL_cards_369 : decode cL_cards 369 = .ok (.iconst 1, 1) := by decide +kernel
theorem dL_cards_370 : decode cL_cards 370 = .ok (.goto 4, 3) := by decide +kernel
theorem dL_cards_373 : decode cL_cards 373 = .ok (.iconst 0, 1) := by decide +kernel
theorem dL_cards_374 : decode cL_cards 374 = .ok (.istore 8, 2) := by decide +kernel
theorem dL_cards_376 : decode cL_cards 376 = .ok (.iinc 9 1, 3) := by decide +kernel
theorem dL_cards_379 : decode cL_cards 379 = .ok (.goto (-154), 3) := by decide +kernel
theorem dL_cards_382 : decode cL_cards 382 = .ok (.iload 4, 2) := by decide +kernel
theorem dL_cards_384 : decode cL_cards 384 = .ok (.iload 8, 2) := by decide +kernel
theorem dL_cards_386 : decode cL_cards 386 = .ok (.ifCond .eq 7, 3) := by decide +kernel
theorem dL_cards_389 : decode cL_cards 389 = .ok (.iconst 1, 1) := by decide +kernel
theorem dL_cards_390 : decode cL_cards 390 = .ok (.goto 4, 3) := by decide +kernel
theorem dL_cards_393 : decode cL_cards 393 = .ok (.iconst 0, 1) := by decide +kernel
theorem dL_cards_394 : decode cL_cards 394 = .ok (.iadd, 1) := by decide +kernel
theorem dL_cards_395 : decode cL_cards 395 = .ok (.istore 4, 2) := by decide +kernel
theorem dL_cards_397 : decode cL_cards 397 = .ok (.iinc 6 1, 3) := by decide +kernel
theorem dL_cards_400 : decode cL_cards 400 = .ok (.goto (-202), 3) := by decide +kernel
theorem dL_cards_403 : decode cL_cards 403 = .ok (.iinc 5 1, 3) := by decide +kernel
theorem dL_cards_406 : decode cL_cards 406 = .ok (.goto (-221), 3) := by decide +kernel
theorem dL_cards_409 : decode cL_cards 409 = .ok (.iload_n 3, 1) := by decide +kernel
theorem dL_cards_410 : decode cL_cards 410 = .ok (.aload_n 0, 1) := by decide +kernel
theorem dL_cards_411 : decode cL_cards 411 = .ok (.bipush 9, 2) := by decide +kernel
theorem dL_cards_413 : decode cL_cards 413 = .ok (.invokevirtual 76, 3) := by decide +kernel
theorem dL_cards_416 : decode cL_cards 416 = .ok (.if_icmp .ne 21, 3) := by decide +kernel
theorem dL_cards_419 : decode cL_cards 419 = .ok (.iload_n 2, 1) := by decide +kernel
theorem dL_cards_420 : decode cL_cards 420 = .ok (.iload_n 3, 1) := by decide +kernel
theorem dL_cards_421 : decode cL_cards 421 = .ok (.if_icmp .ne 16, 3) := by decide +kernel
theorem dL_cards_424 : decode cL_cards 424 = .ok (.aload_n 0, 1) := by decide +kernel
theorem dL_cards_425 : decode cL_cards 425 = .ok (.invokevirtual 161, 3) := by decide +kernel
theorem dL_cards_428 : decode cL_cards 428 = .ok (.iload 4, 2) := by decide +kernel
theorem dL_cards_430 : decode cL_cards 430 = .ok (.if_icmp .ne 7, 3) := by decide +kernel
theorem dL_cards_433 : decode cL_cards 433 = .ok (.iconst 1, 1) := by decide +kernel
theorem dL_cards_434 : decode cL_cards 434 = .ok (.goto 4, 3) := by decide +kernel
theorem dL_cards_437 : decode cL_cards 437 = .ok (.iconst 0, 1) := by decide +kernel
theorem dL_cards_438 : decode cL_cards 438 = .ok (.ireturn, 1) := by decide +kernel
theorem dL_hangs_0 : decode cL_hangs 0 = .ok (.aload_n 0, 1) := by decide +kernel
theorem dL_hangs_1 : decode cL_hangs 1 = .ok (.invokestatic 164, 3) := by decide +kernel
theorem dL_hangs_4 : decode cL_hangs 4 = .ok (.lstore_n 2, 1) := by decide +kernel
theorem dL_hangs_5 : decode cL_hangs 5 = .ok (.aload_n 0, 1) := by decide +kernel
theorem dL_hangs_6 : decode cL_hangs 6 = .ok (.iload_n 1, 1) := by decide +kernel
theorem dL_hangs_7 : decode cL_hangs 7 = .ok (.iconst 0, 1) := by decide +kernel
theorem dL_hangs_8 : decode cL_hangs 8 = .ok (.invokevirtual 168, 3) := by decide +kernel
theorem dL_hangs_11 : decode cL_hangs 11 = .ok (.istore 4, 2) := by decide +kernel
theorem dL_hangs_13 : decode cL_hangs 13 = .ok (.aload_n 0, 1) := by decide +kernel
theorem dL_hangs_14 : decode cL_hangs 14 = .ok (.iload_n 1, 1) := by decide +kernel
theorem dL_hangs_15 : decode cL_hangs 15 = .ok (.iconst 1, 1) := by decide +kernel
theorem dL_hangs_16 : decode cL_hangs 16 = .ok (.invokevirtual 168, 3) := by decide +kernel
theorem dL_hangs_19 : decode cL_hangs 19 = .ok (.istore 5, 2) := by decide +kernel
theorem dL_hangs_21 : decode cL_hangs 21 = .ok (.aload_n 0, 1) := by decide +kernel
theorem dL_hangs_22 : decode cL_hangs 22 = .ok (.iload_n 1, 1) := by decide +kernel
theorem dL_hangs_23 : decode cL_hangs 23 = .ok (.iconst 2, 1) := by decide +kernel
theorem dL_hangs_24 : decode cL_hangs 24 = .ok (.invokevirtual 168, 3) := by decide +kernel
theorem dL_hangs_27 : decode cL_hangs 27 = .ok (.istore 6, 2) := by decide +kernel
theorem dL_hangs_29 : decode cL_hangs 29 = .ok (.aload_n 0, 1) := by decide +kernel
theorem dL_hangs_30 : decode cL_hangs 30 = .ok (.iload_n 1, 1) := by decide +kernel
theorem dL_hangs_31 : decode cL_hangs 31 = .ok (.iconst 3, 1) := by decide +kernel
theorem dL_hangs_32 : decode cL_hangs 32 = .ok (.invokevirtual 168, 3) := by decide +kernel
theorem dL_hangs_35 : decode cL_hangs 35 = .ok (.istore 7, 2) := by decide +kernel
theorem dL_hangs_37 : decode cL_hangs 37 = .ok (.aload_n 0, 1) := by decide +kernel
theorem dL_hangs_38 : decode cL_hangs 38 = .ok (.iload_n 1, 1) := by decide +kernel
theorem dL_hangs_39 : decode cL_hangs 39 = .ok (.iconst 4, 1) := by decide +kernel
theorem dL_hangs_40 : decode cL_hangs 40 = .ok (.invokevirtual 168, 3) := by decide +kernel
theorem dL_hangs_43 : decode cL_hangs 43 = .ok (.istore 8, 2) := by decide +kernel
theorem dL_hangs_45 : decode cL_hangs 45 = .ok (.aload_n 0, 1) := by decide +kernel
theorem dL_hangs_46 : decode cL_hangs 46 = .ok (.iload_n 1, 1) := by decide +kernel
theorem dL_hangs_47 : decode cL_hangs 47 = .ok (.bipush 6, 2) := by decide +kernel
theorem dL_hangs_49 : decode cL_hangs 49 = .ok (.invokevirtual 168, 3) := by decide +kernel
theorem dL_hangs_52 : decode cL_hangs 52 = .ok (.istore 9, 2) := by decide +kernel
theorem dL_hangs_54 : decode cL_hangs 54 = .ok (.aload_n 0, 1) := by decide +kernel
theorem dL_hangs_55 : decode cL_hangs 55 = .ok (.iload_n 1, 1) := by decide +kernel
theorem dL_hangs_56 : decode cL_hangs 56 = .ok (.invokevirtual 171, 3) := by decide +kernel
theorem dL_hangs_59 : decode cL_hangs 59 = .ok (.istore 10, 2) := by decide +kernel
theorem dL_hangs_61 : decode cL_hangs 61 = .ok (.aload_n 0, 1) := by decide +kernel
theorem dL_hangs_62 : decode cL_hangs 62 = .ok (.iload_n 1, 1) := by decide +kernel
theorem dL_hangs_63 : decode cL_hangs 63 = .ok (.invokevirtual 174, 3) := by decide +kernel
theorem dL_hangs_66 : decode cL_hangs 66 = .ok (.istore 11, 2) := by decide +kernel
theorem dL_hangs_68 : decode cL_hangs 68 = .ok (.aload_n 0, 1) := by decide +kernel
theorem dL_hangs_69 : decode cL_hangs 69 = .ok (.iload_n 1, 1) := by decide +kernel
theorem dL_hangs_70 : decode cL_hangs 70 = .ok (.invokevirtual 177, 3) := by decide +kernel
theorem dL_hangs_73 : decode cL_hangs 73 = .ok (.istore 12, 2) := by decide +kernel
theorem dL_hangs_75 : decode cL_hangs 75 = .ok (.aload_n 0, 1) := by decide +kernel
theorem dL_hangs_76 : decode cL_hangs 76 = .ok (.invokevirtual 180, 3) := by decide +kernel
theorem dL_hangs_79 : decode cL_hangs 79 = .ok (.istore 13, 2) := by decide +kernel
theorem dL_hangs_81 : decode cL_hangs 81 = .ok (.aload_n 0, 1) := by decide +kernel
theorem dL_hangs_82 : decode cL_hangs 82 = .ok (.iload_n 1, 1) := by decide +kernel
theorem dL_hangs_83 : decode cL_hangs 83 = .ok (.iconst 0, 1) := by decide +kernel
theorem dL_hangs_84 : decode cL_hangs 84 = .ok (.invokevirtual 183, 3) := by decide +kernel
theorem dL_hangs_87 : decode cL_hangs 87 = .ok (.istore 14, 2) := by decide +kernel
theorem dL_hangs_89 : decode cL_hangs 89 = .ok (.aload_n 0, 1) := by decide +kernel
theorem dL_hangs_90 : decode cL_hangs 90 = .ok (.invokestatic 164, 3) := by decide +kernel
theorem dL_hangs_93 : decode cL_hangs 93 = .ok (.lload_n 2, 1) := by decide +kernel
theorem dL_hangs_94 : decode cL_hangs 94 = .ok (.lcmp, 1) := by decide +kernel
theorem dL_hangs_95 : decode cL_hangs 95 = .ok (.ifCond .ne 86, 3) := by decide +kernel
theorem dL_hangs_98 : decode cL_hangs 98 = .ok (.iload 10, 2) := by decide +kernel
theorem dL_hangs_100 : decode cL_hangs 100 = .ok (.ifCond .ge 7, 3) := by decide +kernel
theorem dL_hangs_103 : decode cL_hangs 103 = .ok (.iconst 1, 1) := by decide +kernel
theorem dL_hangs_104 : decode cL_hangs 104 = .ok (.goto 4, 3) := by decide +kernel
theorem dL_hangs_107 : decode cL_hangs 107 = .ok (.iconst 0, 1) := by decide +kernel
theorem dL_hangs_108 : decode cL_hangs 108 = .ok (.iload 5, 2) := by decide +kernel
theorem dL_hangs_110 : decode cL_hangs 110 = .ok (.ifCond .ne 7, 3) := by decide +kernel
theorem dL_hangs_113 : decode cL_hangs 113 = .ok (.iconst 1, 1) := by decide +kernel
theorem dL_hangs_114 : decode cL_hangs 114 = .ok (.goto 4, 3) := by decide +kernel
theorem dL_hangs_117 : decode cL_hangs 117 = .ok (.iconst 0, 1) := by decide +kernel
theorem dL_hangs_118 : decode cL_hangs 118 = .ok (.if_icmp .ne 63, 3) := by decide +kernel
theorem dL_hangs_121 : decode cL_hangs 121 = .ok (.iload 11, 2) := by decide +kernel
theorem dL_hangs_123 : decode cL_hangs 123 = .ok (.ifCond .ne 7, 3) := by decide +kernel
theorem dL_hangs_126 : decode cL_hangs 126 = .ok (.iconst 1, 1) := by decide +kernel
theorem dL_hangs_127 : decode cL_hangs 127 = .ok (.goto 4, 3) := by decide +kernel
theorem dL_hangs_130 : decode cL_hangs 130 = .ok (.iconst 0, 1) := by decide +kernel
theorem dL_hangs_131 : decode cL_hangs 131 = .ok (.iload 5, 2) := by decide +kernel
theorem dL_hangs_133 : decode cL_hangs 133 = .ok (.ifCond .ne 7, 3) := by decide +kernel
theorem dL_hangs_136 : decode cL_hangs 136 = .ok (.iconst 1, 1) := by decide +kernel
theorem dL_hangs_137 : decode cL_hangs 137 = .ok (.goto 4, 3) := by decide +kernel
theorem dL_hangs_140 : decode cL_hangs 140 = .ok (.iconst 0, 1) := by decide +kernel
theorem dL_hangs_141 : decode cL_hangs 141 = .ok (.if_icmp .ne 40, 3) := by decide +kernel
theorem dL_hangs_144 : decode cL_hangs 144 = .ok (.iload 5, 2) := by decide +kernel
theorem dL_hangs_146 : decode cL_hangs 146 = .ok (.ifCond .ne 9, 3) := by decide +kernel
theorem dL_hangs_149 : decode cL_hangs 149 = .ok (.iload 12, 2) := by decide +kernel
theorem dL_hangs_151 : decode cL_hangs 151 = .ok (.iconst (-1), 1) := by decide +kernel
theorem dL_hangs_152 : decode cL_hangs 152 = .ok (.if_icmp .ne 29, 3) := by decide +kernel
theorem dL_hangs_155 : decode cL_hangs 155 = .ok (.aload_n 0, 1) := by decide +kernel
theorem dL_hangs_156 : decode cL_hangs 156 = .ok (.iload 13, 2) := by decide +kernel
theorem dL_hangs_158 : decode cL_hangs 158 = .ok (.iconst 2, 1) := by decide +kernel
theorem dL_hangs_159 : decode cL_hangs 159 = .ok (.invokevirtual 168, 3) := by decide +kernel
theorem dL_hangs_162 : decode cL_hangs 162 = .ok (.iload 6, 2) := by decide +kernel
theorem dL_hangs_164 : decode cL_hangs 164 = .ok (.if_icmp .gt 17, 3) := by decide +kernel
theorem dL_hangs_167 : decode cL_hangs 167 = .ok (.iload 8, 2) := by decide +kernel
theorem dL_hangs_169 : decode cL_hangs 169 = .ok (.iload 7, 2) := by decide +kernel
theorem dL_hangs_171 : decode cL_hangs 171 = .ok (.if_icmp .gt 10, 3) := by decide +kernel
theorem dL_hangs_174 : decode cL_hangs 174 = .ok (.iload 9, 2) := by decide +kernel
theorem dL_hangs_176 : decode cL_hangs 176 = .ok (.iload 7, 2) := by decide +kernel
theorem dL_hangs_178 : decode cL_hangs 178 = .ok (.if_icmp .le 5, 3) := by decide +kernel
theorem dL_hangs_181 : decode cL_hangs 181 = .ok (.iconst 0, 1) := by decide +kernel
theorem dL_hangs_182 : decode cL_hangs 182 = .ok (.ireturn, 1) := by decide +kernel
theorem dL_hangs_183 : decode cL_hangs 183 = .ok (.aload_n 0, 1) := by decide +kernel
theorem dL_hangs_184 : decode cL_hangs 184 = .ok (.iconst 0, 1) := by decide +kernel
theorem dL_hangs_185 : decode cL_hangs 185 = .ok (.invokevirtual 186, 3) := by decide +kernel
theorem dL_hangs_188 : decode cL_hangs 188 = .ok (.pop, 1) := by decide +kernel
theorem dL_hangs_189 : decode cL_hangs 189 = .ok (.aload_n 0, 1) := by decide +kernel
theorem dL_hangs_190 : decode cL_hangs 190 = .ok (.bipush 12, 2) := by decide +kernel
theorem dL_hangs_192 : decode cL_hangs 192 = .ok (.invokevirtual 76, 3) := by decide +kernel
theorem dL_hangs_195 : decode cL_hangs 195 = .ok (.istore 15, 2) := by decide +kernel
theorem dL_hangs_197 : decode cL_hangs 197 = .ok (.aload_n 0, 1) := by decide +kernel
theorem dL_hangs_198 : decode cL_hangs 198 = .ok (.bipush 13, 2) := by decide +kernel
theorem dL_hangs_200 : decode cL_hangs 200 = .ok (.invokevirtual 76, 3) := by decide +kernel
theorem dL_hangs_203 : decode cL_hangs 203 = .ok (.istore 16, 2) := by decide +kernel
theorem dL_hangs_205 : decode cL_hangs 205 = .ok (.aload_n 0, 1) := by decide +kernel
theorem dL_hangs_206 : decode cL_hangs 206 = .ok (.bipush 11, 2) := by decide +kernel
theorem dL_hangs_208 : decode cL_hangs 208 = .ok (.invokevirtual 76, 3) := by decide +kernel
theorem dL_hangs_211 : decode cL_hangs 211 = .ok (.istore 17, 2) := by decide +kernel
theorem dL_hangs_213 : decode cL_hangs 213 = .ok (.aload_n 0, 1) := by decide +kernel
theorem dL_hangs_214 : decode cL_hangs 214 = .ok (.iload_n 1, 1) := by decide +kernel
theorem dL_hangs_215 : decode cL_hangs 215 = .ok (.invokevirtual 79, 3) := by decide +kernel
theorem dL_hangs_218 : decode cL_hangs 218 = .ok (.iload 6, 2) := by decide +kernel
theorem dL_hangs_220 : decode cL_hangs 220 = .ok (.if_icmp .ne 97, 3) := by decide +kernel
theorem dL_hangs_223 : decode cL_hangs 223 = .ok (.aload_n 0, 1) := by decide +kernel
theorem dL_hangs_224 : decode cL_hangs 224 = .ok (.bipush 8, 2) := by decide +kernel
theorem dL_hangs_226 : decode cL_hangs 226 = .ok (.invokevirtual 76, 3) := by decide +kernel
theorem dL_hangs_229 : decode cL_hangs 229 = .ok (.iload_n 1, 1) := by decide +kernel
theorem dL_hangs_230 : decode cL_hangs 230 = .ok (.if_icmp .ne 87, 3) := by decide +kernel
theorem dL_hangs_233 : decode cL_hangs 233 = .ok (.aload_n 0, 1) := by decide +kernel
theorem dL_hangs_234 : decode cL_hangs 234 = .ok (.bipush 9, 2) := by decide +kernel
theorem dL_hangs_236 : decode cL_hangs 236 = .ok (.invokevirtual 76, 3) := by decide +kernel
theorem dL_hangs_239 : decode cL_hangs 239 = .ok (.iload 7, 2) := by decide +kernel
theorem dL_hangs_241 : decode cL_hangs 241 = .ok (.if_icmp .ne 76, 3) := by decide +kernel
theorem dL_hangs_244 : decode cL_hangs 244 = .ok (.aload_n 0, 1) := by decide +kernel
theorem dL_hangs_245 : decode cL_hangs 245 = .ok (.bipush 12, 2) := by decide +kernel
theorem dL_hangs_247 : decode cL_hangs 247 = .ok (.invokevirtual 76, 3) := by decide +kernel
theorem dL_hangs_250 : decode cL_hangs 250 = .ok (.iload 15, 2) := by decide +kernel
theorem dL_hangs_252 : decode cL_hangs 252 = .ok (.iload 4, 2) := by decide +kernel
theorem dL_hangs_254 : decode cL_hangs 254 = .ok (.iadd, 1) := by decide +kernel
theorem dL_hangs_255 : decode cL_hangs 255 = .ok (.if_icmp .ne 62, 3) := by decide +kernel
theorem dL_hangs_258 : decode cL_hangs 258 = .ok (.aload_n 0, 1) := by decide +kernel
theorem dL_hangs_259 : decode cL_hangs 259 = .ok (.bipush 13, 2) := by decide +kernel
theorem dL_hangs_261 : decode cL_hangs 261 = .ok (.invokevirtual 76, 3) := by decide +kernel
theorem dL_hangs_264 : decode cL_hangs 264 = .ok (.iload 16, 2) := by decide +kernel
theorem dL_hangs_266 : decode cL_hangs 266 = .ok (.iload 5, 2) := by decide +kernel
theorem dL_hangs_268 : decode cL_hangs 268 = .ok (.iadd, 1) := by decide +kernel
theorem dL_hangs_269 : decode cL_hangs 269 = .ok (.if_icmp .ne 48, 3) := by decide +kernel
theorem dL_hangs_272 : decode cL_hangs 272 = .ok (.aload_n 0, 1) := by decide +kernel
theorem dL_hangs_273 : decode cL_hangs 273 = .ok (.bipush 11, 2) := by decide +kernel
theorem dL_hangs_275 : decode cL_hangs 275 = .ok (.invokevirtual 76, 3) := by decide +kernel
theorem dL_hangs_278 : decode cL_hangs 278 = .ok (.iload 17, 2) := by decide +kernel
theorem dL_hangs_280 : decode cL_hangs 280 = .ok (.iload 6, 2) := by decide +kernel
theorem dL_hangs_282 : decode cL_hangs 282 = .ok (.iadd, 1) := by decide +kernel
theorem dL_hangs_283 : decode cL_hangs 283 = .ok (.if_icmp .ne 34, 3) := by decide +kernel
theorem dL_hangs_286 : decode cL_hangs 286 = .ok (.aload_n 0, 1) := by decide +kernel
theorem dL_hangs_287 : decode cL_hangs 287 = .ok (.invokevirtual 161, 3) := by decide +kernel
theorem dL_hangs_290 : decode cL_hangs 290 = .ok (.ifCond .ne 27, 3) := by decide +kernel
theorem dL_hangs_293 : decode cL_hangs 293 = .ok (.aload_n 0, 1) := by decide +kernel
theorem dL_hangs_294 : decode cL_hangs 294 = .ok (.invokevirtual 189, 3) := by decide +kernel
theorem dL_hangs_297 : decode cL_hangs 297 = .ok (.iload 7, 2) := by decide +kernel
theorem dL_hangs_299 : decode cL_hangs 299 = .ok (.ifCond .ne 7, 3) := by decide +kernel
theorem dL_hangs_302 : decode cL_hangs 302 = .ok (.fconst 0, 1) := by decide +kernel
theorem dL_hangs_303 : decode cL_hangs 303 = .ok (.goto 10, 3) := by decide +kernel
theorem dL_hangs_306 : decode cL_hangs 306 = .ok (.iload 8, 2) := by decide +kernel
theorem dL_hangs_308 : decode cL_hangs 308 = .ok (.i2f, 1) := by decide +kernel
theorem dL_hangs_309 : decode cL_hangs 309 = .ok (.iload 7, 2) := by decide +kernel
theorem dL_hangs_311 : decode cL_hangs 311 = .ok (.i2f, 1) := by decide +kernel
theorem dL_hangs_312 : decode cL_hangs 312 = .ok (.fdiv, 1) := by decide +kernel
theorem dL_hangs_313 : decode cL_hangs 313 = .ok (.fcmp .l, 1) := by decide +kernel
theorem dL_hangs_314 : decode cL_hangs 314 = .ok (.ifCond .eq 5, 3) := by decide +kernel
theorem dL_hangs_317 : decode cL_hangs 317 = .ok (.iconst 0, 1) := by decide +kernel
theorem dL_hangs_318 : decode cL_hangs 318 = .ok (.ireturn, 1) := by decide +kernel
theorem dL_hangs_319 : decode cL_hangs 319 = .ok (.iload 10, 2) := by decide +kernel
theorem dL_hangs_321 : decode cL_hangs 321 = .ok (.ifCond .lt 21, 3) := by decide +kernel
theorem dL_hangs_324 : decode cL_hangs 324 = .ok (.aload_n 0, 1) := by decide +kernel
theorem dL_hangs_325 : decode cL_hangs 325 = .ok (.iload 10, 2) := by decide +kernel
theorem dL_hangs_327 : decode cL_hangs 327 = .ok (.bipush 100, 2) := by decide +kernel
theorem dL_hangs_329 : decode cL_hangs 329 = .ok (.idiv, 1) := by decide +kernel
theorem dL_hangs_330 : decode cL_hangs 330 = .ok (.iload 10, 2) := by decide +kernel
theorem dL_hangs_332 : decode cL_hangs 332 = .ok (.bipush 100, 2) := by decide +kernel
theorem dL_hangs_334 : decode cL_hangs 334 = .ok (.irem, 1) := by decide +kernel
theorem dL_hangs_335 : decode cL_hangs 335 = .ok (.invokevirtual 139, 3) := by decide +kernel
theorem dL_hangs_338 : decode cL_hangs 338 = .ok (.iconst (-1), 1) := by decide +kernel
theorem dL_hangs_339 : decode cL_hangs 339 = .ok (.if_icmp .ne 12, 3) := by decide +kernel
theorem dL_hangs_342 : decode cL_hangs 342 = .ok (.aload_n 0, 1) := by decide +kernel
theorem dL_hangs_343 : decode cL_hangs 343 = .ok (.iload_n 1, 1) := by decide +kernel
theorem dL_hangs_344 : decode cL_hangs 344 = .ok (.iconst 2, 1) := by decide +kernel
theorem dL_hangs_345 : decode cL_hangs 345 = .ok (.invokevirtual 168, 3) := by decide +kernel
theorem dL_hangs_348 : decode cL_hangs 348 = .ok (.ifCond .eq 5, 3) := by decide +kernel
theorem dL_hangs_351 : decode cL_hangs 351 = .ok (.iconst 0, 1) := by decide +kernel
theorem dL_hangs_352 : decode cL_hangs 352 = .ok (.ireturn, 1) := by decide +kernel
theorem dL_hangs_353 : decode cL_hangs 353 = .ok (.iconst 0, 1) := by decide +kernel
theorem dL_hangs_354 : decode cL_hangs 354 = .ok (.istore 18, 2) := by decide +kernel
theorem dL_hangs_356 : decode cL_hangs 356 = .ok (.iload 18, 2) := by decide +kernel
theorem dL_hangs_358 : decode cL_hangs 358 = .ok (.aload_n 0, 1) := by decide +kernel
theorem dL_hangs_359 : decode cL_hangs 359 = .ok (.iconst 0, 1) := by decide +kernel
theorem dL_hangs_360 : decode cL_hangs 360 = .ok (.invokevirtual 76, 3) := by decide +kernel
theorem dL_hangs_363 : decode cL_hangs 363 = .ok (.if_icmp .ge 100, 3) := by decide +kernel
theorem dL_hangs_366 : decode cL_hangs 366 = .ok (.iconst 0, 1) := by decide +kernel
theorem dL_hangs_367 : decode cL_hangs 367 = .ok (.istore 19, 2) := by decide +kernel
theorem dL_hangs_369 : decode cL_hangs 369 = .ok (.iload 19, 2) := by decide +kernel
theorem dL_hangs_371 : decode cL_hangs 371 = .ok (.aload_n 0, 1) := by decide +kernel
theorem dL_hangs_372 : decode cL_hangs 372 = .ok (.iload 18, 2) := by decide +kernel
theorem dL_hangs_374 : decode cL_hangs 374 = .ok (.invokevirtual 136, 3) := by decide +kernel
theorem dL_hangs_377 : decode cL_hangs 377 = .ok (.if_icmp .ge 80, 3) := by decide +kernel
theorem dL_hangs_380 : decode cL_hangs 380 = .ok (.iconst 0, 1) := by decide +kernel
theorem dL_hangs_381 : decode cL_hangs 381 = .ok (.istore 20, 2) := by decide +kernel
theorem dL_hangs_383 : decode cL_hangs 383 = .ok (.iload 20, 2) := by decide +kernel
theorem dL_hangs_385 : decode cL_hangs 385 = .ok (.iconst 3, 1) := by decide +kernel
theorem dL_hangs_386 : decode cL_hangs 386 = .ok (.if_icmp .ge 65, 3) := by decide +kernel
theorem dL_hangs_389 : decode cL_hangs 389 = .ok (.aload_n 0, 1) := by decide +kernel
theorem dL_hangs_390 : decode cL_hangs 390 = .ok (.iload 18, 2) := by decide +kernel
theorem dL_hangs_392 : decode cL_hangs 392 = .ok (.iload 19, 2) := by decide +kernel
theorem dL_hangs_394 : decode cL_hangs 394 = .ok (.iload 20, 2) := by decide +kernel
theorem dL_hangs_396 : decode cL_hangs 396 = .ok (.iconst 0, 1) := by decide +kernel
theorem dL_hangs_397 : decode cL_hangs 397 = .ok (.invokevirtual 142, 3) := by decide +kernel
theorem dL_hangs_400 : decode cL_hangs 400 = .ok (.ifCond .lt 45, 3) := by decide +kernel
theorem dL_hangs_403 : decode cL_hangs 403 = .ok (.aload_n 0, 1) := by decide +kernel
theorem dL_hangs_404 : decode cL_hangs 404 = .ok (.aload_n 0, 1) := by decide +kernel
theorem dL_hangs_405 : decode cL_hangs 405 = .ok (.iload 18, 2) := by decide +kernel
theorem dL_hangs_407 : decode cL_hangs 407 = .ok (.iload 19, 2) := by decide +kernel
theorem dL_hangs_409 : decode cL_hangs 409 = .ok (.iload 20, 2) := by decide +kernel
theorem dL_hangs_411 : decode cL_hangs 411 = .ok (.iconst 1, 1) := by decide +kernel
theorem dL_hangs_412 : decode cL_hangs 412 = .ok (.invokevirtual 142, 3) := by decide +kernel
theorem dL_hangs_415 : decode cL_hangs 415 = .ok (.aload_n 0, 1) := by decide +kernel
theorem dL_hangs_416 : decode cL_hangs 416 = .ok (.iload 18, 2) := by decide +kernel
theorem dL_hangs_418 : decode cL_hangs 418 = .ok (.iload 19, 2) := by decide +kernel
theorem dL_hangs_420 : decode cL_hangs 420 = .ok (.iload 20, 2) := by decide +kernel
theorem dL_hangs_422 : decode cL_hangs 422 = .ok (.iconst 0, 1) := by decide +kernel
theorem dL_hangs_423 : decode cL_hangs 423 = .ok (.invokevirtual 142, 3) := by decide +kernel
theorem dL_hangs_426 : decode cL_hangs 426 = .ok (.invokevirtual 193, 3) := by decide +kernel
theorem dL_hangs_429 : decode cL_hangs 429 = .ok (.aload_n 0, 1) := by decide +kernel
theorem dL_hangs_430 : decode cL_hangs 430 = .ok (.iload 18, 2) := by decide +kernel
theorem dL_hangs_432 : decode cL_hangs 432 = .ok (.iload 19, 2) := by decide +kernel
theorem dL_hangs_434 : decode cL_hangs 434 = .ok (.iload 20, 2) := by decide +kernel
theorem dL_hangs_436 : decode cL_hangs 436 = .ok (.iconst 2, 1) := by decide +kernel
theorem dL_hangs_437 : decode cL_hangs 437 = .ok (.invokevirtual 142, 3) := by decide +kernel
theorem dL_hangs_440 : decode cL_hangs 440 = .ok (.if_icmp .eq 5, 3) := by decide +kernel
theorem dL_hangs_443 : decode cL_hangs 443 = .ok (.iconst 0, 1) := by decide +kernel
theorem dL_hangs_444 : decode cL_hangs 444 = .ok (.ireturn, 1) := by decide +kernel
theorem dL_hangs_445 : decode cL_hangs 445 = .ok (.iinc 20 1, 3) := by decide +kernel
theorem dL_hangs_448 : decode cL_hangs 448 = .ok (.goto (-65), 3) := by decide +kernel
theorem dL_hangs_451 : decode cL_hangs 451 = .ok (.iinc 19 1, 3) := by decide +kernel
theorem dL_hangs_454 : decode cL_hangs 454 = .ok (.goto (-85), 3) := by decide +kernel
theorem dL_hangs_457 : decode cL_hangs 457 = .ok (.iinc 18 1, 3) := by decide +kernel
theorem dL_hangs_460 : decode cL_hangs 460 = .ok (.goto (-104), 3) := by decide +kernel
theorem dL_hangs_463 : decode cL_hangs 463 = .ok (.aload_n 0, 1) := by decide +kernel
theorem dL_hangs_464 : decode cL_hangs 464 = .ok (.iconst 0, 1) := by decide +kernel
theorem dL_hangs_465 : decode cL_hangs 465 = .ok (.invokevirtual 79, 3) := by decide +kernel
theorem dL_hangs_468 : decode cL_hangs 468 = .ok (.iload 14, 2) := by decide +kernel
theorem dL_hangs_470 : decode cL_hangs 470 = .ok (.if_icmp .eq 5, 3) := by decide +kernel
theorem dL_hangs_473 : decode cL_hangs 473 = .ok (.iconst 0, 1) := by decide +kernel
theorem dL_hangs_474 : decode cL_hangs 474 = .ok (.ireturn, 1) := by decide +kernel
theorem dL_hangs_475 : decode cL_hangs 475 = .ok (.aload_n 0, 1) := by decide +kernel
theorem dL_hangs_476 : decode cL_hangs 476 = .ok (.iconst 0, 1) := by decide +kernel
theorem dL_hangs_477 : decode cL_hangs 477 = .ok (.invokevirtual 196, 3) := by decide +kernel
theorem dL_hangs_480 : decode cL_hangs 480 = .ok (.pop, 1) := by decide +kernel
theorem dL_hangs_481 : decode cL_hangs 481 = .ok (.aload_n 0, 1) := by decide +kernel
theorem dL_hangs_482 : decode cL_hangs 482 = .ok (.invokevirtual 199, 3) := by decide +kernel
theorem dL_hangs_485 : decode cL_hangs 485 = .ok (.istore 18, 2) := by decide +kernel
theorem dL_hangs_487 : decode cL_hangs 487 = .ok (.aload_n 0, 1) := by decide +kernel
theorem dL_hangs_488 : decode cL_hangs 488 = .ok (.bipush 10, 2) := by decide +kernel
theorem dL_hangs_490 : decode cL_hangs 490 = .ok (.invokevirtual 76, 3) := by decide +kernel
theorem dL_hangs_493 : decode cL_hangs 493 = .ok (.istore 19, 2) := by decide +kernel
theorem dL_hangs_495 : decode cL_hangs 495 = .ok (.aload_n 0, 1) := by decide +kernel
theorem dL_hangs_496 : decode cL_hangs 496 = .ok (.bipush 9, 2) := by decide +kernel
theorem dL_hangs_498 : decode cL_hangs 498 = .ok (.invokevirtual 76, 3) := by decide +kernel
theorem dL_hangs_501 : decode cL_hangs 501 = .ok (.istore 20, 2) := by decide +kernel
theorem dL_hangs_503 : decode cL_hangs 503 = .ok (.aload_n 0, 1) := by decide +kernel
theorem dL_hangs_504 : decode cL_hangs 504 = .ok (.bipush 8, 2) := by decide +kernel
theorem dL_hangs_506 : decode cL_hangs 506 = .ok (.invokevirtual 76, 3) := by decide +kernel
theorem dL_hangs_509 : decode cL_hangs 509 = .ok (.ifCond .lt 7, 3) := by decide +kernel
theorem dL_hangs_512 : decode cL_hangs 512 = .ok (.iconst 1, 1) := by decide +kernel
theorem dL_hangs_513 : decode cL_hangs 513 = .ok (.goto 4, 3) := by decide +kernel
theorem dL_hangs_516 : decode cL_hangs 516 = .ok (.iconst 0, 1) := by decide +kernel
theorem dL_hangs_517 : decode cL_hangs 517 = .ok (.istore 21, 2) := by decide +kernel
theorem dL_hangs_519 : decode cL_hangs 519 = .ok (.aload_n 0, 1) := by decide +kernel
theorem dL_hangs_520 : decode cL_hangs 520 = .ok (.invokevirtual 82, 3) := by decide +kernel
theorem dL_hangs_523 : decode cL_hangs 523 = .ok (.iload 21, 2) := by decide +kernel
theorem dL_hangs_525 : decode cL_hangs 525 = .ok (.ifCond .eq 8, 3) := by decide +kernel
theorem dL_hangs_528 : decode cL_hangs 528 = .ok (.iload 18, 2) := by decide +kernel
theorem dL_hangs_530 : decode cL_hangs 530 = .ok (.goto 5, 3) := by decide +kernel
theorem dL_hangs_533 : decode cL_hangs 533 = .ok (.bipush (-3), 2) := by decide +kernel
theorem dL_hangs_535 : decode cL_hangs 535 = .ok (.if_icmp .ne 35, 3) := by decide +kernel
theorem dL_hangs_538 : decode cL_hangs 538 = .ok (.iload 21, 2) := by decide +kernel
theorem dL_hangs_540 : decode cL_hangs 540 = .ok (.ifCond .eq 32, 3) := by decide +kernel
theorem dL_hangs_543 : decode cL_hangs 543 = .ok (.aload_n 0, 1) := by decide +kernel
theorem dL_hangs_544 : decode cL_hangs 544 = .ok (.bipush 10, 2) := by decide +kernel
theorem dL_hangs_546 : decode cL_hangs 546 = .ok (.invokevirtual 76, 3) := by decide +kernel
theorem dL_hangs_549 : decode cL_hangs 549 = .ok (.iload 19, 2) := by decide +kernel
theorem dL_hangs_551 : decode cL_hangs 551 = .ok (.iconst 1, 1) := by decide +kernel
theorem dL_hangs_552 : decode cL_hangs 552 = .ok (.iadd, 1) := by decide +kernel
theorem dL_hangs_553 : decode cL_hangs 553 = .ok (.if_icmp .ne 17, 3) := by decide +kernel
theorem dL_hangs_556 : decode cL_hangs 556 = .ok (.aload_n 0, 1) := by decide +kernel
theorem dL_hangs_557 : decode cL_hangs 557 = .ok (.bipush 9, 2) := by decide +kernel
theorem dL_hangs_559 : decode cL_hangs 559 = .ok (.invokevirtual 76, 3) := by decide +kernel
theorem dL_hangs_562 : decode cL_hangs 562 = .ok (.iload 20, 2) := by decide +kernel
theorem dL_hangs_564 : decode cL_hangs 564 = .ok (.iload 18, 2) := by decide +kernel
theorem dL_hangs_566 : decode cL_hangs 566 = .ok (.isub, 1) := by decide +kernel
theorem dL_hangs_567 : decode cL_hangs 567 = .ok (.if_icmp .eq 5, 3) := by decide +kernel
theorem dL_hangs_570 : decode cL_hangs 570 = .ok (.iconst 0, 1) := by decide +kernel
theorem dL_hangs_571 : decode cL_hangs 571 = .ok (.ireturn, 1) := by decide +kernel
theorem dL_hangs_572 : decode cL_hangs 572 = .ok (.aload_n 0, 1) := by decide +kernel
theorem dL_hangs_573 : decode cL_hangs 573 = .ok (.iconst 0, 1) := by decide +kernel
theorem dL_hangs_574 : decode cL_hangs 574 = .ok (.invokevirtual 196, 3) := by decide +kernel
theorem dL_hangs_577 : decode cL_hangs 577 = .ok (.pop, 1) := by decide +kernel
theorem dL_hangs_578 : decode cL_hangs 578 = .ok (.aload_n 0, 1) := by decide +kernel
theorem dL_hangs_579 : decode cL_hangs 579 = .ok (.invokestatic 164, 3) := by decide +kernel
theorem dL_hangs_582 : decode cL_hangs 582 = .ok (.lload_n 2, 1) := by decide +kernel
theorem dL_hangs_583 : decode cL_hangs 583 = .ok (.lcmp, 1) := by decide +kernel
theorem dL_hangs_584 : decode cL_hangs 584 = .ok (.ifCond .ne 7, 3) := by decide +kernel
theorem dL_hangs_587 : decode cL_hangs 587 = .ok (.iconst 1, 1) := by decide +kernel
theorem dL_hangs_588 : decode cL_hangs 588 = .ok (.goto 4, 3) := by decide +kernel
theorem dL_hangs_591 : decode cL_hangs 591 = .ok (.iconst 0, 1) := by decide +kernel
theorem dL_hangs_592 : decode cL_hangs 592 = .ok (.ireturn, 1) := by decide +kernel
theorem dL_law_0 : decode cL_law 0 = .ok (.new 25, 3) := by decide +kernel
theorem dL_law_3 : decode cL_law 3 = .ok (.dup, 1) := by decide +kernel
theorem dL_law_4 : decode cL_law 4 = .ok (.invokespecial 202, 3) := by decide +kernel
theorem dL_law_7 : decode cL_law 7 = .ok (.astore_n 1, 1) := by decide +kernel
theorem dL_law_8 : decode cL_law 8 = .ok (.aload_n 1, 1) := by decide +kernel
theorem dL_law_9 : decode cL_law 9 = .ok (.aload_n 0, 1) := by decide +kernel
theorem dL_law_10 : decode cL_law 10 = .ok (.invokestatic 203, 3) := by decide +kernel
theorem dL_law_13 : decode cL_law 13 = .ok (.invokestatic 207, 3) := by decide +kernel
theorem dL_law_16 : decode cL_law 16 = .ok (.iconst 2, 1) := by decide +kernel
theorem dL_law_17 : decode cL_law 17 = .ok (.if_icmp .eq 5, 3) := by decide +kernel
theorem dL_law_20 : decode cL_law 20 = .ok (.iconst 0, 1) := by decide +kernel
theorem dL_law_21 : decode cL_law 21 = .ok (.ireturn, 1) := by decide +kernel
theorem dL_law_22 : decode cL_law 22 = .ok (.iconst 0, 1) := by decide +kernel
theorem dL_law_23 : decode cL_law 23 = .ok (.istore_n 2, 1) := by decide +kernel
theorem dL_law_24 : decode cL_law 24 = .ok (.iload_n 2, 1) := by decide +kernel
theorem dL_law_25 : decode cL_law 25 = .ok (.bipush 12, 2) := by decide +kernel
theorem dL_law_27 : decode cL_law 27 = .ok (.if_icmp .ge 20, 3) := by decide +kernel
theorem dL_law_30 : decode cL_law 30 = .ok (.aload_n 1, 1) := by decide +kernel
theorem dL_law_31 : decode cL_law 31 = .ok (.aload_n 0, 1) := by decide +kernel
theorem dL_law_32 : decode cL_law 32 = .ok (.bipush 35, 2) := by decide +kernel
theorem dL_law_34 : decode cL_law 34 = .ok (.iconst 3, 1) := by decide +kernel
theorem dL_law_35 : decode cL_law 35 = .ok (.iload_n 2, 1) := by decide +kernel
theorem dL_law_36 : decode cL_law 36 = .ok (.imul, 1) := by decide +kernel
theorem dL_law_37 : decode cL_law 37 = .ok (.iadd, 1) := by decide +kernel
theorem dL_law_38 : decode cL_law 38 = .ok (.invokestatic 210, 3) := by decide +kernel
theorem dL_law_41 : decode cL_law 41 = .ok (.iinc 2 1, 3) := by decide +kernel
theorem dL_law_44 : decode cL_law 44 = .ok (.goto (-20), 3) := by decide +kernel
theorem dL_law_47 : decode cL_law 47 = .ok (.aload_n 1, 1) := by decide +kernel
theorem dL_law_48 : decode cL_law 48 = .ok (.aload_n 0, 1) := by decide +kernel
theorem dL_law_49 : decode cL_law 49 = .ok (.invokestatic 214, 3) := by decide +kernel
theorem dL_law_52 : decode cL_law 52 = .ok (.ifCond .eq 27, 3) := by decide +kernel
theorem dL_law_55 : decode cL_law 55 = .ok (.aload_n 1, 1) := by decide +kernel
theorem dL_law_56 : decode cL_law 56 = .ok (.aload_n 0, 1) := by decide +kernel
theorem dL_law_57 : decode cL_law 57 = .ok (.bipush 71, 2) := by decide +kernel
theorem dL_law_59 : decode cL_law 59 = .ok (.invokestatic 40, 3) := by decide +kernel
theorem dL_law_62 : decode cL_law 62 = .ok (.aload_n 1, 1) := by decide +kernel
theorem dL_law_63 : decode cL_law 63 = .ok (.bipush 6, 2) := by decide +kernel
theorem dL_law_65 : decode cL_law 65 = .ok (.invokevirtual 76, 3) := by decide +kernel
theorem dL_law_68 : decode cL_law 68 = .ok (.irem, 1) := by decide +kernel
theorem dL_law_69 : decode cL_law 69 = .ok (.invokestatic 218, 3) := by decide +kernel
theorem dL_law_72 : decode cL_law 72 = .ok (.ifCond .eq 7, 3) := by decide +kernel
theorem dL_law_75 : decode cL_law 75 = .ok (.iconst 1, 1) := by decide +kernel
theorem dL_law_76 : decode cL_law 76 = .ok (.goto 4, 3) := by decide +kernel
theorem dL_law_79 : decode cL_law 79 = .ok (.iconst 0, 1) := by decide +kernel
theorem dL_law_80 : decode cL_law 80 = .ok (.ireturn, 1) := by decide +kernel
