theorem dX12_hasIt_26 : decode cX12_hasIt 26 = .ok (.iconst 2, 1) := by decide +kernel
theorem dX12_hasIt_27 : decode cX12_hasIt 27 = .ok (.if_icmp .eq 5, 3) := by decide +kernel
theorem dX12_hasIt_30 : decode cX12_hasIt 30 = .ok (.iconst 1, 1) := by decide +kernel
theorem dX12_hasIt_31 : decode cX12_hasIt 31 = .ok (.ireturn, 1) := by decide +kernel
theorem dX12_hasIt_32 : decode cX12_hasIt 32 = .ok (.aload_n 0, 1) := by decide +kernel
theorem dX12_hasIt_33 : decode cX12_hasIt 33 = .ok (.iload_n 2, 1) := by decide +kernel
theorem dX12_hasIt_34 : decode cX12_hasIt 34 = .ok (.aload_n 0, 1) := by decide +kernel
theorem dX12_hasIt_35 : decode cX12_hasIt 35 = .ok (.getfield 202, 3) := by decide +kernel
theorem dX12_hasIt_38 : decode cX12_hasIt 38 = .ok (.iload_n 3, 1) := by decide +kernel
theorem dX12_hasIt_39 : decode cX12_hasIt 39 = .ok (.laload, 1) := by decide +kernel
theorem dX12_hasIt_40 : decode cX12_hasIt 40 = .ok (.invokevirtual 438, 3) := by decide +kernel
theorem dX12_hasIt_43 : decode cX12_hasIt 43 = .ok (.istore 4, 2) := by decide +kernel
theorem dX12_hasIt_45 : decode cX12_hasIt 45 = .ok (.iload 4, 2) := by decide +kernel
theorem dX12_hasIt_47 : decode cX12_hasIt 47 = .ok (.ifCond .lt 27, 3) := by decide +kernel
theorem dX12_hasIt_50 : decode cX12_hasIt 50 = .ok (.aload_n 0, 1) := by decide +kernel
theorem dX12_hasIt_51 : decode cX12_hasIt 51 = .ok (.getfield 208, 3) := by decide +kernel
theorem dX12_hasIt_54 : decode cX12_hasIt 54 = .ok (.iload_n 3, 1) := by decide +kernel
theorem dX12_hasIt_55 : decode cX12_hasIt 55 = .ok (.iaload, 1) := by decide +kernel
theorem dX12_hasIt_56 : decode cX12_hasIt 56 = .ok (.iconst 1, 1) := by decide +kernel
theorem dX12_hasIt_57 : decode cX12_hasIt 57 = .ok (.if_icmp .eq 13, 3) := by decide +kernel
theorem dX12_hasIt_60 : decode cX12_hasIt 60 = .ok (.aload_n 0, 1) := by decide +kernel
theorem dX12_hasIt_61 : decode cX12_hasIt 61 = .ok (.getfield 27, 3) := by decide +kernel
theorem dX12_hasIt_64 : decode cX12_hasIt 64 = .ok (.iload 4, 2) := by decide +kernel
theorem dX12_hasIt_66 : decode cX12_hasIt 66 = .ok (.baload, 1) := by decide +kernel
theorem dX12_hasIt_67 : decode cX12_hasIt 67 = .ok (.ifCond .ne 7, 3) := by decide +kernel
theorem dX12_hasIt_70 : decode cX12_hasIt 70 = .ok (.iconst 1, 1) := by decide +kernel
theorem dX12_hasIt_71 : decode cX12_hasIt 71 = .ok (.goto 4, 3) := by decide +kernel
theorem dX12_hasIt_74 : decode cX12_hasIt 74 = .ok (.iconst 0, 1) := by decide +kernel
theorem dX12_hasIt_75 : decode cX12_hasIt 75 = .ok (.ireturn, 1) := by decide +kernel
theorem dX12_startOf_0 : decode cX12_startOf 0 = .ok (.bipush 12, 2) := by decide +kernel
theorem dX12_startOf_2 : decode cX12_startOf 2 = .ok (.aload_n 0, 1) := by decide +kernel
theorem dX12_startOf_3 : decode cX12_startOf 3 = .ok (.getfield 368, 3) := by decide +kernel
theorem dX12_startOf_6 : decode cX12_startOf 6 = .ok (.imul, 1) := by decide +kernel
theorem dX12_startOf_7 : decode cX12_startOf 7 = .ok (.iload_n 1, 1) := by decide +kernel
theorem dX12_startOf_8 : decode cX12_startOf 8 = .ok (.iadd, 1) := by decide +kernel
theorem dX12_startOf_9 : decode cX12_startOf 9 = .ok (.istore_n 3, 1) := by decide +kernel
theorem dX12_startOf_10 : decode cX12_startOf 10 = .ok (.aload_n 0, 1) := by decide +kernel
theorem dX12_startOf_11 : decode cX12_startOf 11 = .ok (.getfield 208, 3) := by decide +kernel
theorem dX12_startOf_14 : decode cX12_startOf 14 = .ok (.iload_n 3, 1) := by decide +kernel
theorem dX12_startOf_15 : decode cX12_startOf 15 = .ok (.iaload, 1) := by decide +kernel
theorem dX12_startOf_16 : decode cX12_startOf 16 = .ok (.iconst 3, 1) := by decide +kernel
theorem dX12_startOf_17 : decode cX12_startOf 17 = .ok (.if_icmp .ne 10, 3) := by decide +kernel
theorem dX12_startOf_20 : decode cX12_startOf 20 = .ok (.aload_n 0, 1) := by decide +kernel
theorem dX12_startOf_21 : decode cX12_startOf 21 = .ok (.iload_n 1, 1) := by decide +kernel
theorem dX12_startOf_22 : decode cX12_startOf 22 = .ok (.iload_n 2, 1) := by decide +kernel
theorem dX12_startOf_23 : decode cX12_startOf 23 = .ok (.invokevirtual 472, 3) := by decide +kernel
theorem dX12_startOf_26 : decode cX12_startOf 26 = .ok (.ireturn, 1) := by decide +kernel
theorem dX12_startOf_27 : decode cX12_startOf 27 = .ok (.aload_n 0, 1) := by decide +kernel
theorem dX12_startOf_28 : decode cX12_startOf 28 = .ok (.iload_n 1, 1) := by decide +kernel
theorem dX12_startOf_29 : decode cX12_startOf 29 = .ok (.iload_n 2, 1) := by decide +kernel
theorem dX12_startOf_30 : decode cX12_startOf 30 = .ok (.invokevirtual 469, 3) := by decide +kernel
theorem dX12_startOf_33 : decode cX12_startOf 33 = .ok (.ifCond .ne 5, 3) := by decide +kernel
theorem dX12_startOf_36 : decode cX12_startOf 36 = .ok (.iconst (-1), 1) := by decide +kernel
theorem dX12_startOf_37 : decode cX12_startOf 37 = .ok (.ireturn, 1) := by decide +kernel
theorem dX12_startOf_38 : decode cX12_startOf 38 = .ok (.aload_n 0, 1) := by decide +kernel
theorem dX12_startOf_39 : decode cX12_startOf 39 = .ok (.getfield 87, 3) := by decide +kernel
theorem dX12_startOf_42 : decode cX12_startOf 42 = .ok (.sipush 4000, 3) := by decide +kernel
theorem dX12_startOf_45 : decode cX12_startOf 45 = .ok (.iload_n 1, 1) := by decide +kernel
theorem dX12_startOf_46 : decode cX12_startOf 46 = .ok (.imul, 1) := by decide +kernel
theorem dX12_startOf_47 : decode cX12_startOf 47 = .ok (.iload_n 2, 1) := by decide +kernel
theorem dX12_startOf_48 : decode cX12_startOf 48 = .ok (.iadd, 1) := by decide +kernel
theorem dX12_startOf_49 : decode cX12_startOf 49 = .ok (.saload, 1) := by decide +kernel
theorem dX12_startOf_50 : decode cX12_startOf 50 = .ok (.istore 4, 2) := by decide +kernel
theorem dX12_startOf_52 : decode cX12_startOf 52 = .ok (.lconst 0, 1) := by decide +kernel
theorem dX12_startOf_53 : decode cX12_startOf 53 = .ok (.lstore 5, 2) := by decide +kernel
theorem dX12_startOf_55 : decode cX12_startOf 55 = .ok (.iconst (-1), 1) := by decide +kernel
theorem dX12_startOf_56 : decode cX12_startOf 56 = .ok (.istore 7, 2) := by decide +kernel
theorem dX12_startOf_58 : decode cX12_startOf 58 = .ok (.iconst (-1), 1) := by decide +kernel
theorem dX12_startOf_59 : decode cX12_startOf 59 = .ok (.istore 8, 2) := by decide +kernel
theorem dX12_startOf_61 : decode cX12_startOf 61 = .ok (.iload_n 2, 1) := by decide +kernel
theorem dX12_startOf_62 : decode cX12_startOf 62 = .ok (.istore 9, 2) := by decide +kernel
theorem dX12_startOf_64 : decode cX12_startOf 64 = .ok (.iload 9, 2) := by decide +kernel
theorem dX12_startOf_66 : decode cX12_startOf 66 = .ok (.ifCond .lt 177, 3) := by decide +kernel
theorem dX12_startOf_69 : decode cX12_startOf 69 = .ok (.aload_n 0, 1) := by decide +kernel
theorem dX12_startOf_70 : decode cX12_startOf 70 = .ok (.getfield 170, 3) := by decide +kernel
theorem dX12_startOf_73 : decode cX12_startOf 73 = .ok (.iload 9, 2) := by decide +kernel
theorem dX12_startOf_75 : decode cX12_startOf 75 = .ok (.iaload, 1) := by decide +kernel
theorem dX12_startOf_76 : decode cX12_startOf 76 = .ok (.i2l, 1) := by decide +kernel
theorem dX12_startOf_77 : decode cX12_startOf 77 = .ok (.aload_n 0, 1) := by decide +kernel
theorem dX12_startOf_78 : decode cX12_startOf 78 = .ok (.getfield 170, 3) := by decide +kernel
theorem dX12_startOf_81 : decode cX12_startOf 81 = .ok (.iload_n 2, 1) := by decide +kernel
theorem dX12_startOf_82 : decode cX12_startOf 82 = .ok (.iaload, 1) := by decide +kernel
theorem dX12_startOf_83 : decode cX12_startOf 83 = .ok (.i2l, 1) := by decide +kernel
theorem dX12_startOf_84 : decode cX12_startOf 84 = .ok (.aload_n 0, 1) := by decide +kernel
theorem dX12_startOf_85 : decode cX12_startOf 85 = .ok (.getfield 226, 3) := by decide +kernel
theorem dX12_startOf_88 : decode cX12_startOf 88 = .ok (.iload_n 3, 1) := by decide +kernel
theorem dX12_startOf_89 : decode cX12_startOf 89 = .ok (.iaload, 1) := by decide +kernel
theorem dX12_startOf_90 : decode cX12_startOf 90 = .ok (.i2l, 1) := by decide +kernel
theorem dX12_startOf_91 : decode cX12_startOf 91 = .ok (.lsub, 1) := by decide +kernel
theorem dX12_startOf_92 : decode cX12_startOf 92 = .ok (.lcmp, 1) := by decide +kernel
theorem dX12_startOf_93 : decode cX12_startOf 93 = .ok (.ifCond .le 150, 3) := by decide +kernel
theorem dX12_startOf_96 : decode cX12_startOf 96 = .ok (.aload_n 0, 1) := by decide +kernel
theorem dX12_startOf_97 : decode cX12_startOf 97 = .ok (.iload_n 1, 1) := by decide +kernel
theorem dX12_startOf_98 : decode cX12_startOf 98 = .ok (.iload 9, 2) := by decide +kernel
theorem dX12_startOf_100 : decode cX12_startOf 100 = .ok (.iload 4, 2) := by decide +kernel
theorem dX12_startOf_102 : decode cX12_startOf 102 = .ok (.invokevirtual 475, 3) := by decide +kernel
theorem dX12_startOf_105 : decode cX12_startOf 105 = .ok (.ifCond .ne 6, 3) := by decide +kernel
theorem dX12_startOf_108 : decode cX12_startOf 108 = .ok (.goto 129, 3) := by decide +kernel
theorem dX12_startOf_111 : decode cX12_startOf 111 = .ok (.iload 9, 2) := by decide +kernel
theorem dX12_startOf_113 : decode cX12_startOf 113 = .ok (.istore 7, 2) := by decide +kernel
theorem dX12_startOf_115 : decode cX12_startOf 115 = .ok (.aload_n 0, 1) := by decide +kernel
theorem dX12_startOf_116 : decode cX12_startOf 116 = .ok (.getfield 208, 3) := by decide +kernel
theorem dX12_startOf_119 : decode cX12_startOf 119 = .ok (.iload_n 3, 1) := by decide +kernel
theorem dX12_startOf_120 : decode cX12_startOf 120 = .ok (.iaload, 1) := by decide +kernel
theorem dX12_startOf_121 : decode cX12_startOf 121 = .ok (.ifCond .ne 7, 3) := by decide +kernel
theorem dX12_startOf_124 : decode cX12_startOf 124 = .ok (.iconst (-1), 1) := by decide +kernel
theorem dX12_startOf_125 : decode cX12_startOf 125 = .ok (.goto 15, 3) := by decide +kernel
theorem dX12_startOf_128 : decode cX12_startOf 128 = .ok (.aload_n 0, 1) := by decide +kernel
theorem dX12_startOf_129 : decode cX12_startOf 129 = .ok (.iload 9, 2) := by decide +kernel
theorem dX12_startOf_131 : decode cX12_startOf 131 = .ok (.aload_n 0, 1) := by decide +kernel
theorem dX12_startOf_132 : decode cX12_startOf 132 = .ok (.getfield 202, 3) := by decide +kernel
theorem dX12_startOf_135 : decode cX12_startOf 135 = .ok (.iload_n 3, 1) := by decide +kernel
theorem dX12_startOf_136 : decode cX12_startOf 136 = .ok (.laload, 1) := by decide +kernel
theorem dX12_startOf_137 : decode cX12_startOf 137 = .ok (.invokevirtual 438, 3) := by decide +kernel
theorem dX12_startOf_140 : decode cX12_startOf 140 = .ok (.istore 10, 2) := by decide +kernel
theorem dX12_startOf_142 : decode cX12_startOf 142 = .ok (.aload_n 0, 1) := by decide +kernel
theorem dX12_startOf_143 : decode cX12_startOf 143 = .ok (.getfield 208, 3) := by decide +kernel
theorem dX12_startOf_146 : decode cX12_startOf 146 = .ok (.iload_n 3, 1) := by decide +kernel
theorem dX12_startOf_147 : decode cX12_startOf 147 = .ok (.iaload, 1) := by decide +kernel
theorem dX12_startOf_148 : decode cX12_startOf 148 = .ok (.ifCond .ne 29, 3) := by decide +kernel
theorem dX12_startOf_151 : decode cX12_startOf 151 = .ok (.lload 5, 2) := by decide +kernel
theorem dX12_startOf_153 : decode cX12_startOf 153 = .ok (.lconst 1, 1) := by decide +kernel
theorem dX12_startOf_154 : decode cX12_startOf 154 = .ok (.ladd, 1) := by decide +kernel
theorem dX12_startOf_155 : decode cX12_startOf 155 = .ok (.lstore 5, 2) := by decide +kernel
theorem dX12_startOf_157 : decode cX12_startOf 157 = .ok (.lload 5, 2) := by decide +kernel
theorem dX12_startOf_159 : decode cX12_startOf 159 = .ok (.aload_n 0, 1) := by decide +kernel
theorem dX12_startOf_160 : decode cX12_startOf 160 = .ok (.getfield 211, 3) := by decide +kernel
theorem dX12_startOf_163 : decode cX12_startOf 163 = .ok (.iload_n 3, 1) := by decide +kernel
theorem dX12_startOf_164 : decode cX12_startOf 164 = .ok (.iaload, 1) := by decide +kernel
theorem dX12_startOf_165 : decode cX12_startOf 165 = .ok (.i2l, 1) := by decide +kernel
theorem dX12_startOf_166 : decode cX12_startOf 166 = .ok (.lcmp, 1) := by decide +kernel
theorem dX12_startOf_167 : decode cX12_startOf 167 = .ok (.ifCond .ne 70, 3) := by decide +kernel
theorem dX12_startOf_170 : decode cX12_startOf 170 = .ok (.iload 9, 2) := by decide +kernel
theorem dX12_startOf_172 : decode cX12_startOf 172 = .ok (.istore 8, 2) := by decide +kernel
theorem dX12_startOf_174 : decode cX12_startOf 174 = .ok (.goto 63, 3) := by decide +kernel
theorem dX12_startOf_177 : decode cX12_startOf 177 = .ok (.aload_n 0, 1) := by decide +kernel
theorem dX12_startOf_178 : decode cX12_startOf 178 = .ok (.getfield 208, 3) := by decide +kernel
theorem dX12_startOf_181 : decode cX12_startOf 181 = .ok (.iload_n 3, 1) := by decide +kernel
theorem dX12_startOf_182 : decode cX12_startOf 182 = .ok (.iaload, 1) := by decide +kernel
theorem dX12_startOf_183 : decode cX12_startOf 183 = .ok (.iconst 2, 1) := by decide +kernel
theorem dX12_startOf_184 : decode cX12_startOf 184 = .ok (.if_icmp .ne 19, 3) := by decide +kernel
theorem dX12_startOf_187 : decode cX12_startOf 187 = .ok (.lload 5, 2) := by decide +kernel
theorem dX12_startOf_189 : decode cX12_startOf 189 = .ok (.aload_n 0, 1) := by decide +kernel
theorem dX12_startOf_190 : decode cX12_startOf 190 = .ok (.getfield 30, 3) := by decide +kernel
theorem dX12_startOf_193 : decode cX12_startOf 193 = .ok (.iload 10, 2) := by decide +kernel
theorem dX12_startOf_195 : decode cX12_startOf 195 = .ok (.iaload, 1) := by decide +kernel
theorem dX12_startOf_196 : decode cX12_startOf 196 = .ok (.i2l, 1) := by decide +kernel
theorem dX12_startOf_197 : decode cX12_startOf 197 = .ok (.ladd, 1) := by decide +kernel
theorem dX12_startOf_198 : decode cX12_startOf 198 = .ok (.lstore 5, 2) := by decide +kernel
theorem dX12_startOf_200 : decode cX12_startOf 200 = .ok (.goto 37, 3) := by decide +kernel
theorem dX12_startOf_203 : decode cX12_startOf 203 = .ok (.aload_n 0, 1) := by decide +kernel
theorem dX12_startOf_204 : decode cX12_startOf 204 = .ok (.getfield 263, 3) := by decide +kernel
theorem dX12_startOf_207 : decode cX12_startOf 207 = .ok (.aload_n 0, 1) := by decide +kernel
theorem dX12_startOf_208 : decode cX12_startOf 208 = .ok (.getfield 55, 3) := by decide +kernel
theorem dX12_startOf_211 : decode cX12_startOf 211 = .ok (.iload 10, 2) := by decide +kernel
theorem dX12_startOf_213 : decode cX12_startOf 213 = .ok (.iaload, 1) := by decide +kernel
theorem dX12_startOf_214 : decode cX12_startOf 214 = .ok (.baload, 1) := by decide +kernel
theorem dX12_startOf_215 : decode cX12_startOf 215 = .ok (.ifCond .ne 22, 3) := by decide +kernel
theorem dX12_startOf_218 : decode cX12_startOf 218 = .ok (.aload_n 0, 1) := by decide +kernel
theorem dX12_startOf_219 : decode cX12_startOf 219 = .ok (.getfield 263, 3) := by decide +kernel
theorem dX12_startOf_222 : decode cX12_startOf 222 = .ok (.aload_n 0, 1) := by decide +kernel
theorem dX12_startOf_223 : decode cX12_startOf 223 = .ok (.getfield 55, 3) := by decide +kernel
theorem dX12_startOf_226 : decode cX12_startOf 226 = .ok (.iload 10, 2) := by decide +kernel
theorem dX12_startOf_228 : decode cX12_startOf 228 = .ok (.iaload, 1) := by decide +kernel
theorem dX12_startOf_229 : decode cX12_startOf 229 = .ok (.iconst 1, 1) := by decide +kernel
theorem dX12_startOf_230 : decode cX12_startOf 230 = .ok (.bastore, 1) := by decide +kernel
theorem dX12_startOf_231 : decode cX12_startOf 231 = .ok (.lload 5, 2) := by decide +kernel
theorem dX12_startOf_233 : decode cX12_startOf 233 = .ok (.lconst 1, 1) := by decide +kernel
theorem dX12_startOf_234 : decode cX12_startOf 234 = .ok (.ladd, 1) := by decide +kernel
theorem dX12_startOf_235 : decode cX12_startOf 235 = .ok (.lstore 5, 2) := by decide +kernel
theorem dX12_startOf_237 : decode cX12_startOf 237 = .ok (.iinc 9 (-1), 3) := by decide +kernel
theorem dX12_startOf_240 : decode cX12_startOf 240 = .ok (.goto (-176), 3) := by decide +kernel
theorem dX12_startOf_243 : decode cX12_startOf 243 = .ok (.aload_n 0, 1) := by decide +kernel
theorem dX12_startOf_244 : decode cX12_startOf 244 = .ok (.getfield 208, 3) := by decide +kernel
theorem dX12_startOf_247 : decode cX12_startOf 247 = .ok (.iload_n 3, 1) := by decide +kernel
theorem dX12_startOf_248 : decode cX12_startOf 248 = .ok (.iaload, 1) := by decide +kernel
theorem dX12_startOf_249 : decode cX12_startOf 249 = .ok (.iconst 1, 1) := by decide +kernel
theorem dX12_startOf_250 : decode cX12_startOf 250 = .ok (.if_icmp .ne 54, 3) := by decide +kernel
theorem dX12_startOf_253 : decode cX12_startOf 253 = .ok (.iload_n 2, 1) := by decide +kernel
theorem dX12_startOf_254 : decode cX12_startOf 254 = .ok (.istore 9, 2) := by decide +kernel
theorem dX12_startOf_256 : decode cX12_startOf 256 = .ok (.iload 9, 2) := by decide +kernel
theorem dX12_startOf_258 : decode cX12_startOf 258 = .ok (.iload 7, 2) := by decide +kernel
theorem dX12_startOf_260 : decode cX12_startOf 260 = .ok (.if_icmp .lt 44, 3) := by decide +kernel
theorem dX12_startOf_263 : decode cX12_startOf 263 = .ok (.aload_n 0, 1) := by decide +kernel
theorem dX12_startOf_264 : decode cX12_startOf 264 = .ok (.iload_n 1, 1) := by decide +kernel
theorem dX12_startOf_265 : decode cX12_startOf 265 = .ok (.iload 9, 2) := by decide +kernel
theorem dX12_startOf_267 : decode cX12_startOf 267 = .ok (.iload 4, 2) := by decide +kernel
theorem dX12_startOf_269 : decode cX12_startOf 269 = .ok (.invokevirtual 475, 3) := by decide +kernel
theorem dX12_startOf_272 : decode cX12_startOf 272 = .ok (.ifCond .eq 26, 3) := by decide +kernel
theorem dX12_startOf_275 : decode cX12_startOf 275 = .ok (.aload_n 0, 1) := by decide +kernel
theorem dX12_startOf_276 : decode cX12_startOf 276 = .ok (.getfield 263, 3) := by decide +kernel
theorem dX12_startOf_279 : decode cX12_startOf 279 = .ok (.aload_n 0, 1) := by decide +kernel
theorem dX12_startOf_280 : decode cX12_startOf 280 = .ok (.getfield 55, 3) := by decide +kernel
theorem dX12_startOf_283 : decode cX12_startOf 283 = .ok (.aload_n 0, 1) := by decide +kernel
theorem dX12_startOf_284 : decode cX12_startOf 284 = .ok (.iload 9, 2) := by decide +kernel
theorem dX12_startOf_286 : decode cX12_startOf 286 = .ok (.aload_n 0, 1) := by decide +kernel
theorem dX12_startOf_287 : decode cX12_startOf 287 = .ok (.getfield 202, 3) := by decide +kernel
theorem dX12_startOf_290 : decode cX12_startOf 290 = .ok (.iload_n 3, 1) := by decide +kernel
theorem dX12_startOf_291 : decode cX12_startOf 291 = .ok (.laload, 1) := by decide +kernel
theorem dX12_startOf_292 : decode cX12_startOf 292 = .ok (.invokevirtual 438, 3) := by decide +kernel
theorem dX12_startOf_295 : decode cX12_startOf 295 = .ok (.iaload, 1) := by decide +kernel
theorem dX12_startOf_296 : decode cX12_startOf 296 = .ok (.iconst 0, 1) := by decide +kernel
theorem dX12_startOf_297 : decode cX12_startOf 297 = .ok (.bastore, 1) := by decide +kernel
theorem dX12_startOf_298 : decode cX12_startOf 298 = .ok (.iinc 9 (-1), 3) := by decide +kernel
theorem dX12_startOf_301 : decode cX12_startOf 301 = .ok (.goto (-45), 3) := by decide +kernel
theorem dX12_startOf_304 : decode cX12_startOf 304 = .ok (.lload 5, 2) := by decide +kernel
theorem dX12_startOf_306 : decode cX12_startOf 306 = .ok (.aload_n 0, 1) := by decide +kernel
theorem dX12_startOf_307 : decode cX12_startOf 307 = .ok (.getfield 211, 3) := by decide +kernel
theorem dX12_startOf_310 : decode cX12_startOf 310 = .ok (.iload_n 3, 1) := by decide +kernel
theorem dX12_startOf_311 : decode cX12_startOf 311 = .ok (.iaload, 1) := by decide +kernel
theorem dX12_startOf_312 : decode cX12_startOf 312 = .ok (.i2l, 1) := by decide +kernel
theorem dX12_startOf_313 : decode cX12_startOf 313 = .ok (.lcmp, 1) := by decide +kernel
theorem dX12_startOf_314 : decode cX12_startOf 314 = .ok (.ifCond .ge 5, 3) := by decide +kernel
theorem dX12_startOf_317 : decode cX12_startOf 317 = .ok (.iconst (-1), 1) := by decide +kernel
theorem dX12_startOf_318 : decode cX12_startOf 318 = .ok (.ireturn, 1) := by decide +kernel
theorem dX12_startOf_319 : decode cX12_startOf 319 = .ok (.aload_n 0, 1) := by decide +kernel
theorem dX12_startOf_320 : decode cX12_startOf 320 = .ok (.getfield 208, 3) := by decide +kernel
theorem dX12_startOf_323 : decode cX12_startOf 323 = .ok (.iload_n 3, 1) := by decide +kernel
theorem dX12_startOf_324 : decode cX12_startOf 324 = .ok (.iaload, 1) := by decide +kernel
theorem dX12_startOf_325 : decode cX12_startOf 325 = .ok (.ifCond .ne 8, 3) := by decide +kernel
theorem dX12_startOf_328 : decode cX12_startOf 328 = .ok (.iload 8, 2) := by decide +kernel
theorem dX12_startOf_330 : decode cX12_startOf 330 = .ok (.goto 5, 3) := by decide +kernel
theorem dX12_startOf_333 : decode cX12_startOf 333 = .ok (.iload 7, 2) := by decide +kernel
theorem dX12_startOf_335 : decode cX12_startOf 335 = .ok (.ireturn, 1) := by decide +kernel
theorem dX12_chainFirst_0 : decode cX12_chainFirst 0 = .ok (.iload 4, 2) := by decide +kernel
theorem dX12_chainFirst_2 : decode cX12_chainFirst 2 = .ok (.istore 5, 2) := by decide +kernel
theorem dX12_chainFirst_4 : decode cX12_chainFirst 4 = .ok (.iload_n 3, 1) := by decide +kernel
theorem dX12_chainFirst_5 : decode cX12_chainFirst 5 = .ok (.iconst 1, 1) := by decide +kernel
theorem dX12_chainFirst_6 : decode cX12_chainFirst 6 = .ok (.isub, 1) := by decide +kernel
theorem dX12_chainFirst_7 : decode cX12_chainFirst 7 = .ok (.istore 6, 2) := by decide +kernel
theorem dX12_chainFirst_9 : decode cX12_chainFirst 9 = .ok (.iload 6, 2) := by decide +kernel
theorem dX12_chainFirst_11 : decode cX12_chainFirst 11 = .ok (.ifCond .lt 73, 3) := by decide +kernel
theorem dX12_chainFirst_14 : decode cX12_chainFirst 14 = .ok (.iload 5, 2) := by decide +kernel
theorem dX12_chainFirst_16 : decode cX12_chainFirst 16 = .ok (.ifCond .lt 47, 3) := by decide +kernel
theorem dX12_chainFirst_19 : decode cX12_chainFirst 19 = .ok (.aload_n 0, 1) := by decide +kernel
theorem dX12_chainFirst_20 : decode cX12_chainFirst 20 = .ok (.getfield 87, 3) := by decide +kernel
theorem dX12_chainFirst_23 : decode cX12_chainFirst 23 = .ok (.sipush 4000, 3) := by decide +kernel
theorem dX12_chainFirst_26 : decode cX12_chainFirst 26 = .ok (.iload_n 1, 1) := by decide +kernel
theorem dX12_chainFirst_27 : decode cX12_chainFirst 27 = .ok (.imul, 1) := by decide +kernel
theorem dX12_chainFirst_28 : decode cX12_chainFirst 28 = .ok (.iload 5, 2) := by decide +kernel
theorem dX12_chainFirst_30 : decode cX12_chainFirst 30 = .ok (.iadd, 1) := by decide +kernel
theorem dX12_chainFirst_31 : decode cX12_chainFirst 31 = .ok (.saload, 1) := by decide +kernel
theorem dX12_chainFirst_32 : decode cX12_chainFirst 32 = .ok (.iload_n 2, 1) := by decide +kernel
theorem dX12_chainFirst_33 : decode cX12_chainFirst 33 = .ok (.if_icmp .ne 24, 3) := by decide +kernel
theorem dX12_chainFirst_36 : decode cX12_chainFirst 36 = .ok (.aload_n 0, 1) := by decide +kernel
theorem dX12_chainFirst_37 : decode cX12_chainFirst 37 = .ok (.getfield 260, 3) := by decide +kernel
theorem dX12_chainFirst_40 : decode cX12_chainFirst 40 = .ok (.sipush 4000, 3) := by decide +kernel
theorem dX12_chainFirst_43 : decode cX12_chainFirst 43 = .ok (.iload_n 1, 1) := by decide +kernel
theorem dX12_chainFirst_44 : decode cX12_chainFirst 44 = .ok (.imul, 1) := by decide +kernel
theorem dX12_chainFirst_45 : decode cX12_chainFirst 45 = .ok (.iload 5, 2) := by decide +kernel
theorem dX12_chainFirst_47 : decode cX12_chainFirst 47 = .ok (.iadd, 1) := by decide +kernel
theorem dX12_chainFirst_48 : decode cX12_chainFirst 48 = .ok (.baload, 1) := by decide +kernel
theorem dX12_chainFirst_49 : decode cX12_chainFirst 49 = .ok (.iload 6, 2) := by decide +kernel
theorem dX12_chainFirst_51 : decode cX12_chainFirst 51 = .ok (.ishr, 1) := by decide +kernel
theorem dX12_chainFirst_52 : decode cX12_chainFirst 52 = .ok (.iconst 1, 1) := by decide +kernel
theorem dX12_chainFirst_53 : decode cX12_chainFirst 53 = .ok (.iand, 1) := by decide +kernel
theorem dX12_chainFirst_54 : decode cX12_chainFirst 54 = .ok (.ifCond .ne 9, 3) := by decide +kernel
theorem dX12_chainFirst_57 : decode cX12_chainFirst 57 = .ok (.iinc 5 (-1), 3) := by decide +kernel
theorem dX12_chainFirst_60 : decode cX12_chainFirst 60 = .ok (.goto (-46), 3) := by decide +kernel
theorem dX12_chainFirst_63 : decode cX12_chainFirst 63 = .ok (.iload 5, 2) := by decide +kernel
theorem dX12_chainFirst_65 : decode cX12_chainFirst 65 = .ok (.ifCond .ge 5, 3) := by decide +kernel
theorem dX12_chainFirst_68 : decode cX12_chainFirst 68 = .ok (.iconst (-1), 1) := by decide +kernel
theorem dX12_chainFirst_69 : decode cX12_chainFirst 69 = .ok (.ireturn, 1) := by decide +kernel
theorem dX12_chainFirst_70 : decode cX12_chainFirst 70 = .ok (.iload 6, 2) := by decide +kernel
theorem dX12_chainFirst_72 : decode cX12_chainFirst 72 = .ok (.ifCond .le 6, 3) := by decide +kernel
theorem dX12_chainFirst_75 : decode cX12_chainFirst 75 = .ok (.iinc 5 (-1), 3) := by decide +kernel
theorem dX12_chainFirst_78 : decode cX12_chainFirst 78 = .ok (.iinc 6 (-1), 3) := by decide +kernel
theorem dX12_chainFirst_81 : decode cX12_chainFirst 81 = .ok (.goto (-72), 3) := by decide +kernel
theorem dX12_chainFirst_84 : decode cX12_chainFirst 84 = .ok (.iload 5, 2) := by decide +kernel
theorem dX12_chainFirst_86 : decode cX12_chainFirst 86 = .ok (.ireturn, 1) := by decide +kernel
theorem dX12_isClear_0 : decode cX12_isClear 0 = .ok (.iload_n 3, 1) := by decide +kernel
theorem dX12_isClear_1 : decode cX12_isClear 1 = .ok (.iconst 1, 1) := by decide +kernel
theorem dX12_isClear_2 : decode cX12_isClear 2 = .ok (.iadd, 1) := by decide +kernel
theorem dX12_isClear_3 : decode cX12_isClear 3 = .ok (.istore 5, 2) := by decide +kernel
theorem dX12_isClear_5 : decode cX12_isClear 5 = .ok (.iload 5, 2) := by decide +kernel
theorem dX12_isClear_7 : decode cX12_isClear 7 = .ok (.iload 4, 2) := by decide +kernel
theorem dX12_isClear_9 : decode cX12_isClear 9 = .ok (.if_icmp .ge 47, 3) := by decide +kernel
theorem dX12_isClear_12 : decode cX12_isClear 12 = .ok (.aload_n 0, 1) := by decide +kernel
theorem dX12_isClear_13 : decode cX12_isClear 13 = .ok (.getfield 87, 3) := by decide +kernel
theorem dX12_isClear_16 : decode cX12_isClear 16 = .ok (.sipush 4000, 3) := by decide +kernel
theorem dX12_isClear_19 : decode cX12_isClear 19 = .ok (.iload_n 1, 1) := by decide +kernel
theorem dX12_isClear_20 : decode cX12_isClear 20 = .ok (.imul, 1) := by decide +kernel
theorem dX12_isClear_21 : decode cX12_isClear 21 = .ok (.iload 5, 2) := by decide +kernel
theorem dX12_isClear_23 : decode cX12_isClear 23 = .ok (.iadd, 1) := by decide +kernel
theorem dX12_isClear_24 : decode cX12_isClear 24 = .ok (.saload, 1) := by decide +kernel
theorem dX12_isClear_25 : decode cX12_isClear 25 = .ok (.iload_n 2, 1) := by decide +kernel
theorem dX12_isClear_26 : decode cX12_isClear 26 = .ok (.if_icmp .ne 24, 3) := by decide +kernel
theorem dX12_isClear_29 : decode cX12_isClear 29 = .ok (.aload_n 0, 1) := by decide +kernel
theorem dX12_isClear_30 : decode cX12_isClear 30 = .ok (.getfield 260, 3) := by decide +kernel
theorem dX12_isClear_33 : decode cX12_isClear 33 = .ok (.sipush 4000, 3) := by decide +kernel
theorem dX12_isClear_36 : decode cX12_isClear 36 = .ok (.iload_n 1, 1) := by decide +kernel
theorem dX12_isClear_37 : decode cX12_isClear 37 = .ok (.imul, 1) := by decide +kernel
theorem dX12_isClear_38 : decode cX12_isClear 38 = .ok (.iload 5, 2) := by decide +kernel
theorem dX12_isClear_40 : decode cX12_isClear 40 = .ok (.iadd, 1) := by decide +kernel
theorem dX12_isClear_41 : decode cX12_isClear 41 = .ok (.baload, 1) := by decide +kernel
theorem dX12_isClear_42 : decode cX12_isClear 42 = .ok (.bipush 32, 2) := by decide +kernel
theorem dX12_isClear_44 : decode cX12_isClear 44 = .ok (.iand, 1) := by decide +kernel
theorem dX12_isClear_45 : decode cX12_isClear 45 = .ok (.ifCond .le 5, 3) := by decide +kernel
theorem dX12_isClear_48 : decode cX12_isClear 48 = .ok (.iconst 0, 1) := by decide +kernel
theorem dX12_isClear_49 : decode cX12_isClear 49 = .ok (.ireturn, 1) := by decide +kernel
theorem dX12_isClear_50 : decode cX12_isClear 50 = .ok (.iinc 5 1, 3) := by decide +kernel
theorem dX12_isClear_53 : decode cX12_isClear 53 = .ok (.goto (-48), 3) := by decide +kernel
theorem dX12_isClear_56 : decode cX12_isClear 56 = .ok (.iconst 1, 1) := by decide +kernel
theorem dX12_isClear_57 : decode cX12_isClear 57 = .ok (.ireturn, 1) := by decide +kernel
theorem dX12_chainStart_0 : decode cX12_chainStart 0 = .ok (.bipush 12, 2) := by decide +kernel
theorem dX12_chainStart_2 : decode cX12_chainStart 2 = .ok (.aload_n 0, 1) := by decide +kernel
theorem dX12_chainStart_3 : decode cX12_chainStart 3 = .ok (.getfield 368, 3) := by decide +kernel
theorem dX12_chainStart_6 : decode cX12_chainStart 6 = .ok (.imul, 1) := by decide +kernel
theorem dX12_chainStart_7 : decode cX12_chainStart 7 = .ok (.iload_n 1, 1) := by decide +kernel
theorem dX12_chainStart_8 : decode cX12_chainStart 8 = .ok (.iadd, 1) := by decide +kernel
theorem dX12_chainStart_9 : decode cX12_chainStart 9 = .ok (.istore_n 3, 1) := by decide +kernel
theorem dX12_chainStart_10 : decode cX12_chainStart 10 = .ok (.aload_n 0, 1) := by decide +kernel
theorem dX12_chainStart_11 : decode cX12_chainStart 11 = .ok (.getfield 87, 3) := by decide +kernel
theorem dX12_chainStart_14 : decode cX12_chainStart 14 = .ok (.sipush 4000, 3) := by decide +kernel
theorem dX12_chainStart_17 : decode cX12_chainStart 17 = .ok (.iload_n 1, 1) := by decide +kernel
theorem dX12_chainStart_18 : decode cX12_chainStart 18 = .ok (.imul, 1) := by decide +kernel
theorem dX12_chainStart_19 : decode cX12_chainStart 19 = .ok (.iload_n 2, 1) := by decide +kernel
theorem dX12_chainStart_20 : decode cX12_chainStart 20 = .ok (.iadd, 1) := by decide +kernel
theorem dX12_chainStart_21 : decode cX12_chainStart 21 = .ok (.saload, 1) := by decide +kernel
theorem dX12_chainStart_22 : decode cX12_chainStart 22 = .ok (.istore 4, 2) := by decide +kernel
theorem dX12_chainStart_24 : decode cX12_chainStart 24 = .ok (.aload_n 0, 1) := by decide +kernel
theorem dX12_chainStart_25 : decode cX12_chainStart 25 = .ok (.getfield 214, 3) := by decide +kernel
theorem dX12_chainStart_28 : decode cX12_chainStart 28 = .ok (.iload_n 3, 1) := by decide +kernel
theorem dX12_chainStart_29 : decode cX12_chainStart 29 = .ok (.iaload, 1) := by decide +kernel
theorem dX12_chainStart_30 : decode cX12_chainStart 30 = .ok (.iconst 1, 1) := by decide +kernel
theorem dX12_chainStart_31 : decode cX12_chainStart 31 = .ok (.if_icmp .ne 7, 3) := by decide +kernel
theorem dX12_chainStart_34 : decode cX12_chainStart 34 = .ok (.iload_n 2, 1) := by decide +kernel
theorem dX12_chainStart_35 : decode cX12_chainStart 35 = .ok (.goto 21, 3) := by decide +kernel
theorem dX12_chainStart_38 : decode cX12_chainStart 38 = .ok (.aload_n 0, 1) := by decide +kernel
theorem dX12_chainStart_39 : decode cX12_chainStart 39 = .ok (.iload_n 1, 1) := by decide +kernel
theorem dX12_chainStart_40 : decode cX12_chainStart 40 = .ok (.iload 4, 2) := by decide +kernel
theorem dX12_chainStart_42 : decode cX12_chainStart 42 = .ok (.aload_n 0, 1) := by decide +kernel
theorem dX12_chainStart_43 : decode cX12_chainStart 43 = .ok (.getfield 214, 3) := by decide +kernel
theorem dX12_chainStart_46 : decode cX12_chainStart 46 = .ok (.iload_n 3, 1) := by decide +kernel
theorem dX12_chainStart_47 : decode cX12_chainStart 47 = .ok (.iaload, 1) := by decide +kernel
theorem dX12_chainStart_48 : decode cX12_chainStart 48 = .ok (.iconst 1, 1) := by decide +kernel
theorem dX12_chainStart_49 : decode cX12_chainStart 49 = .ok (.isub, 1) := by decide +kernel
theorem dX12_chainStart_50 : decode cX12_chainStart 50 = .ok (.iload_n 2, 1) := by decide +kernel
theorem dX12_chainStart_51 : decode cX12_chainStart 51 = .ok (.iconst 1, 1) := by decide +kernel
theorem dX12_chainStart_52 : decode cX12_chainStart 52 = .ok (.isub, 1) := by decide +kernel
theorem dX12_chainStart_53 : decode cX12_chainStart 53 = .ok (.invokevirtual 479, 3) := by decide +kernel
theorem dX12_chainStart_56 : decode cX12_chainStart 56 = .ok (.istore 5, 2) := by decide +kernel
theorem dX12_chainStart_58 : decode cX12_chainStart 58 = .ok (.iload 5, 2) := by decide +kernel
theorem dX12_chainStart_60 : decode cX12_chainStart 60 = .ok (.ifCond .lt 47, 3) := by decide +kernel
theorem dX12_chainStart_63 : decode cX12_chainStart 63 = .ok (.aload_n 0, 1) := by decide +kernel
theorem dX12_chainStart_64 : decode cX12_chainStart 64 = .ok (.getfield 170, 3) := by decide +kernel
theorem dX12_chainStart_67 : decode cX12_chainStart 67 = .ok (.iload 5, 2) := by decide +kernel
theorem dX12_chainStart_69 : decode cX12_chainStart 69 = .ok (.iaload, 1) := by decide +kernel
theorem dX12_chainStart_70 : decode cX12_chainStart 70 = .ok (.i2l, 1) := by decide +kernel
theorem dX12_chainStart_71 : decode cX12_chainStart 71 = .ok (.aload_n 0, 1) := by decide +kernel
theorem dX12_chainStart_72 : decode cX12_chainStart 72 = .ok (.getfield 170, 3) := by decide +kernel
theorem dX12_chainStart_75 : decode cX12_chainStart 75 = .ok (.iload_n 2, 1) := by decide +kernel
theorem dX12_chainStart_76 : decode cX12_chainStart 76 = .ok (.iaload, 1) := by decide +kernel
theorem dX12_chainStart_77 : decode cX12_chainStart 77 = .ok (.i2l, 1) := by decide +kernel
theorem dX12_chainStart_78 : decode cX12_chainStart 78 = .ok (.aload_n 0, 1) := by decide +kernel
theorem dX12_chainStart_79 : decode cX12_chainStart 79 = .ok (.getfield 226, 3) := by decide +kernel
theorem dX12_chainStart_82 : decode cX12_chainStart 82 = .ok (.iload_n 3, 1) := by decide +kernel
theorem dX12_chainStart_83 : decode cX12_chainStart 83 = .ok (.iaload, 1) := by decide +kernel
theorem dX12_chainStart_84 : decode cX12_chainStart 84 = .ok (.i2l, 1) := by decide +kernel
theorem dX12_chainStart_85 : decode cX12_chainStart 85 = .ok (.lsub, 1) := by decide +kernel
theorem dX12_chainStart_86 : decode cX12_chainStart 86 = .ok (.lcmp, 1) := by decide +kernel
theorem dX12_chainStart_87 : decode cX12_chainStart 87 = .ok (.ifCond .le 20, 3) := by decide +kernel
theorem dX12_chainStart_90 : decode cX12_chainStart 90 = .ok (.aload_n 0, 1) := by decide +kernel
theorem dX12_chainStart_91 : decode cX12_chainStart 91 = .ok (.iload_n 1, 1) := by decide +kernel
theorem dX12_chainStart_92 : decode cX12_chainStart 92 = .ok (.iload 4, 2) := by decide +kernel
theorem dX12_chainStart_94 : decode cX12_chainStart 94 = .ok (.iload 5, 2) := by decide +kernel
theorem dX12_chainStart_96 : decode cX12_chainStart 96 = .ok (.iload_n 2, 1) := by decide +kernel
theorem dX12_chainStart_97 : decode cX12_chainStart 97 = .ok (.invokevirtual 483, 3) := by decide +kernel
theorem dX12_chainStart_100 : decode cX12_chainStart 100 = .ok (.ifCond .eq 7, 3) := by decide +kernel
theorem dX12_chainStart_103 : decode cX12_chainStart 103 = .ok (.iconst 1, 1) := by decide +kernel
theorem dX12_chainStart_104 : decode cX12_chainStart 104 = .ok (.goto 4, 3) := by decide +kernel
theorem dX12_chainStart_107 : decode cX12_chainStart 107 = .ok (.iconst 0, 1) := by decide +kernel
theorem dX12_chainStart_108 : decode cX12_chainStart 108 = .ok (.istore 6, 2) := by decide +kernel
theorem dX12_chainStart_110 : decode cX12_chainStart 110 = .ok (.iload 6, 2) := by decide +kernel
theorem dX12_chainStart_112 : decode cX12_chainStart 112 = .ok (.ifCond .eq 8, 3) := by decide +kernel
theorem dX12_chainStart_115 : decode cX12_chainStart 115 = .ok (.iload 5, 2) := by decide +kernel
theorem dX12_chainStart_117 : decode cX12_chainStart 117 = .ok (.goto 4, 3) := by decide +kernel
theorem dX12_chainStart_120 : decode cX12_chainStart 120 = .ok (.iconst (-1), 1) := by decide +kernel
theorem dX12_chainStart_121 : decode cX12_chainStart 121 = .ok (.ireturn, 1) := by decide +kernel
theorem dX12_waits_0 : decode cX12_waits 0 = .ok (.aload_n 0, 1) := by decide +kernel
theorem dX12_waits_1 : decode cX12_waits 1 = .ok (.getfield 266, 3) := by decide +kernel
theorem dX12_waits_4 : decode cX12_waits 4 = .ok (.aload_n 0, 1) := by decide +kernel
theorem dX12_waits_5 : decode cX12_waits 5 = .ok (.getfield 80, 3) := by decide +kernel
theorem dX12_waits_8 : decode cX12_waits 8 = .ok (.iload_n 1, 1) := by decide +kernel
theorem dX12_waits_9 : decode cX12_waits 9 = .ok (.i2b, 1) := by decide +kernel
theorem dX12_waits_10 : decode cX12_waits 10 = .ok (.bastore, 1) := by decide +kernel
theorem dX12_waits_11 : decode cX12_waits 11 = .ok (.aload_n 0, 1) := by decide +kernel
theorem dX12_waits_12 : decode cX12_waits 12 = .ok (.getfield 269, 3) := by decide +kernel
theorem dX12_waits_15 : decode cX12_waits 15 = .ok (.aload_n 0, 1) := by decide +kernel
theorem dX12_waits_16 : decode cX12_waits 16 = .ok (.getfield 80, 3) := by decide +kernel
theorem dX12_waits_19 : decode cX12_waits 19 = .ok (.iload_n 2, 1) := by decide +kernel
theorem dX12_waits_20 : decode cX12_waits 20 = .ok (.i2s, 1) := by decide +kernel
theorem dX12_waits_21 : decode cX12_waits 21 = .ok (.sastore, 1) := by decide +kernel
theorem dX12_waits_22 : decode cX12_waits 22 = .ok (.aload_n 0, 1) := by decide +kernel
theorem dX12_waits_23 : decode cX12_waits 23 = .ok (.getfield 272, 3) := by decide +kernel
theorem dX12_waits_26 : decode cX12_waits 26 = .ok (.aload_n 0, 1) := by decide +kernel
theorem dX12_waits_27 : decode cX12_waits 27 = .ok (.getfield 80, 3) := by decide +kernel
theorem dX12_waits_30 : decode cX12_waits 30 = .ok (.iconst 0, 1) := by decide +kernel
theorem dX12_waits_31 : decode cX12_waits 31 = .ok (.bastore, 1) := by decide +kernel
theorem dX12_waits_32 : decode cX12_waits 32 = .ok (.aload_n 0, 1) := by decide +kernel
theorem dX12_waits_33 : decode cX12_waits 33 = .ok (.dup, 1) := by decide +kernel
theorem dX12_waits_34 : decode cX12_waits 34 = .ok (.getfield 80, 3) := by decide +kernel
theorem dX12_waits_37 : decode cX12_waits 37 = .ok (.iconst 1, 1) := by decide +kernel
theorem dX12_waits_38 : decode cX12_waits 38 = .ok (.iadd, 1) := by decide +kernel
theorem dX12_waits_39 : decode cX12_waits 39 = .ok (.putfield 80, 3) := by decide +kernel
theorem dX12_waits_42 : decode cX12_waits 42 = .ok (.return_, 1) := by decide +kernel
theorem dX12_due_0 : decode cX12_due 0 = .ok (.aload_n 0, 1) := by decide +kernel
theorem dX12_due_1 : decode cX12_due 1 = .ok (.getfield 170, 3) := by decide +kernel
theorem dX12_due_4 : decode cX12_due 4 = .ok (.aload_n 0, 1) := by decide +kernel
theorem dX12_due_5 : decode cX12_due 5 = .ok (.getfield 269, 3) := by decide +kernel
theorem dX12_due_8 : decode cX12_due 8 = .ok (.iload_n 1, 1) := by decide +kernel
theorem dX12_due_9 : decode cX12_due 9 = .ok (.saload, 1) := by decide +kernel
theorem dX12_due_10 : decode cX12_due 10 = .ok (.iaload, 1) := by decide +kernel
theorem dX12_due_11 : decode cX12_due 11 = .ok (.i2l, 1) := by decide +kernel
theorem dX12_due_12 : decode cX12_due 12 = .ok (.aload_n 0, 1) := by decide +kernel
theorem dX12_due_13 : decode cX12_due 13 = .ok (.getfield 226, 3) := by decide +kernel
theorem dX12_due_16 : decode cX12_due 16 = .ok (.bipush 12, 2) := by decide +kernel
theorem dX12_due_18 : decode cX12_due 18 = .ok (.aload_n 0, 1) := by decide +kernel
theorem dX12_due_19 : decode cX12_due 19 = .ok (.getfield 368, 3) := by decide +kernel
theorem dX12_due_22 : decode cX12_due 22 = .ok (.imul, 1) := by decide +kernel
theorem dX12_due_23 : decode cX12_due 23 = .ok (.aload_n 0, 1) := by decide +kernel
theorem dX12_due_24 : decode cX12_due 24 = .ok (.getfield 266, 3) := by decide +kernel
theorem dX12_due_27 : decode cX12_due 27 = .ok (.iload_n 1, 1) := by decide +kernel
theorem dX12_due_28 : decode cX12_due 28 = .ok (.baload, 1) := by decide +kernel
theorem dX12_due_29 : decode cX12_due 29 = .ok (.iadd, 1) := by decide +kernel
theorem dX12_due_30 : decode cX12_due 30 = .ok (.iaload, 1) := by decide +kernel
theorem dX12_due_31 : decode cX12_due 31 = .ok (.i2l, 1) := by decide +kernel
theorem dX12_due_32 : decode cX12_due 32 = .ok (.ladd, 1) := by decide +kernel
theorem dX12_due_33 : decode cX12_due 33 = .ok (.lreturn, 1) := by decide +kernel
theorem dX12_answered_0 : decode cX12_answered 0 = .ok (.iload_n 3, 1) := by decide +kernel
theorem dX12_answered_1 : decode cX12_answered 1 = .ok (.ifCond .ne 4, 3) := by decide +kernel
theorem dX12_answered_4 : decode cX12_answered 4 = .ok (.return_, 1) := by decide +kernel
theorem dX12_answered_5 : decode cX12_answered 5 = .ok (.iconst 0, 1) := by decide +kernel
theorem dX12_answered_6 : decode cX12_answered 6 = .ok (.istore 4, 2) := by decide +kernel
theorem dX12_answered_8 : decode cX12_answered 8 = .ok (.iload 4, 2) := by decide +kernel
theorem dX12_answered_10 : decode cX12_answered 10 = .ok (.aload_n 0, 1) := by decide +kernel
theorem dX12_answered_11 : decode cX12_answered 11 = .ok (.getfield 80, 3) := by decide +kernel
theorem dX12_answered_14 : decode cX12_answered 14 = .ok (.if_icmp .ge 88, 3) := by decide +kernel
theorem dX12_answered_17 : decode cX12_answered 17 = .ok (.aload_n 0, 1) := by decide +kernel
theorem dX12_answered_18 : decode cX12_answered 18 = .ok (.getfield 272, 3) := by decide +kernel
theorem dX12_answered_21 : decode cX12_answered 21 = .ok (.iload 4, 2) := by decide +kernel
theorem dX12_answered_23 : decode cX12_answered 23 = .ok (.baload, 1) := by decide +kernel
theorem dX12_answered_24 : decode cX12_answered 24 = .ok (.ifCond .ne 72, 3) := by decide +kernel
theorem dX12_answered_27 : decode cX12_answered 27 = .ok (.aload_n 0, 1) := by decide +kernel
theorem dX12_answered_28 : decode cX12_answered 28 = .ok (.getfield 266, 3) := by decide +kernel
theorem dX12_answered_31 : decode cX12_answered 31 = .ok (.iload 4, 2) := by decide +kernel
theorem dX12_answered_33 : decode cX12_answered 33 = .ok (.baload, 1) := by decide +kernel
theorem dX12_answered_34 : decode cX12_answered 34 = .ok (.iload_n 1, 1) := by decide +kernel
theorem dX12_answered_35 : decode cX12_answered 35 = .ok (.if_icmp .ne 61, 3) := by decide +kernel
theorem dX12_answered_38 : decode cX12_answered 38 = .ok (.aload_n 0, 1) := by decide +kernel
theorem dX12_answered_39 : decode cX12_answered 39 = .ok (.getfield 87, 3) := by decide +kernel
theorem dX12_answered_42 : decode cX12_answered 42 = .ok (.sipush 4000, 3) := by decide +kernel
theorem dX12_answered_45 : decode cX12_answered 45 = .ok (.iload_n 1, 1) := by decide +kernel
theorem dX12_answered_46 : decode cX12_answered 46 = .ok (.imul, 1) := by decide +kernel
theorem dX12_answered_47 : decode cX12_answered 47 = .ok (.aload_n 0, 1) := by decide +kernel
theorem dX12_answered_48 : decode cX12_answered 48 = .ok (.getfield 269, 3) := by decide +kernel
theorem dX12_answered_51 : decode cX12_answered 51 = .ok (.iload 4, 2) := by decide +kernel
theorem dX12_answered_53 : decode cX12_answered 53 = .ok (.saload, 1) := by decide +kernel
theorem dX12_answered_54 : decode cX12_answered 54 = .ok (.iadd, 1) := by decide +kernel
theorem dX12_answered_55 : decode cX12_answered 55 = .ok (.saload, 1) := by decide +kernel
theorem dX12_answered_56 : decode cX12_answered 56 = .ok (.aload_n 0, 1) := by decide +kernel
theorem dX12_answered_57 : decode cX12_answered 57 = .ok (.getfield 87, 3) := by decide +kernel
theorem dX12_answered_60 : decode cX12_answered 60 = .ok (.sipush 4000, 3) := by decide +kernel
theorem dX12_answered_63 : decode cX12_answered 63 = .ok (.iload_n 1, 1) := by decide +kernel
theorem dX12_answered_64 : decode cX12_answered 64 = .ok (.imul, 1) := by decide +kernel
theorem dX12_answered_65 : decode cX12_answered 65 = .ok (.iload_n 2, 1) := by decide +kernel
theorem dX12_answered_66 : decode cX12_answered 66 = .ok (.iadd, 1) := by decide +kernel
theorem dX12_answered_67 : decode cX12_answered 67 = .ok (.saload, 1) := by decide +kernel
theorem dX12_answered_68 : decode cX12_answered 68 = .ok (.if_icmp .ne 28, 3) := by decide +kernel
theorem dX12_answered_71 : decode cX12_answered 71 = .ok (.aload_n 0, 1) := by decide +kernel
theorem dX12_answered_72 : decode cX12_answered 72 = .ok (.iload 4, 2) := by decide +kernel
theorem dX12_answered_74 : decode cX12_answered 74 = .ok (.invokevirtual 486, 3) := by decide +kernel
theorem dX12_answered_77 : decode cX12_answered 77 = .ok (.aload_n 0, 1) := by decide +kernel
theorem dX12_answered_78 : decode cX12_answered 78 = .ok (.getfield 170, 3) := by decide +kernel
theorem dX12_answered_81 : decode cX12_answered 81 = .ok (.iload_n 2, 1) := by decide +kernel
theorem dX12_answered_82 : decode cX12_answered 82 = .ok (.iaload, 1) := by decide +kernel
theorem dX12_answered_83 : decode cX12_answered 83 = .ok (.i2l, 1) := by decide +kernel
theorem dX12_answered_84 : decode cX12_answered 84 = .ok (.lcmp, 1) := by decide +kernel
theorem dX12_answered_85 : decode cX12_answered 85 = .ok (.ifCond .lt 11, 3) := by decide +kernel
theorem dX12_answered_88 : decode cX12_answered 88 = .ok (.aload_n 0, 1) := by decide +kernel
theorem dX12_answered_89 : decode cX12_answered 89 = .ok (.getfield 272, 3) := by decide +kernel
theorem dX12_answered_92 : decode cX12_answered 92 = .ok (.iload 4, 2) := by decide +kernel
theorem dX12_answered_94 : decode cX12_answered 94 = .ok (.iconst 1, 1) := by decide +kernel
theorem dX12_answered_95 : decode cX12_answered 95 = .ok (.bastore, 1) := by decide +kernel
theorem dX12_answered_96 : decode cX12_answered 96 = .ok (.iinc 4 1, 3) := by decide +kernel
theorem dX12_answered_99 : decode cX12_answered 99 = .ok (.goto (-91), 3) := by decide +kernel
theorem dX12_answered_102 : decode cX12_answered 102 = .ok (.return_, 1) := by decide +kernel
theorem dX12_become_0 : decode cX12_become 0 = .ok (.iconst 1, 1) := by decide +kernel
theorem dX12_become_1 : decode cX12_become 1 = .ok (.istore_n 2, 1) := by decide +kernel
theorem dX12_become_2 : decode cX12_become 2 = .ok (.iload_n 2, 1) := by decide +kernel
theorem dX12_become_3 : decode cX12_become 3 = .ok (.ifCond .eq 190, 3) := by decide +kernel
theorem dX12_become_6 : decode cX12_become 6 = .ok (.iload_n 1, 1) := by decide +kernel
theorem dX12_become_7 : decode cX12_become 7 = .ok (.i2l, 1) := by decide +kernel
theorem dX12_become_8 : decode cX12_become 8 = .ok (.lstore_n 3, 1) := by decide +kernel
theorem dX12_become_9 : decode cX12_become 9 = .ok (.iconst 0, 1) := by decide +kernel
theorem dX12_become_10 : decode cX12_become 10 = .ok (.istore 5, 2) := by decide +kernel
theorem dX12_become_12 : decode cX12_become 12 = .ok (.iload 5, 2) := by decide +kernel
theorem dX12_become_14 : decode cX12_become 14 = .ok (.aload_n 0, 1) := by decide +kernel
theorem dX12_become_15 : decode cX12_become 15 = .ok (.getfield 80, 3) := by decide +kernel
theorem dX12_become_18 : decode cX12_become 18 = .ok (.if_icmp .ge 30, 3) := by decide +kernel
theorem dX12_become_21 : decode cX12_become 21 = .ok (.aload_n 0, 1) := by decide +kernel
theorem dX12_become_22 : decode cX12_become 22 = .ok (.getfield 272, 3) := by decide +kernel
theorem dX12_become_25 : decode cX12_become 25 = .ok (.iload 5, 2) := by decide +kernel
theorem dX12_become_27 : decode cX12_become 27 = .ok (.baload, 1) := by decide +kernel
theorem dX12_become_28 : decode cX12_become 28 = .ok (.ifCond .ne 14, 3) := by decide +kernel
theorem dX12_become_31 : decode cX12_become 31 = .ok (.lload_n 3, 1) := by decide +kernel
theorem dX12_become_32 : decode cX12_become 32 = .ok (.aload_n 0, 1) := by decide +kernel
theorem dX12_become_33 : decode cX12_become 33 = .ok (.iload 5, 2) := by decide +kernel
theorem dX12_become_35 : decode cX12_become 35 = .ok (.invokevirtual 486, 3) := by decide +kernel
theorem dX12_become_38 : decode cX12_become 38 = .ok (.invokestatic 490, 3) := by decide +kernel
theorem dX12_become_41 : decode cX12_become 41 = .ok (.lstore_n 3, 1) := by decide +kernel
theorem dX12_become_42 : decode cX12_become 42 = .ok (.iinc 5 1, 3) := by decide +kernel
theorem dX12_become_45 : decode cX12_become 45 = .ok (.goto (-33), 3) := by decide +kernel
theorem dX12_become_48 : decode cX12_become 48 = .ok (.lload_n 3, 1) := by decide +kernel
theorem dX12_become_49 : decode cX12_become 49 = .ok (.iload_n 1, 1) := by decide +kernel
theorem dX12_become_50 : decode cX12_become 50 = .ok (.i2l, 1) := by decide +kernel
theorem dX12_become_51 : decode cX12_become 51 = .ok (.lcmp, 1) := by decide +kernel
theorem dX12_become_52 : decode cX12_become 52 = .ok (.ifCond .ge 7, 3) := by decide +kernel
theorem dX12_become_55 : decode cX12_become 55 = .ok (.iconst 1, 1) := by decide +kernel
theorem dX12_become_56 : decode cX12_become 56 = .ok (.goto 4, 3) := by decide +kernel
theorem dX12_become_59 : decode cX12_become 59 = .ok (.iconst 0, 1) := by decide +kernel
theorem dX12_become_60 : decode cX12_become 60 = .ok (.istore_n 2, 1) := by decide +kernel
theorem dX12_become_61 : decode cX12_become 61 = .ok (.iload_n 2, 1) := by decide +kernel
theorem dX12_become_62 : decode cX12_become 62 = .ok (.ifCond .ne 6, 3) := by decide +kernel
theorem dX12_become_65 : decode cX12_become 65 = .ok (.goto (-63), 3) := by decide +kernel
theorem dX12_become_68 : decode cX12_become 68 = .ok (.aload_n 0, 1) := by decide +kernel
theorem dX12_become_69 : decode cX12_become 69 = .ok (.lload_n 3, 1) := by decide +kernel
theorem dX12_become_70 : decode cX12_become 70 = .ok (.l2i, 1) := by decide +kernel
theorem dX12_become_71 : decode cX12_become 71 = .ok (.putfield 64, 3) := by decide +kernel
theorem dX12_become_74 : decode cX12_become 74 = .ok (.aload_n 0, 1) := by decide +kernel
theorem dX12_become_75 : decode cX12_become 75 = .ok (.aload_n 0, 1) := by decide +kernel
theorem dX12_become_76 : decode cX12_become 76 = .ok (.getfield 74, 3) := by decide +kernel
theorem dX12_become_79 : decode cX12_become 79 = .ok (.putfield 180, 3) := by decide +kernel
theorem dX12_become_82 : decode cX12_become 82 = .ok (.iconst 0, 1) := by decide +kernel
theorem dX12_become_83 : decode cX12_become 83 = .ok (.istore 5, 2) := by decide +kernel
theorem dX12_become_85 : decode cX12_become 85 = .ok (.iload 5, 2) := by decide +kernel
theorem dX12_become_87 : decode cX12_become 87 = .ok (.aload_n 0, 1) := by decide +kernel
theorem dX12_become_88 : decode cX12_become 88 = .ok (.getfield 380, 3) := by decide +kernel
theorem dX12_become_91 : decode cX12_become 91 = .ok (.if_icmp .ge 95, 3) := by decide +kernel
theorem dX12_become_94 : decode cX12_become 94 = .ok (.iconst 0, 1) := by decide +kernel
theorem dX12_become_95 : decode cX12_become 95 = .ok (.istore 6, 2) := by decide +kernel
theorem dX12_become_97 : decode cX12_become 97 = .ok (.iload 6, 2) := by decide +kernel
theorem dX12_become_99 : decode cX12_become 99 = .ok (.aload_n 0, 1) := by decide +kernel
theorem dX12_become_100 : decode cX12_become 100 = .ok (.getfield 80, 3) := by decide +kernel
theorem dX12_become_103 : decode cX12_become 103 = .ok (.if_icmp .ge 77, 3) := by decide +kernel
theorem dX12_become_106 : decode cX12_become 106 = .ok (.aload_n 0, 1) := by decide +kernel
theorem dX12_become_107 : decode cX12_become 107 = .ok (.getfield 272, 3) := by decide +kernel
theorem dX12_become_110 : decode cX12_become 110 = .ok (.iload 6, 2) := by decide +kernel
theorem dX12_become_112 : decode cX12_become 112 = .ok (.baload, 1) := by decide +kernel
theorem dX12_become_113 : decode cX12_become 113 = .ok (.ifCond .ne 61, 3) := by decide +kernel
theorem dX12_become_116 : decode cX12_become 116 = .ok (.aload_n 0, 1) := by decide +kernel
theorem dX12_become_117 : decode cX12_become 117 = .ok (.getfield 266, 3) := by decide +kernel
theorem dX12_become_120 : decode cX12_become 120 = .ok (.iload 6, 2) := by decide +kernel
theorem dX12_become_122 : decode cX12_become 122 = .ok (.baload, 1) := by decide +kernel
theorem dX12_become_123 : decode cX12_become 123 = .ok (.iload 5, 2) := by decide +kernel
theorem dX12_become_125 : decode cX12_become 125 = .ok (.if_icmp .ne 49, 3) := by decide +kernel
theorem dX12_become_128 : decode cX12_become 128 = .ok (.aload_n 0, 1) := by decide +kernel
theorem dX12_become_129 : decode cX12_become 129 = .ok (.iload 6, 2) := by decide +kernel
theorem dX12_become_131 : decode cX12_become 131 = .ok (.invokevirtual 486, 3) := by decide +kernel
theorem dX12_become_134 : decode cX12_become 134 = .ok (.lload_n 3, 1) := by decide +kernel
theorem dX12_become_135 : decode cX12_become 135 = .ok (.lcmp, 1) := by decide +kernel
theorem dX12_become_136 : decode cX12_become 136 = .ok (.ifCond .eq 6, 3) := by decide +kernel
theorem dX12_become_139 : decode cX12_become 139 = .ok (.goto 35, 3) := by decide +kernel
theorem dX12_become_142 : decode cX12_become 142 = .ok (.aload_n 0, 1) := by decide +kernel
theorem dX12_become_143 : decode cX12_become 143 = .ok (.getfield 272, 3) := by decide +kernel
theorem dX12_become_146 : decode cX12_become 146 = .ok (.iload 6, 2) := by decide +kernel
theorem dX12_become_148 : decode cX12_become 148 = .ok (.iconst 1, 1) := by decide +kernel
theorem dX12_become_149 : decode cX12_become 149 = .ok (.bastore, 1) := by decide +kernel
theorem dX12_become_150 : decode cX12_become 150 = .ok (.aload_n 0, 1) := by decide +kernel
theorem dX12_become_151 : decode cX12_become 151 = .ok (.iload 5, 2) := by decide +kernel
theorem dX12_become_153 : decode cX12_become 153 = .ok (.aload_n 0, 1) := by decide +kernel
theorem dX12_become_154 : decode cX12_become 154 = .ok (.getfield 269, 3) := by decide +kernel
theorem dX12_become_157 : decode cX12_become 157 = .ok (.iload 6, 2) := by decide +kernel
theorem dX12_become_159 : decode cX12_become 159 = .ok (.saload, 1) := by decide +kernel
theorem dX12_become_160 : decode cX12_become 160 = .ok (.aload_n 0, 1) := by decide +kernel
theorem dX12_become_161 : decode cX12_become 161 = .ok (.getfield 64, 3) := by decide +kernel
theorem dX12_become_164 : decode cX12_become 164 = .ok (.aload_n 0, 1) := by decide +kernel
theorem dX12_become_165 : decode cX12_become 165 = .ok (.getfield 269, 3) := by decide +kernel
theorem dX12_become_168 : decode cX12_become 168 = .ok (.iload 6, 2) := by decide +kernel
theorem dX12_become_170 : decode cX12_become 170 = .ok (.saload, 1) := by decide +kernel
theorem dX12_become_171 : decode cX12_become 171 = .ok (.invokevirtual 465, 3) := by decide +kernel
theorem dX12_become_174 : decode cX12_become 174 = .ok (.iinc 6 1, 3) := by decide +kernel
theorem dX12_become_177 : decode cX12_become 177 = .ok (.goto (-80), 3) := by decide +kernel
theorem dX12_become_180 : decode cX12_become 180 = .ok (.iinc 5 1, 3) := by decide +kernel
theorem dX12_become_183 : decode cX12_become 183 = .ok (.goto (-98), 3) := by decide +kernel
theorem dX12_become_186 : decode cX12_become 186 = .ok (.aload_n 0, 1) := by decide +kernel
theorem dX12_become_187 : decode cX12_become 187 = .ok (.invokevirtual 186, 3) := by decide +kernel
theorem dX12_become_190 : decode cX12_become 190 = .ok (.goto (-188), 3) := by decide +kernel
theorem dX12_become_193 : decode cX12_become 193 = .ok (.aload_n 0, 1) := by decide +kernel
theorem dX12_become_194 : decode cX12_become 194 = .ok (.iload_n 1, 1) := by decide +kernel
theorem dX12_become_195 : decode cX12_become 195 = .ok (.putfield 64, 3) := by decide +kernel
theorem dX12_become_198 : decode cX12_become 198 = .ok (.return_, 1) := by decide +kernel
theorem dX12_finds_0 : decode cX12_finds 0 = .ok (.aload_n 0, 1) := by decide +kernel
theorem dX12_finds_1 : decode cX12_finds 1 = .ok (.getfield 83, 3) := by decide +kernel
theorem dX12_finds_4 : decode cX12_finds 4 = .ok (.iload_n 1, 1) := by decide +kernel
theorem dX12_finds_5 : decode cX12_finds 5 = .ok (.dup2, 1) := by decide +kernel
theorem dX12_finds_6 : decode cX12_finds 6 = .ok (.iaload, 1) := by decide +kernel
theorem dX12_finds_7 : decode cX12_finds 7 = .ok (.iconst 1, 1) := by decide +kernel
theorem dX12_finds_8 : decode cX12_finds 8 = .ok (.iadd, 1) := by decide +kernel
theorem dX12_finds_9 : decode cX12_finds 9 = .ok (.iastore, 1) := by decide +kernel
theorem dX12_finds_10 : decode cX12_finds 10 = .ok (.sipush 4000, 3) := by decide +kernel
theorem dX12_finds_13 : decode cX12_finds 13 = .ok (.iload_n 1, 1) := by decide +kernel
theorem dX12_finds_14 : decode cX12_finds 14 = .ok (.imul, 1) := by decide +kernel
theorem dX12_finds_15 : decode cX12_finds 15 = .ok (.aload_n 0, 1) := by decide +kernel
theorem dX12_finds_16 : decode cX12_finds 16 = .ok (.getfield 87, 3) := by decide +kernel
theorem dX12_finds_19 : decode cX12_finds 19 = .ok (.sipush 4000, 3) := by decide +kernel
theorem dX12_finds_22 : decode cX12_finds 22 = .ok (.iload_n 1, 1) := by decide +kernel
theorem dX12_finds_23 : decode cX12_finds 23 = .ok (.imul, 1) := by decide +kernel
theorem dX12_finds_24 : decode cX12_finds 24 = .ok (.iload_n 2, 1) := by decide +kernel
theorem dX12_finds_25 : decode cX12_finds 25 = .ok (.iadd, 1) := by decide +kernel
theorem dX12_finds_26 : decode cX12_finds 26 = .ok (.saload, 1) := by decide +kernel
theorem dX12_finds_27 : decode cX12_finds 27 = .ok (.iadd, 1) := by decide +kernel
theorem dX12_finds_28 : decode cX12_finds 28 = .ok (.istore 5, 2) := by decide +kernel
theorem dX12_finds_30 : decode cX12_finds 30 = .ok (.aload_n 0, 1) := by decide +kernel
theorem dX12_finds_31 : decode cX12_finds 31 = .ok (.getfield 91, 3) := by decide +kernel
theorem dX12_finds_34 : decode cX12_finds 34 = .ok (.iload 5, 2) := by decide +kernel
theorem dX12_finds_36 : decode cX12_finds 36 = .ok (.iaload, 1) := by decide +kernel
theorem dX12_finds_37 : decode cX12_finds 37 = .ok (.ifCond .lt 56, 3) := by decide +kernel
theorem dX12_finds_40 : decode cX12_finds 40 = .ok (.aload_n 0, 1) := by decide +kernel
theorem dX12_finds_41 : decode cX12_finds 41 = .ok (.getfield 91, 3) := by decide +kernel
theorem dX12_finds_44 : decode cX12_finds 44 = .ok (.iload 5, 2) := by decide +kernel
theorem dX12_finds_46 : decode cX12_finds 46 = .ok (.iaload, 1) := by decide +kernel
theorem dX12_finds_47 : decode cX12_finds 47 = .ok (.i2l, 1) := by decide +kernel
theorem dX12_finds_48 : decode cX12_finds 48 = .ok (.iload_n 3, 1) := by decide +kernel
theorem dX12_finds_49 : decode cX12_finds 49 = .ok (.i2l, 1) := by decide +kernel
theorem dX12_finds_50 : decode cX12_finds 50 = .ok (.aload_n 0, 1) := by decide +kernel
theorem dX12_finds_51 : decode cX12_finds 51 = .ok (.getfield 229, 3) := by decide +kernel
theorem dX12_finds_54 : decode cX12_finds 54 = .ok (.bipush 12, 2) := by decide +kernel
theorem dX12_finds_56 : decode cX12_finds 56 = .ok (.aload_n 0, 1) := by decide +kernel
theorem dX12_finds_57 : decode cX12_finds 57 = .ok (.getfield 368, 3) := by decide +kernel
theorem dX12_finds_60 : decode cX12_finds 60 = .ok (.imul, 1) := by decide +kernel
theorem dX12_finds_61 : decode cX12_finds 61 = .ok (.iload_n 1, 1) := by decide +kernel
theorem dX12_finds_62 : decode cX12_finds 62 = .ok (.iadd, 1) := by decide +kernel
theorem dX12_finds_63 : decode cX12_finds 63 = .ok (.iaload, 1) := by decide +kernel
theorem dX12_finds_64 : decode cX12_finds 64 = .ok (.i2l, 1) := by decide +kernel
theorem dX12_finds_65 : decode cX12_finds 65 = .ok (.lsub, 1) := by decide +kernel
theorem dX12_finds_66 : decode cX12_finds 66 = .ok (.lcmp, 1) := by decide +kernel
theorem dX12_finds_67 : decode cX12_finds 67 = .ok (.ifCond .le 26, 3) := by decide +kernel
theorem dX12_finds_70 : decode cX12_finds 70 = .ok (.aload_n 0, 1) := by decide +kernel
theorem dX12_finds_71 : decode cX12_finds 71 = .ok (.getfield 94, 3) := by decide +kernel
theorem dX12_finds_74 : decode cX12_finds 74 = .ok (.iload 5, 2) := by decide +kernel
theorem dX12_finds_76 : decode cX12_finds 76 = .ok (.dup2, 1) := by decide +kernel
theorem dX12_finds_77 : decode cX12_finds 77 = .ok (.saload, 1) := by decide +kernel
theorem dX12_finds_78 : decode cX12_finds 78 = .ok (.iconst 1, 1) := by decide +kernel
theorem dX12_finds_79 : decode cX12_finds 79 = .ok (.iadd, 1) := by decide +kernel
theorem dX12_finds_80 : decode cX12_finds 80 = .ok (.i2s, 1) := by decide +kernel
theorem dX12_finds_81 : decode cX12_finds 81 = .ok (.sastore, 1) := by decide +kernel
theorem dX12_finds_82 : decode cX12_finds 82 = .ok (.aload_n 0, 1) := by decide +kernel
theorem dX12_finds_83 : decode cX12_finds 83 = .ok (.dup, 1) := by decide +kernel
theorem dX12_finds_84 : decode cX12_finds 84 = .ok (.getfield 77, 3) := by decide +kernel
theorem dX12_finds_87 : decode cX12_finds 87 = .ok (.iconst 1, 1) := by decide +kernel
theorem dX12_finds_88 : decode cX12_finds 88 = .ok (.iadd, 1) := by decide +kernel
theorem dX12_finds_89 : decode cX12_finds 89 = .ok (.putfield 77, 3) := by decide +kernel
theorem dX12_finds_92 : decode cX12_finds 92 = .ok (.return_, 1) := by decide +kernel
theorem dX12_finds_93 : decode cX12_finds 93 = .ok (.aload_n 0, 1) := by decide +kernel
theorem dX12_finds_94 : decode cX12_finds 94 = .ok (.getfield 74, 3) := by decide +kernel
theorem dX12_finds_97 : decode cX12_finds 97 = .ok (.sipush 500, 3) := by decide +kernel
theorem dX12_finds_100 : decode cX12_finds 100 = .ok (.if_icmp .ge 63, 3) := by decide +kernel
theorem dX12_finds_103 : decode cX12_finds 103 = .ok (.aload_n 0, 1) := by decide +kernel
theorem dX12_finds_104 : decode cX12_finds 104 = .ok (.getfield 275, 3) := by decide +kernel
theorem dX12_finds_107 : decode cX12_finds 107 = .ok (.aload_n 0, 1) := by decide +kernel
theorem dX12_finds_108 : decode cX12_finds 108 = .ok (.getfield 74, 3) := by decide +kernel
theorem dX12_finds_111 : decode cX12_finds 111 = .ok (.iload_n 1, 1) := by decide +kernel
theorem dX12_finds_112 : decode cX12_finds 112 = .ok (.i2s, 1) := by decide +kernel
theorem dX12_finds_113 : decode cX12_finds 113 = .ok (.sastore, 1) := by decide +kernel
theorem dX12_finds_114 : decode cX12_finds 114 = .ok (.aload_n 0, 1) := by decide +kernel
theorem dX12_finds_115 : decode cX12_finds 115 = .ok (.getfield 287, 3) := by decide +kernel
theorem dX12_finds_118 : decode cX12_finds 118 = .ok (.aload_n 0, 1) := by decide +kernel
theorem dX12_finds_119 : decode cX12_finds 119 = .ok (.getfield 74, 3) := by decide +kernel
theorem dX12_finds_122 : decode cX12_finds 122 = .ok (.iload_n 3, 1) := by decide +kernel
theorem dX12_finds_123 : decode cX12_finds 123 = .ok (.iastore, 1) := by decide +kernel
theorem dX12_finds_124 : decode cX12_finds 124 = .ok (.aload_n 0, 1) := by decide +kernel
theorem dX12_finds_125 : decode cX12_finds 125 = .ok (.getfield 278, 3) := by decide +kernel
theorem dX12_finds_128 : decode cX12_finds 128 = .ok (.aload_n 0, 1) := by decide +kernel
theorem dX12_finds_129 : decode cX12_finds 129 = .ok (.getfield 74, 3) := by decide +kernel
theorem dX12_finds_132 : decode cX12_finds 132 = .ok (.iload 4, 2) := by decide +kernel
theorem dX12_finds_134 : decode cX12_finds 134 = .ok (.i2s, 1) := by decide +kernel
theorem dX12_finds_135 : decode cX12_finds 135 = .ok (.sastore, 1) := by decide +kernel
theorem dX12_finds_136 : decode cX12_finds 136 = .ok (.aload_n 0, 1) := by decide +kernel
theorem dX12_finds_137 : decode cX12_finds 137 = .ok (.getfield 281, 3) := by decide +kernel
theorem dX12_finds_140 : decode cX12_finds 140 = .ok (.aload_n 0, 1) := by decide +kernel
theorem dX12_finds_141 : decode cX12_finds 141 = .ok (.getfield 74, 3) := by decide +kernel
theorem dX12_finds_144 : decode cX12_finds 144 = .ok (.iload_n 2, 1) := by decide +kernel
theorem dX12_finds_145 : decode cX12_finds 145 = .ok (.i2s, 1) := by decide +kernel
theorem dX12_finds_146 : decode cX12_finds 146 = .ok (.sastore, 1) := by decide +kernel
theorem dX12_finds_147 : decode cX12_finds 147 = .ok (.aload_n 0, 1) := by decide +kernel
theorem dX12_finds_148 : decode cX12_finds 148 = .ok (.getfield 284, 3) := by decide +kernel
theorem dX12_finds_151 : decode cX12_finds 151 = .ok (.aload_n 0, 1) := by decide +kernel
theorem dX12_finds_152 : decode cX12_finds 152 = .ok (.getfield 74, 3) := by decide +kernel
theorem dX12_finds_155 : decode cX12_finds 155 = .ok (.aload_n 0, 1) := by decide +kernel
theorem dX12_finds_156 : decode cX12_finds 156 = .ok (.getfield 94, 3) := by decide +kernel
theorem dX12_finds_159 : decode cX12_finds 159 = .ok (.iload 5, 2) := by decide +kernel
theorem dX12_finds_161 : decode cX12_finds 161 = .ok (.saload, 1) := by decide +kernel
theorem dX12_finds_162 : decode cX12_finds 162 = .ok (.sastore, 1) := by decide +kernel
theorem dX12_finds_163 : decode cX12_finds 163 = .ok (.aload_n 0, 1) := by decide +kernel
theorem dX12_finds_164 : decode cX12_finds 164 = .ok (.dup, 1) := by decide +kernel
theorem dX12_finds_165 : decode cX12_finds 165 = .ok (.getfield 74, 3) := by decide +kernel
theorem dX12_finds_168 : decode cX12_finds 168 = .ok (.iconst 1, 1) := by decide +kernel
theorem dX12_finds_169 : decode cX12_finds 169 = .ok (.iadd, 1) := by decide +kernel
theorem dX12_finds_170 : decode cX12_finds 170 = .ok (.putfield 74, 3) := by decide +kernel
