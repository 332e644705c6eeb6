theorem dX12_readWhat_56 : decode cX12_readWhat 56 = .ok (.iconst 2, 1) := by decide +kernel
theorem dX12_readWhat_57 : decode cX12_readWhat 57 = .ok (.iastore, 1) := by decide +kernel
theorem dX12_readWhat_58 : decode cX12_readWhat 58 = .ok (.aload_n 0, 1) := by decide +kernel
theorem dX12_readWhat_59 : decode cX12_readWhat 59 = .ok (.invokevirtual 359, 3) := by decide +kernel
theorem dX12_readWhat_62 : decode cX12_readWhat 62 = .ok (.aload_n 0, 1) := by decide +kernel
theorem dX12_readWhat_63 : decode cX12_readWhat 63 = .ok (.iconst 1, 1) := by decide +kernel
theorem dX12_readWhat_64 : decode cX12_readWhat 64 = .ok (.aload_n 0, 1) := by decide +kernel
theorem dX12_readWhat_65 : decode cX12_readWhat 65 = .ok (.getfield 208, 3) := by decide +kernel
theorem dX12_readWhat_68 : decode cX12_readWhat 68 = .ok (.iload_n 1, 1) := by decide +kernel
theorem dX12_readWhat_69 : decode cX12_readWhat 69 = .ok (.iaload, 1) := by decide +kernel
theorem dX12_readWhat_70 : decode cX12_readWhat 70 = .ok (.iconst 2, 1) := by decide +kernel
theorem dX12_readWhat_71 : decode cX12_readWhat 71 = .ok (.if_icmp .ne 9, 3) := by decide +kernel
theorem dX12_readWhat_74 : decode cX12_readWhat 74 = .ok (.ldc_w 405, 3) := by decide +kernel
theorem dX12_readWhat_77 : decode cX12_readWhat 77 = .ok (.goto 6, 3) := by decide +kernel
theorem dX12_readWhat_80 : decode cX12_readWhat 80 = .ok (.sipush 1000, 3) := by decide +kernel
theorem dX12_readWhat_83 : decode cX12_readWhat 83 = .ok (.invokevirtual 399, 3) := by decide +kernel
theorem dX12_readWhat_86 : decode cX12_readWhat 86 = .ok (.ifCond .ne 5, 3) := by decide +kernel
theorem dX12_readWhat_89 : decode cX12_readWhat 89 = .ok (.iconst 0, 1) := by decide +kernel
theorem dX12_readWhat_90 : decode cX12_readWhat 90 = .ok (.ireturn, 1) := by decide +kernel
theorem dX12_readWhat_91 : decode cX12_readWhat 91 = .ok (.aload_n 0, 1) := by decide +kernel
theorem dX12_readWhat_92 : decode cX12_readWhat 92 = .ok (.getfield 211, 3) := by decide +kernel
theorem dX12_readWhat_95 : decode cX12_readWhat 95 = .ok (.iload_n 1, 1) := by decide +kernel
theorem dX12_readWhat_96 : decode cX12_readWhat 96 = .ok (.aload_n 0, 1) := by decide +kernel
theorem dX12_readWhat_97 : decode cX12_readWhat 97 = .ok (.getfield 365, 3) := by decide +kernel
theorem dX12_readWhat_100 : decode cX12_readWhat 100 = .ok (.iastore, 1) := by decide +kernel
theorem dX12_readWhat_101 : decode cX12_readWhat 101 = .ok (.aload_n 0, 1) := by decide +kernel
theorem dX12_readWhat_102 : decode cX12_readWhat 102 = .ok (.getfield 208, 3) := by decide +kernel
theorem dX12_readWhat_105 : decode cX12_readWhat 105 = .ok (.iload_n 1, 1) := by decide +kernel
theorem dX12_readWhat_106 : decode cX12_readWhat 106 = .ok (.iaload, 1) := by decide +kernel
theorem dX12_readWhat_107 : decode cX12_readWhat 107 = .ok (.ifCond .eq 29, 3) := by decide +kernel
theorem dX12_readWhat_110 : decode cX12_readWhat 110 = .ok (.aload_n 0, 1) := by decide +kernel
theorem dX12_readWhat_111 : decode cX12_readWhat 111 = .ok (.invokevirtual 386, 3) := by decide +kernel
theorem dX12_readWhat_114 : decode cX12_readWhat 114 = .ok (.ifCond .ne 8, 3) := by decide +kernel
theorem dX12_readWhat_117 : decode cX12_readWhat 117 = .ok (.aload_n 0, 1) := by decide +kernel
theorem dX12_readWhat_118 : decode cX12_readWhat 118 = .ok (.invokevirtual 356, 3) := by decide +kernel
theorem dX12_readWhat_121 : decode cX12_readWhat 121 = .ok (.ireturn, 1) := by decide +kernel
theorem dX12_readWhat_122 : decode cX12_readWhat 122 = .ok (.aload_n 0, 1) := by decide +kernel
theorem dX12_readWhat_123 : decode cX12_readWhat 123 = .ok (.getfield 202, 3) := by decide +kernel
theorem dX12_readWhat_126 : decode cX12_readWhat 126 = .ok (.iload_n 1, 1) := by decide +kernel
theorem dX12_readWhat_127 : decode cX12_readWhat 127 = .ok (.aload_n 0, 1) := by decide +kernel
theorem dX12_readWhat_128 : decode cX12_readWhat 128 = .ok (.getfield 337, 3) := by decide +kernel
theorem dX12_readWhat_131 : decode cX12_readWhat 131 = .ok (.lastore, 1) := by decide +kernel
theorem dX12_readWhat_132 : decode cX12_readWhat 132 = .ok (.aload_n 0, 1) := by decide +kernel
theorem dX12_readWhat_133 : decode cX12_readWhat 133 = .ok (.invokevirtual 359, 3) := by decide +kernel
theorem dX12_readWhat_136 : decode cX12_readWhat 136 = .ok (.aload_n 0, 1) := by decide +kernel
theorem dX12_readWhat_137 : decode cX12_readWhat 137 = .ok (.iconst 5, 1) := by decide +kernel
theorem dX12_readWhat_138 : decode cX12_readWhat 138 = .ok (.invokevirtual 395, 3) := by decide +kernel
theorem dX12_readWhat_141 : decode cX12_readWhat 141 = .ok (.ifCond .eq 15, 3) := by decide +kernel
theorem dX12_readWhat_144 : decode cX12_readWhat 144 = .ok (.aload_n 0, 1) := by decide +kernel
theorem dX12_readWhat_145 : decode cX12_readWhat 145 = .ok (.iload_n 1, 1) := by decide +kernel
theorem dX12_readWhat_146 : decode cX12_readWhat 146 = .ok (.invokevirtual 406, 3) := by decide +kernel
theorem dX12_readWhat_149 : decode cX12_readWhat 149 = .ok (.ifCond .eq 7, 3) := by decide +kernel
theorem dX12_readWhat_152 : decode cX12_readWhat 152 = .ok (.iconst 1, 1) := by decide +kernel
theorem dX12_readWhat_153 : decode cX12_readWhat 153 = .ok (.goto 4, 3) := by decide +kernel
theorem dX12_readWhat_156 : decode cX12_readWhat 156 = .ok (.iconst 0, 1) := by decide +kernel
theorem dX12_readWhat_157 : decode cX12_readWhat 157 = .ok (.ireturn, 1) := by decide +kernel
theorem dX12_readWhat_158 : decode cX12_readWhat 158 = .ok (.aload_n 0, 1) := by decide +kernel
theorem dX12_readWhat_159 : decode cX12_readWhat 159 = .ok (.bipush 11, 2) := by decide +kernel
theorem dX12_readWhat_161 : decode cX12_readWhat 161 = .ok (.invokevirtual 353, 3) := by decide +kernel
theorem dX12_readWhat_164 : decode cX12_readWhat 164 = .ok (.ifCond .eq 45, 3) := by decide +kernel
theorem dX12_readWhat_167 : decode cX12_readWhat 167 = .ok (.aload_n 0, 1) := by decide +kernel
theorem dX12_readWhat_168 : decode cX12_readWhat 168 = .ok (.getfield 208, 3) := by decide +kernel
theorem dX12_readWhat_171 : decode cX12_readWhat 171 = .ok (.iload_n 1, 1) := by decide +kernel
theorem dX12_readWhat_172 : decode cX12_readWhat 172 = .ok (.iconst 4, 1) := by decide +kernel
theorem dX12_readWhat_173 : decode cX12_readWhat 173 = .ok (.iastore, 1) := by decide +kernel
theorem dX12_readWhat_174 : decode cX12_readWhat 174 = .ok (.aload_n 0, 1) := by decide +kernel
theorem dX12_readWhat_175 : decode cX12_readWhat 175 = .ok (.invokevirtual 359, 3) := by decide +kernel
theorem dX12_readWhat_178 : decode cX12_readWhat 178 = .ok (.aload_n 0, 1) := by decide +kernel
theorem dX12_readWhat_179 : decode cX12_readWhat 179 = .ok (.iload_n 1, 1) := by decide +kernel
theorem dX12_readWhat_180 : decode cX12_readWhat 180 = .ok (.invokevirtual 406, 3) := by decide +kernel
theorem dX12_readWhat_183 : decode cX12_readWhat 183 = .ok (.ifCond .eq 24, 3) := by decide +kernel
theorem dX12_readWhat_186 : decode cX12_readWhat 186 = .ok (.aload_n 0, 1) := by decide +kernel
theorem dX12_readWhat_187 : decode cX12_readWhat 187 = .ok (.bipush 9, 2) := by decide +kernel
theorem dX12_readWhat_189 : decode cX12_readWhat 189 = .ok (.invokevirtual 395, 3) := by decide +kernel
theorem dX12_readWhat_192 : decode cX12_readWhat 192 = .ok (.ifCond .eq 15, 3) := by decide +kernel
theorem dX12_readWhat_195 : decode cX12_readWhat 195 = .ok (.aload_n 0, 1) := by decide +kernel
theorem dX12_readWhat_196 : decode cX12_readWhat 196 = .ok (.iload_n 1, 1) := by decide +kernel
theorem dX12_readWhat_197 : decode cX12_readWhat 197 = .ok (.invokevirtual 406, 3) := by decide +kernel
theorem dX12_readWhat_200 : decode cX12_readWhat 200 = .ok (.ifCond .eq 7, 3) := by decide +kernel
theorem dX12_readWhat_203 : decode cX12_readWhat 203 = .ok (.iconst 1, 1) := by decide +kernel
theorem dX12_readWhat_204 : decode cX12_readWhat 204 = .ok (.goto 4, 3) := by decide +kernel
theorem dX12_readWhat_207 : decode cX12_readWhat 207 = .ok (.iconst 0, 1) := by decide +kernel
theorem dX12_readWhat_208 : decode cX12_readWhat 208 = .ok (.ireturn, 1) := by decide +kernel
theorem dX12_readWhat_209 : decode cX12_readWhat 209 = .ok (.aload_n 0, 1) := by decide +kernel
theorem dX12_readWhat_210 : decode cX12_readWhat 210 = .ok (.bipush 8, 2) := by decide +kernel
theorem dX12_readWhat_212 : decode cX12_readWhat 212 = .ok (.invokevirtual 353, 3) := by decide +kernel
theorem dX12_readWhat_215 : decode cX12_readWhat 215 = .ok (.ifCond .ne 8, 3) := by decide +kernel
theorem dX12_readWhat_218 : decode cX12_readWhat 218 = .ok (.aload_n 0, 1) := by decide +kernel
theorem dX12_readWhat_219 : decode cX12_readWhat 219 = .ok (.invokevirtual 356, 3) := by decide +kernel
theorem dX12_readWhat_222 : decode cX12_readWhat 222 = .ok (.ireturn, 1) := by decide +kernel
theorem dX12_readWhat_223 : decode cX12_readWhat 223 = .ok (.aload_n 0, 1) := by decide +kernel
theorem dX12_readWhat_224 : decode cX12_readWhat 224 = .ok (.getfield 208, 3) := by decide +kernel
theorem dX12_readWhat_227 : decode cX12_readWhat 227 = .ok (.iload_n 1, 1) := by decide +kernel
theorem dX12_readWhat_228 : decode cX12_readWhat 228 = .ok (.iconst 3, 1) := by decide +kernel
theorem dX12_readWhat_229 : decode cX12_readWhat 229 = .ok (.iastore, 1) := by decide +kernel
theorem dX12_readWhat_230 : decode cX12_readWhat 230 = .ok (.aload_n 0, 1) := by decide +kernel
theorem dX12_readWhat_231 : decode cX12_readWhat 231 = .ok (.invokevirtual 359, 3) := by decide +kernel
theorem dX12_readWhat_234 : decode cX12_readWhat 234 = .ok (.aload_n 0, 1) := by decide +kernel
theorem dX12_readWhat_235 : decode cX12_readWhat 235 = .ok (.iload_n 1, 1) := by decide +kernel
theorem dX12_readWhat_236 : decode cX12_readWhat 236 = .ok (.invokevirtual 406, 3) := by decide +kernel
theorem dX12_readWhat_239 : decode cX12_readWhat 239 = .ok (.ifCond .ne 5, 3) := by decide +kernel
theorem dX12_readWhat_242 : decode cX12_readWhat 242 = .ok (.iconst 0, 1) := by decide +kernel
theorem dX12_readWhat_243 : decode cX12_readWhat 243 = .ok (.ireturn, 1) := by decide +kernel
theorem dX12_readWhat_244 : decode cX12_readWhat 244 = .ok (.aload_n 0, 1) := by decide +kernel
theorem dX12_readWhat_245 : decode cX12_readWhat 245 = .ok (.bipush 9, 2) := by decide +kernel
theorem dX12_readWhat_247 : decode cX12_readWhat 247 = .ok (.invokevirtual 353, 3) := by decide +kernel
theorem dX12_readWhat_250 : decode cX12_readWhat 250 = .ok (.ifCond .eq 37, 3) := by decide +kernel
theorem dX12_readWhat_253 : decode cX12_readWhat 253 = .ok (.aload_n 0, 1) := by decide +kernel
theorem dX12_readWhat_254 : decode cX12_readWhat 254 = .ok (.getfield 214, 3) := by decide +kernel
theorem dX12_readWhat_257 : decode cX12_readWhat 257 = .ok (.iload_n 1, 1) := by decide +kernel
theorem dX12_readWhat_258 : decode cX12_readWhat 258 = .ok (.iaload, 1) := by decide +kernel
theorem dX12_readWhat_259 : decode cX12_readWhat 259 = .ok (.iconst 5, 1) := by decide +kernel
theorem dX12_readWhat_260 : decode cX12_readWhat 260 = .ok (.if_icmp .ne 13, 3) := by decide +kernel
theorem dX12_readWhat_263 : decode cX12_readWhat 263 = .ok (.aload_n 0, 1) := by decide +kernel
theorem dX12_readWhat_264 : decode cX12_readWhat 264 = .ok (.iconst 4, 1) := by decide +kernel
theorem dX12_readWhat_265 : decode cX12_readWhat 265 = .ok (.aload_n 0, 1) := by decide +kernel
theorem dX12_readWhat_266 : decode cX12_readWhat 266 = .ok (.getfield 313, 3) := by decide +kernel
theorem dX12_readWhat_269 : decode cX12_readWhat 269 = .ok (.invokevirtual 111, 3) := by decide +kernel
theorem dX12_readWhat_272 : decode cX12_readWhat 272 = .ok (.ireturn, 1) := by decide +kernel
theorem dX12_readWhat_273 : decode cX12_readWhat 273 = .ok (.aload_n 0, 1) := by decide +kernel
theorem dX12_readWhat_274 : decode cX12_readWhat 274 = .ok (.invokevirtual 359, 3) := by decide +kernel
theorem dX12_readWhat_277 : decode cX12_readWhat 277 = .ok (.aload_n 0, 1) := by decide +kernel
theorem dX12_readWhat_278 : decode cX12_readWhat 278 = .ok (.iload_n 1, 1) := by decide +kernel
theorem dX12_readWhat_279 : decode cX12_readWhat 279 = .ok (.invokevirtual 406, 3) := by decide +kernel
theorem dX12_readWhat_282 : decode cX12_readWhat 282 = .ok (.ifCond .ne (-38), 3) := by decide +kernel
theorem dX12_readWhat_285 : decode cX12_readWhat 285 = .ok (.iconst 0, 1) := by decide +kernel
theorem dX12_readWhat_286 : decode cX12_readWhat 286 = .ok (.ireturn, 1) := by decide +kernel
theorem dX12_readWhat_287 : decode cX12_readWhat 287 = .ok (.aload_n 0, 1) := by decide +kernel
theorem dX12_readWhat_288 : decode cX12_readWhat 288 = .ok (.bipush 10, 2) := by decide +kernel
theorem dX12_readWhat_290 : decode cX12_readWhat 290 = .ok (.invokevirtual 353, 3) := by decide +kernel
theorem dX12_readWhat_293 : decode cX12_readWhat 293 = .ok (.ifCond .ne 5, 3) := by decide +kernel
theorem dX12_readWhat_296 : decode cX12_readWhat 296 = .ok (.iconst 1, 1) := by decide +kernel
theorem dX12_readWhat_297 : decode cX12_readWhat 297 = .ok (.ireturn, 1) := by decide +kernel
theorem dX12_readWhat_298 : decode cX12_readWhat 298 = .ok (.aload_n 0, 1) := by decide +kernel
theorem dX12_readWhat_299 : decode cX12_readWhat 299 = .ok (.invokevirtual 359, 3) := by decide +kernel
theorem dX12_readWhat_302 : decode cX12_readWhat 302 = .ok (.aload_n 0, 1) := by decide +kernel
theorem dX12_readWhat_303 : decode cX12_readWhat 303 = .ok (.iconst 0, 1) := by decide +kernel
theorem dX12_readWhat_304 : decode cX12_readWhat 304 = .ok (.putfield 409, 3) := by decide +kernel
theorem dX12_readWhat_307 : decode cX12_readWhat 307 = .ok (.aload_n 0, 1) := by decide +kernel
theorem dX12_readWhat_308 : decode cX12_readWhat 308 = .ok (.getfield 220, 3) := by decide +kernel
theorem dX12_readWhat_311 : decode cX12_readWhat 311 = .ok (.iload_n 1, 1) := by decide +kernel
theorem dX12_readWhat_312 : decode cX12_readWhat 312 = .ok (.aload_n 0, 1) := by decide +kernel
theorem dX12_readWhat_313 : decode cX12_readWhat 313 = .ok (.invokevirtual 412, 3) := by decide +kernel
theorem dX12_readWhat_316 : decode cX12_readWhat 316 = .ok (.iastore, 1) := by decide +kernel
theorem dX12_readWhat_317 : decode cX12_readWhat 317 = .ok (.aload_n 0, 1) := by decide +kernel
theorem dX12_readWhat_318 : decode cX12_readWhat 318 = .ok (.getfield 220, 3) := by decide +kernel
theorem dX12_readWhat_321 : decode cX12_readWhat 321 = .ok (.iload_n 1, 1) := by decide +kernel
theorem dX12_readWhat_322 : decode cX12_readWhat 322 = .ok (.iaload, 1) := by decide +kernel
theorem dX12_readWhat_323 : decode cX12_readWhat 323 = .ok (.ifCond .lt 7, 3) := by decide +kernel
theorem dX12_readWhat_326 : decode cX12_readWhat 326 = .ok (.iconst 1, 1) := by decide +kernel
theorem dX12_readWhat_327 : decode cX12_readWhat 327 = .ok (.goto 4, 3) := by decide +kernel
theorem dX12_readWhat_330 : decode cX12_readWhat 330 = .ok (.iconst 0, 1) := by decide +kernel
theorem dX12_readWhat_331 : decode cX12_readWhat 331 = .ok (.ireturn, 1) := by decide +kernel
theorem dX12_readCond_0 : decode cX12_readCond 0 = .ok (.aload_n 0, 1) := by decide +kernel
theorem dX12_readCond_1 : decode cX12_readCond 1 = .ok (.iconst 0, 1) := by decide +kernel
theorem dX12_readCond_2 : decode cX12_readCond 2 = .ok (.putfield 409, 3) := by decide +kernel
theorem dX12_readCond_5 : decode cX12_readCond 5 = .ok (.aload_n 0, 1) := by decide +kernel
theorem dX12_readCond_6 : decode cX12_readCond 6 = .ok (.invokevirtual 412, 3) := by decide +kernel
theorem dX12_readCond_9 : decode cX12_readCond 9 = .ok (.istore_n 2, 1) := by decide +kernel
theorem dX12_readCond_10 : decode cX12_readCond 10 = .ok (.iload_n 2, 1) := by decide +kernel
theorem dX12_readCond_11 : decode cX12_readCond 11 = .ok (.ifCond .ge 5, 3) := by decide +kernel
theorem dX12_readCond_14 : decode cX12_readCond 14 = .ok (.iconst 0, 1) := by decide +kernel
theorem dX12_readCond_15 : decode cX12_readCond 15 = .ok (.ireturn, 1) := by decide +kernel
theorem dX12_readCond_16 : decode cX12_readCond 16 = .ok (.aload_n 0, 1) := by decide +kernel
theorem dX12_readCond_17 : decode cX12_readCond 17 = .ok (.getfield 217, 3) := by decide +kernel
theorem dX12_readCond_20 : decode cX12_readCond 20 = .ok (.bipush 6, 2) := by decide +kernel
theorem dX12_readCond_22 : decode cX12_readCond 22 = .ok (.iload_n 1, 1) := by decide +kernel
theorem dX12_readCond_23 : decode cX12_readCond 23 = .ok (.imul, 1) := by decide +kernel
theorem dX12_readCond_24 : decode cX12_readCond 24 = .ok (.aload_n 0, 1) := by decide +kernel
theorem dX12_readCond_25 : decode cX12_readCond 25 = .ok (.getfield 214, 3) := by decide +kernel
theorem dX12_readCond_28 : decode cX12_readCond 28 = .ok (.iload_n 1, 1) := by decide +kernel
theorem dX12_readCond_29 : decode cX12_readCond 29 = .ok (.iaload, 1) := by decide +kernel
theorem dX12_readCond_30 : decode cX12_readCond 30 = .ok (.iadd, 1) := by decide +kernel
theorem dX12_readCond_31 : decode cX12_readCond 31 = .ok (.iload_n 2, 1) := by decide +kernel
theorem dX12_readCond_32 : decode cX12_readCond 32 = .ok (.iastore, 1) := by decide +kernel
theorem dX12_readCond_33 : decode cX12_readCond 33 = .ok (.aload_n 0, 1) := by decide +kernel
theorem dX12_readCond_34 : decode cX12_readCond 34 = .ok (.getfield 214, 3) := by decide +kernel
theorem dX12_readCond_37 : decode cX12_readCond 37 = .ok (.iload_n 1, 1) := by decide +kernel
theorem dX12_readCond_38 : decode cX12_readCond 38 = .ok (.dup2, 1) := by decide +kernel
theorem dX12_readCond_39 : decode cX12_readCond 39 = .ok (.iaload, 1) := by decide +kernel
theorem dX12_readCond_40 : decode cX12_readCond 40 = .ok (.iconst 1, 1) := by decide +kernel
theorem dX12_readCond_41 : decode cX12_readCond 41 = .ok (.iadd, 1) := by decide +kernel
theorem dX12_readCond_42 : decode cX12_readCond 42 = .ok (.iastore, 1) := by decide +kernel
theorem dX12_readCond_43 : decode cX12_readCond 43 = .ok (.iconst 1, 1) := by decide +kernel
theorem dX12_readCond_44 : decode cX12_readCond 44 = .ok (.ireturn, 1) := by decide +kernel
theorem dX12_node_0 : decode cX12_node 0 = .ok (.aload_n 0, 1) := by decide +kernel
theorem dX12_node_1 : decode cX12_node 1 = .ok (.getfield 235, 3) := by decide +kernel
theorem dX12_node_4 : decode cX12_node 4 = .ok (.aload_n 0, 1) := by decide +kernel
theorem dX12_node_5 : decode cX12_node 5 = .ok (.getfield 374, 3) := by decide +kernel
theorem dX12_node_8 : decode cX12_node 8 = .ok (.iload_n 1, 1) := by decide +kernel
theorem dX12_node_9 : decode cX12_node 9 = .ok (.iastore, 1) := by decide +kernel
theorem dX12_node_10 : decode cX12_node 10 = .ok (.aload_n 0, 1) := by decide +kernel
theorem dX12_node_11 : decode cX12_node 11 = .ok (.getfield 238, 3) := by decide +kernel
theorem dX12_node_14 : decode cX12_node 14 = .ok (.aload_n 0, 1) := by decide +kernel
theorem dX12_node_15 : decode cX12_node 15 = .ok (.getfield 374, 3) := by decide +kernel
theorem dX12_node_18 : decode cX12_node 18 = .ok (.iload_n 2, 1) := by decide +kernel
theorem dX12_node_19 : decode cX12_node 19 = .ok (.iastore, 1) := by decide +kernel
theorem dX12_node_20 : decode cX12_node 20 = .ok (.aload_n 0, 1) := by decide +kernel
theorem dX12_node_21 : decode cX12_node 21 = .ok (.getfield 241, 3) := by decide +kernel
theorem dX12_node_24 : decode cX12_node 24 = .ok (.aload_n 0, 1) := by decide +kernel
theorem dX12_node_25 : decode cX12_node 25 = .ok (.getfield 374, 3) := by decide +kernel
theorem dX12_node_28 : decode cX12_node 28 = .ok (.iload_n 3, 1) := by decide +kernel
theorem dX12_node_29 : decode cX12_node 29 = .ok (.iastore, 1) := by decide +kernel
theorem dX12_node_30 : decode cX12_node 30 = .ok (.aload_n 0, 1) := by decide +kernel
theorem dX12_node_31 : decode cX12_node 31 = .ok (.dup, 1) := by decide +kernel
theorem dX12_node_32 : decode cX12_node 32 = .ok (.getfield 374, 3) := by decide +kernel
theorem dX12_node_35 : decode cX12_node 35 = .ok (.iconst 1, 1) := by decide +kernel
theorem dX12_node_36 : decode cX12_node 36 = .ok (.iadd, 1) := by decide +kernel
theorem dX12_node_37 : decode cX12_node 37 = .ok (.putfield 374, 3) := by decide +kernel
theorem dX12_node_40 : decode cX12_node 40 = .ok (.aload_n 0, 1) := by decide +kernel
theorem dX12_node_41 : decode cX12_node 41 = .ok (.getfield 374, 3) := by decide +kernel
theorem dX12_node_44 : decode cX12_node 44 = .ok (.iconst 1, 1) := by decide +kernel
theorem dX12_node_45 : decode cX12_node 45 = .ok (.isub, 1) := by decide +kernel
theorem dX12_node_46 : decode cX12_node 46 = .ok (.ireturn, 1) := by decide +kernel
theorem dX12_anyOf_0 : decode cX12_anyOf 0 = .ok (.aload_n 0, 1) := by decide +kernel
theorem dX12_anyOf_1 : decode cX12_anyOf 1 = .ok (.invokevirtual 415, 3) := by decide +kernel
theorem dX12_anyOf_4 : decode cX12_anyOf 4 = .ok (.istore_n 1, 1) := by decide +kernel
theorem dX12_anyOf_5 : decode cX12_anyOf 5 = .ok (.iload_n 1, 1) := by decide +kernel
theorem dX12_anyOf_6 : decode cX12_anyOf 6 = .ok (.ifCond .lt 40, 3) := by decide +kernel
theorem dX12_anyOf_9 : decode cX12_anyOf 9 = .ok (.aload_n 0, 1) := by decide +kernel
theorem dX12_anyOf_10 : decode cX12_anyOf 10 = .ok (.bipush 12, 2) := by decide +kernel
theorem dX12_anyOf_12 : decode cX12_anyOf 12 = .ok (.invokevirtual 353, 3) := by decide +kernel
theorem dX12_anyOf_15 : decode cX12_anyOf 15 = .ok (.ifCond .eq 31, 3) := by decide +kernel
theorem dX12_anyOf_18 : decode cX12_anyOf 18 = .ok (.aload_n 0, 1) := by decide +kernel
theorem dX12_anyOf_19 : decode cX12_anyOf 19 = .ok (.invokevirtual 359, 3) := by decide +kernel
theorem dX12_anyOf_22 : decode cX12_anyOf 22 = .ok (.aload_n 0, 1) := by decide +kernel
theorem dX12_anyOf_23 : decode cX12_anyOf 23 = .ok (.invokevirtual 415, 3) := by decide +kernel
theorem dX12_anyOf_26 : decode cX12_anyOf 26 = .ok (.istore_n 2, 1) := by decide +kernel
theorem dX12_anyOf_27 : decode cX12_anyOf 27 = .ok (.iload_n 2, 1) := by decide +kernel
theorem dX12_anyOf_28 : decode cX12_anyOf 28 = .ok (.ifCond .ge 7, 3) := by decide +kernel
theorem dX12_anyOf_31 : decode cX12_anyOf 31 = .ok (.iload_n 2, 1) := by decide +kernel
theorem dX12_anyOf_32 : decode cX12_anyOf 32 = .ok (.goto 10, 3) := by decide +kernel
theorem dX12_anyOf_35 : decode cX12_anyOf 35 = .ok (.aload_n 0, 1) := by decide +kernel
theorem dX12_anyOf_36 : decode cX12_anyOf 36 = .ok (.iconst 0, 1) := by decide +kernel
theorem dX12_anyOf_37 : decode cX12_anyOf 37 = .ok (.iload_n 1, 1) := by decide +kernel
theorem dX12_anyOf_38 : decode cX12_anyOf 38 = .ok (.iload_n 2, 1) := by decide +kernel
theorem dX12_anyOf_39 : decode cX12_anyOf 39 = .ok (.invokevirtual 418, 3) := by decide +kernel
theorem dX12_anyOf_42 : decode cX12_anyOf 42 = .ok (.istore_n 1, 1) := by decide +kernel
theorem dX12_anyOf_43 : decode cX12_anyOf 43 = .ok (.goto (-38), 3) := by decide +kernel
theorem dX12_anyOf_46 : decode cX12_anyOf 46 = .ok (.iload_n 1, 1) := by decide +kernel
theorem dX12_anyOf_47 : decode cX12_anyOf 47 = .ok (.ireturn, 1) := by decide +kernel
theorem dX12_allOf_0 : decode cX12_allOf 0 = .ok (.aload_n 0, 1) := by decide +kernel
theorem dX12_allOf_1 : decode cX12_allOf 1 = .ok (.invokevirtual 422, 3) := by decide +kernel
theorem dX12_allOf_4 : decode cX12_allOf 4 = .ok (.istore_n 1, 1) := by decide +kernel
theorem dX12_allOf_5 : decode cX12_allOf 5 = .ok (.iload_n 1, 1) := by decide +kernel
theorem dX12_allOf_6 : decode cX12_allOf 6 = .ok (.ifCond .lt 40, 3) := by decide +kernel
theorem dX12_allOf_9 : decode cX12_allOf 9 = .ok (.aload_n 0, 1) := by decide +kernel
theorem dX12_allOf_10 : decode cX12_allOf 10 = .ok (.bipush 13, 2) := by decide +kernel
theorem dX12_allOf_12 : decode cX12_allOf 12 = .ok (.invokevirtual 353, 3) := by decide +kernel
theorem dX12_allOf_15 : decode cX12_allOf 15 = .ok (.ifCond .eq 31, 3) := by decide +kernel
theorem dX12_allOf_18 : decode cX12_allOf 18 = .ok (.aload_n 0, 1) := by decide +kernel
theorem dX12_allOf_19 : decode cX12_allOf 19 = .ok (.invokevirtual 359, 3) := by decide +kernel
theorem dX12_allOf_22 : decode cX12_allOf 22 = .ok (.aload_n 0, 1) := by decide +kernel
theorem dX12_allOf_23 : decode cX12_allOf 23 = .ok (.invokevirtual 422, 3) := by decide +kernel
theorem dX12_allOf_26 : decode cX12_allOf 26 = .ok (.istore_n 2, 1) := by decide +kernel
theorem dX12_allOf_27 : decode cX12_allOf 27 = .ok (.iload_n 2, 1) := by decide +kernel
theorem dX12_allOf_28 : decode cX12_allOf 28 = .ok (.ifCond .ge 7, 3) := by decide +kernel
theorem dX12_allOf_31 : decode cX12_allOf 31 = .ok (.iload_n 2, 1) := by decide +kernel
theorem dX12_allOf_32 : decode cX12_allOf 32 = .ok (.goto 10, 3) := by decide +kernel
theorem dX12_allOf_35 : decode cX12_allOf 35 = .ok (.aload_n 0, 1) := by decide +kernel
theorem dX12_allOf_36 : decode cX12_allOf 36 = .ok (.iconst 1, 1) := by decide +kernel
theorem dX12_allOf_37 : decode cX12_allOf 37 = .ok (.iload_n 1, 1) := by decide +kernel
theorem dX12_allOf_38 : decode cX12_allOf 38 = .ok (.iload_n 2, 1) := by decide +kernel
theorem dX12_allOf_39 : decode cX12_allOf 39 = .ok (.invokevirtual 418, 3) := by decide +kernel
theorem dX12_allOf_42 : decode cX12_allOf 42 = .ok (.istore_n 1, 1) := by decide +kernel
theorem dX12_allOf_43 : decode cX12_allOf 43 = .ok (.goto (-38), 3) := by decide +kernel
theorem dX12_allOf_46 : decode cX12_allOf 46 = .ok (.iload_n 1, 1) := by decide +kernel
theorem dX12_allOf_47 : decode cX12_allOf 47 = .ok (.ireturn, 1) := by decide +kernel
theorem dX12_bad_0 : decode cX12_bad 0 = .ok (.iload_n 1, 1) := by decide +kernel
theorem dX12_bad_1 : decode cX12_bad 1 = .ok (.ifCond .eq 7, 3) := by decide +kernel
theorem dX12_bad_4 : decode cX12_bad 4 = .ok (.iconst 0, 1) := by decide +kernel
theorem dX12_bad_5 : decode cX12_bad 5 = .ok (.goto 4, 3) := by decide +kernel
theorem dX12_bad_8 : decode cX12_bad 8 = .ok (.iconst (-1), 1) := by decide +kernel
theorem dX12_bad_9 : decode cX12_bad 9 = .ok (.ireturn, 1) := by decide +kernel
theorem dX12_one_0 : decode cX12_one 0 = .ok (.aload_n 0, 1) := by decide +kernel
theorem dX12_one_1 : decode cX12_one 1 = .ok (.bipush 14, 2) := by decide +kernel
theorem dX12_one_3 : decode cX12_one 3 = .ok (.invokevirtual 353, 3) := by decide +kernel
theorem dX12_one_6 : decode cX12_one 6 = .ok (.ifCond .ne 12, 3) := by decide +kernel
theorem dX12_one_9 : decode cX12_one 9 = .ok (.aload_n 0, 1) := by decide +kernel
theorem dX12_one_10 : decode cX12_one 10 = .ok (.bipush 40, 2) := by decide +kernel
theorem dX12_one_12 : decode cX12_one 12 = .ok (.invokevirtual 362, 3) := by decide +kernel
theorem dX12_one_15 : decode cX12_one 15 = .ok (.ifCond .eq 106, 3) := by decide +kernel
theorem dX12_one_18 : decode cX12_one 18 = .ok (.aload_n 0, 1) := by decide +kernel
theorem dX12_one_19 : decode cX12_one 19 = .ok (.bipush 14, 2) := by decide +kernel
theorem dX12_one_21 : decode cX12_one 21 = .ok (.invokevirtual 353, 3) := by decide +kernel
theorem dX12_one_24 : decode cX12_one 24 = .ok (.istore_n 1, 1) := by decide +kernel
theorem dX12_one_25 : decode cX12_one 25 = .ok (.aload_n 0, 1) := by decide +kernel
theorem dX12_one_26 : decode cX12_one 26 = .ok (.getfield 409, 3) := by decide +kernel
theorem dX12_one_29 : decode cX12_one 29 = .ok (.bipush 13, 2) := by decide +kernel
theorem dX12_one_31 : decode cX12_one 31 = .ok (.if_icmp .ne 17, 3) := by decide +kernel
theorem dX12_one_34 : decode cX12_one 34 = .ok (.aload_n 0, 1) := by decide +kernel
theorem dX12_one_35 : decode cX12_one 35 = .ok (.aload_n 0, 1) := by decide +kernel
theorem dX12_one_36 : decode cX12_one 36 = .ok (.iconst 4, 1) := by decide +kernel
theorem dX12_one_37 : decode cX12_one 37 = .ok (.aload_n 0, 1) := by decide +kernel
theorem dX12_one_38 : decode cX12_one 38 = .ok (.getfield 313, 3) := by decide +kernel
theorem dX12_one_41 : decode cX12_one 41 = .ok (.invokevirtual 111, 3) := by decide +kernel
theorem dX12_one_44 : decode cX12_one 44 = .ok (.invokevirtual 425, 3) := by decide +kernel
theorem dX12_one_47 : decode cX12_one 47 = .ok (.ireturn, 1) := by decide +kernel
theorem dX12_one_48 : decode cX12_one 48 = .ok (.aload_n 0, 1) := by decide +kernel
theorem dX12_one_49 : decode cX12_one 49 = .ok (.dup, 1) := by decide +kernel
theorem dX12_one_50 : decode cX12_one 50 = .ok (.getfield 409, 3) := by decide +kernel
theorem dX12_one_53 : decode cX12_one 53 = .ok (.iconst 1, 1) := by decide +kernel
theorem dX12_one_54 : decode cX12_one 54 = .ok (.iadd, 1) := by decide +kernel
theorem dX12_one_55 : decode cX12_one 55 = .ok (.putfield 409, 3) := by decide +kernel
theorem dX12_one_58 : decode cX12_one 58 = .ok (.aload_n 0, 1) := by decide +kernel
theorem dX12_one_59 : decode cX12_one 59 = .ok (.invokevirtual 359, 3) := by decide +kernel
theorem dX12_one_62 : decode cX12_one 62 = .ok (.iload_n 1, 1) := by decide +kernel
theorem dX12_one_63 : decode cX12_one 63 = .ok (.ifCond .eq 10, 3) := by decide +kernel
theorem dX12_one_66 : decode cX12_one 66 = .ok (.aload_n 0, 1) := by decide +kernel
theorem dX12_one_67 : decode cX12_one 67 = .ok (.invokevirtual 422, 3) := by decide +kernel
theorem dX12_one_70 : decode cX12_one 70 = .ok (.goto 7, 3) := by decide +kernel
theorem dX12_one_73 : decode cX12_one 73 = .ok (.aload_n 0, 1) := by decide +kernel
theorem dX12_one_74 : decode cX12_one 74 = .ok (.invokevirtual 412, 3) := by decide +kernel
theorem dX12_one_77 : decode cX12_one 77 = .ok (.istore_n 2, 1) := by decide +kernel
theorem dX12_one_78 : decode cX12_one 78 = .ok (.iload_n 2, 1) := by decide +kernel
theorem dX12_one_79 : decode cX12_one 79 = .ok (.ifCond .ge 5, 3) := by decide +kernel
theorem dX12_one_82 : decode cX12_one 82 = .ok (.iload_n 2, 1) := by decide +kernel
theorem dX12_one_83 : decode cX12_one 83 = .ok (.ireturn, 1) := by decide +kernel
theorem dX12_one_84 : decode cX12_one 84 = .ok (.aload_n 0, 1) := by decide +kernel
theorem dX12_one_85 : decode cX12_one 85 = .ok (.dup, 1) := by decide +kernel
theorem dX12_one_86 : decode cX12_one 86 = .ok (.getfield 409, 3) := by decide +kernel
theorem dX12_one_89 : decode cX12_one 89 = .ok (.iconst 1, 1) := by decide +kernel
theorem dX12_one_90 : decode cX12_one 90 = .ok (.isub, 1) := by decide +kernel
theorem dX12_one_91 : decode cX12_one 91 = .ok (.putfield 409, 3) := by decide +kernel
theorem dX12_one_94 : decode cX12_one 94 = .ok (.iload_n 1, 1) := by decide +kernel
theorem dX12_one_95 : decode cX12_one 95 = .ok (.ifCond .eq 11, 3) := by decide +kernel
theorem dX12_one_98 : decode cX12_one 98 = .ok (.aload_n 0, 1) := by decide +kernel
theorem dX12_one_99 : decode cX12_one 99 = .ok (.iconst 2, 1) := by decide +kernel
theorem dX12_one_100 : decode cX12_one 100 = .ok (.iload_n 2, 1) := by decide +kernel
theorem dX12_one_101 : decode cX12_one 101 = .ok (.iconst (-1), 1) := by decide +kernel
theorem dX12_one_102 : decode cX12_one 102 = .ok (.invokevirtual 418, 3) := by decide +kernel
theorem dX12_one_105 : decode cX12_one 105 = .ok (.ireturn, 1) := by decide +kernel
theorem dX12_one_106 : decode cX12_one 106 = .ok (.aload_n 0, 1) := by decide +kernel
theorem dX12_one_107 : decode cX12_one 107 = .ok (.bipush 41, 2) := by decide +kernel
theorem dX12_one_109 : decode cX12_one 109 = .ok (.invokevirtual 402, 3) := by decide +kernel
theorem dX12_one_112 : decode cX12_one 112 = .ok (.ifCond .eq 7, 3) := by decide +kernel
theorem dX12_one_115 : decode cX12_one 115 = .ok (.iload_n 2, 1) := by decide +kernel
theorem dX12_one_116 : decode cX12_one 116 = .ok (.goto 4, 3) := by decide +kernel
theorem dX12_one_119 : decode cX12_one 119 = .ok (.iconst (-1), 1) := by decide +kernel
theorem dX12_one_120 : decode cX12_one 120 = .ok (.ireturn, 1) := by decide +kernel
theorem dX12_one_121 : decode cX12_one 121 = .ok (.aload_n 0, 1) := by decide +kernel
theorem dX12_one_122 : decode cX12_one 122 = .ok (.bipush 15, 2) := by decide +kernel
theorem dX12_one_124 : decode cX12_one 124 = .ok (.invokevirtual 353, 3) := by decide +kernel
theorem dX12_one_127 : decode cX12_one 127 = .ok (.ifCond .eq 59, 3) := by decide +kernel
theorem dX12_one_130 : decode cX12_one 130 = .ok (.aload_n 0, 1) := by decide +kernel
theorem dX12_one_131 : decode cX12_one 131 = .ok (.invokevirtual 359, 3) := by decide +kernel
theorem dX12_one_134 : decode cX12_one 134 = .ok (.aload_n 0, 1) := by decide +kernel
theorem dX12_one_135 : decode cX12_one 135 = .ok (.bipush 61, 2) := by decide +kernel
theorem dX12_one_137 : decode cX12_one 137 = .ok (.invokevirtual 402, 3) := by decide +kernel
theorem dX12_one_140 : decode cX12_one 140 = .ok (.ifCond .ne 5, 3) := by decide +kernel
theorem dX12_one_143 : decode cX12_one 143 = .ok (.iconst (-1), 1) := by decide +kernel
theorem dX12_one_144 : decode cX12_one 144 = .ok (.ireturn, 1) := by decide +kernel
theorem dX12_one_145 : decode cX12_one 145 = .ok (.aload_n 0, 1) := by decide +kernel
theorem dX12_one_146 : decode cX12_one 146 = .ok (.getfield 316, 3) := by decide +kernel
theorem dX12_one_149 : decode cX12_one 149 = .ok (.iconst 1, 1) := by decide +kernel
theorem dX12_one_150 : decode cX12_one 150 = .ok (.if_icmp .eq 12, 3) := by decide +kernel
theorem dX12_one_153 : decode cX12_one 153 = .ok (.aload_n 0, 1) := by decide +kernel
theorem dX12_one_154 : decode cX12_one 154 = .ok (.aload_n 0, 1) := by decide +kernel
theorem dX12_one_155 : decode cX12_one 155 = .ok (.invokevirtual 356, 3) := by decide +kernel
theorem dX12_one_158 : decode cX12_one 158 = .ok (.invokevirtual 425, 3) := by decide +kernel
theorem dX12_one_161 : decode cX12_one 161 = .ok (.ireturn, 1) := by decide +kernel
theorem dX12_one_162 : decode cX12_one 162 = .ok (.aload_n 0, 1) := by decide +kernel
theorem dX12_one_163 : decode cX12_one 163 = .ok (.iconst 3, 1) := by decide +kernel
theorem dX12_one_164 : decode cX12_one 164 = .ok (.iconst (-1), 1) := by decide +kernel
theorem dX12_one_165 : decode cX12_one 165 = .ok (.iconst (-1), 1) := by decide +kernel
theorem dX12_one_166 : decode cX12_one 166 = .ok (.invokevirtual 418, 3) := by decide +kernel
theorem dX12_one_169 : decode cX12_one 169 = .ok (.istore_n 1, 1) := by decide +kernel
theorem dX12_one_170 : decode cX12_one 170 = .ok (.aload_n 0, 1) := by decide +kernel
theorem dX12_one_171 : decode cX12_one 171 = .ok (.getfield 250, 3) := by decide +kernel
theorem dX12_one_174 : decode cX12_one 174 = .ok (.iload_n 1, 1) := by decide +kernel
theorem dX12_one_175 : decode cX12_one 175 = .ok (.aload_n 0, 1) := by decide +kernel
theorem dX12_one_176 : decode cX12_one 176 = .ok (.getfield 337, 3) := by decide +kernel
theorem dX12_one_179 : decode cX12_one 179 = .ok (.lastore, 1) := by decide +kernel
theorem dX12_one_180 : decode cX12_one 180 = .ok (.aload_n 0, 1) := by decide +kernel
theorem dX12_one_181 : decode cX12_one 181 = .ok (.invokevirtual 359, 3) := by decide +kernel
theorem dX12_one_184 : decode cX12_one 184 = .ok (.iload_n 1, 1) := by decide +kernel
theorem dX12_one_185 : decode cX12_one 185 = .ok (.ireturn, 1) := by decide +kernel
theorem dX12_one_186 : decode cX12_one 186 = .ok (.aload_n 0, 1) := by decide +kernel
theorem dX12_one_187 : decode cX12_one 187 = .ok (.bipush 16, 2) := by decide +kernel
theorem dX12_one_189 : decode cX12_one 189 = .ok (.invokevirtual 353, 3) := by decide +kernel
theorem dX12_one_192 : decode cX12_one 192 = .ok (.ifCond .eq 47, 3) := by decide +kernel
theorem dX12_one_195 : decode cX12_one 195 = .ok (.aload_n 0, 1) := by decide +kernel
theorem dX12_one_196 : decode cX12_one 196 = .ok (.invokevirtual 359, 3) := by decide +kernel
theorem dX12_one_199 : decode cX12_one 199 = .ok (.aload_n 0, 1) := by decide +kernel
theorem dX12_one_200 : decode cX12_one 200 = .ok (.invokevirtual 386, 3) := by decide +kernel
theorem dX12_one_203 : decode cX12_one 203 = .ok (.ifCond .ne 12, 3) := by decide +kernel
theorem dX12_one_206 : decode cX12_one 206 = .ok (.aload_n 0, 1) := by decide +kernel
theorem dX12_one_207 : decode cX12_one 207 = .ok (.aload_n 0, 1) := by decide +kernel
theorem dX12_one_208 : decode cX12_one 208 = .ok (.invokevirtual 356, 3) := by decide +kernel
theorem dX12_one_211 : decode cX12_one 211 = .ok (.invokevirtual 425, 3) := by decide +kernel
theorem dX12_one_214 : decode cX12_one 214 = .ok (.ireturn, 1) := by decide +kernel
theorem dX12_one_215 : decode cX12_one 215 = .ok (.aload_n 0, 1) := by decide +kernel
theorem dX12_one_216 : decode cX12_one 216 = .ok (.iconst 4, 1) := by decide +kernel
theorem dX12_one_217 : decode cX12_one 217 = .ok (.iconst (-1), 1) := by decide +kernel
theorem dX12_one_218 : decode cX12_one 218 = .ok (.iconst (-1), 1) := by decide +kernel
theorem dX12_one_219 : decode cX12_one 219 = .ok (.invokevirtual 418, 3) := by decide +kernel
theorem dX12_one_222 : decode cX12_one 222 = .ok (.istore_n 1, 1) := by decide +kernel
theorem dX12_one_223 : decode cX12_one 223 = .ok (.aload_n 0, 1) := by decide +kernel
theorem dX12_one_224 : decode cX12_one 224 = .ok (.getfield 250, 3) := by decide +kernel
theorem dX12_one_227 : decode cX12_one 227 = .ok (.iload_n 1, 1) := by decide +kernel
theorem dX12_one_228 : decode cX12_one 228 = .ok (.aload_n 0, 1) := by decide +kernel
theorem dX12_one_229 : decode cX12_one 229 = .ok (.getfield 337, 3) := by decide +kernel
theorem dX12_one_232 : decode cX12_one 232 = .ok (.lastore, 1) := by decide +kernel
theorem dX12_one_233 : decode cX12_one 233 = .ok (.aload_n 0, 1) := by decide +kernel
theorem dX12_one_234 : decode cX12_one 234 = .ok (.invokevirtual 359, 3) := by decide +kernel
theorem dX12_one_237 : decode cX12_one 237 = .ok (.iload_n 1, 1) := by decide +kernel
theorem dX12_one_238 : decode cX12_one 238 = .ok (.ireturn, 1) := by decide +kernel
theorem dX12_one_239 : decode cX12_one 239 = .ok (.aload_n 0, 1) := by decide +kernel
theorem dX12_one_240 : decode cX12_one 240 = .ok (.bipush 17, 2) := by decide +kernel
theorem dX12_one_242 : decode cX12_one 242 = .ok (.invokevirtual 353, 3) := by decide +kernel
theorem dX12_one_245 : decode cX12_one 245 = .ok (.ifCond .eq 8, 3) := by decide +kernel
theorem dX12_one_248 : decode cX12_one 248 = .ok (.aload_n 0, 1) := by decide +kernel
theorem dX12_one_249 : decode cX12_one 249 = .ok (.invokevirtual 429, 3) := by decide +kernel
theorem dX12_one_252 : decode cX12_one 252 = .ok (.ireturn, 1) := by decide +kernel
theorem dX12_one_253 : decode cX12_one 253 = .ok (.aload_n 0, 1) := by decide +kernel
theorem dX12_one_254 : decode cX12_one 254 = .ok (.invokevirtual 386, 3) := by decide +kernel
theorem dX12_one_257 : decode cX12_one 257 = .ok (.ifCond .ne 12, 3) := by decide +kernel
theorem dX12_one_260 : decode cX12_one 260 = .ok (.aload_n 0, 1) := by decide +kernel
theorem dX12_one_261 : decode cX12_one 261 = .ok (.aload_n 0, 1) := by decide +kernel
theorem dX12_one_262 : decode cX12_one 262 = .ok (.invokevirtual 356, 3) := by decide +kernel
theorem dX12_one_265 : decode cX12_one 265 = .ok (.invokevirtual 425, 3) := by decide +kernel
theorem dX12_one_268 : decode cX12_one 268 = .ok (.ireturn, 1) := by decide +kernel
theorem dX12_one_269 : decode cX12_one 269 = .ok (.aload_n 0, 1) := by decide +kernel
theorem dX12_one_270 : decode cX12_one 270 = .ok (.invokevirtual 432, 3) := by decide +kernel
theorem dX12_one_273 : decode cX12_one 273 = .ok (.ireturn, 1) := by decide +kernel
theorem dX12_alerted_0 : decode cX12_alerted 0 = .ok (.aload_n 0, 1) := by decide +kernel
theorem dX12_alerted_1 : decode cX12_alerted 1 = .ok (.invokevirtual 359, 3) := by decide +kernel
theorem dX12_alerted_4 : decode cX12_alerted 4 = .ok (.aload_n 0, 1) := by decide +kernel
theorem dX12_alerted_5 : decode cX12_alerted 5 = .ok (.invokevirtual 386, 3) := by decide +kernel
theorem dX12_alerted_8 : decode cX12_alerted 8 = .ok (.ifCond .ne 12, 3) := by decide +kernel
theorem dX12_alerted_11 : decode cX12_alerted 11 = .ok (.aload_n 0, 1) := by decide +kernel
theorem dX12_alerted_12 : decode cX12_alerted 12 = .ok (.aload_n 0, 1) := by decide +kernel
theorem dX12_alerted_13 : decode cX12_alerted 13 = .ok (.invokevirtual 356, 3) := by decide +kernel
theorem dX12_alerted_16 : decode cX12_alerted 16 = .ok (.invokevirtual 425, 3) := by decide +kernel
theorem dX12_alerted_19 : decode cX12_alerted 19 = .ok (.ireturn, 1) := by decide +kernel
theorem dX12_alerted_20 : decode cX12_alerted 20 = .ok (.iconst 0, 1) := by decide +kernel
theorem dX12_alerted_21 : decode cX12_alerted 21 = .ok (.istore_n 1, 1) := by decide +kernel
theorem dX12_alerted_22 : decode cX12_alerted 22 = .ok (.iload_n 1, 1) := by decide +kernel
theorem dX12_alerted_23 : decode cX12_alerted 23 = .ok (.aload_n 0, 1) := by decide +kernel
theorem dX12_alerted_24 : decode cX12_alerted 24 = .ok (.getfield 371, 3) := by decide +kernel
theorem dX12_alerted_27 : decode cX12_alerted 27 = .ok (.if_icmp .ge 48, 3) := by decide +kernel
theorem dX12_alerted_30 : decode cX12_alerted 30 = .ok (.aload_n 0, 1) := by decide +kernel
theorem dX12_alerted_31 : decode cX12_alerted 31 = .ok (.getfield 199, 3) := by decide +kernel
theorem dX12_alerted_34 : decode cX12_alerted 34 = .ok (.bipush 12, 2) := by decide +kernel
theorem dX12_alerted_36 : decode cX12_alerted 36 = .ok (.aload_n 0, 1) := by decide +kernel
theorem dX12_alerted_37 : decode cX12_alerted 37 = .ok (.getfield 368, 3) := by decide +kernel
theorem dX12_alerted_40 : decode cX12_alerted 40 = .ok (.imul, 1) := by decide +kernel
theorem dX12_alerted_41 : decode cX12_alerted 41 = .ok (.iload_n 1, 1) := by decide +kernel
theorem dX12_alerted_42 : decode cX12_alerted 42 = .ok (.iadd, 1) := by decide +kernel
theorem dX12_alerted_43 : decode cX12_alerted 43 = .ok (.laload, 1) := by decide +kernel
theorem dX12_alerted_44 : decode cX12_alerted 44 = .ok (.aload_n 0, 1) := by decide +kernel
theorem dX12_alerted_45 : decode cX12_alerted 45 = .ok (.getfield 337, 3) := by decide +kernel
theorem dX12_alerted_48 : decode cX12_alerted 48 = .ok (.lcmp, 1) := by decide +kernel
theorem dX12_alerted_49 : decode cX12_alerted 49 = .ok (.ifCond .eq 6, 3) := by decide +kernel
theorem dX12_alerted_52 : decode cX12_alerted 52 = .ok (.goto 17, 3) := by decide +kernel
theorem dX12_alerted_55 : decode cX12_alerted 55 = .ok (.aload_n 0, 1) := by decide +kernel
theorem dX12_alerted_56 : decode cX12_alerted 56 = .ok (.iconst 5, 1) := by decide +kernel
theorem dX12_alerted_57 : decode cX12_alerted 57 = .ok (.iload_n 1, 1) := by decide +kernel
theorem dX12_alerted_58 : decode cX12_alerted 58 = .ok (.iconst (-1), 1) := by decide +kernel
theorem dX12_alerted_59 : decode cX12_alerted 59 = .ok (.invokevirtual 418, 3) := by decide +kernel
theorem dX12_alerted_62 : decode cX12_alerted 62 = .ok (.istore_n 2, 1) := by decide +kernel
theorem dX12_alerted_63 : decode cX12_alerted 63 = .ok (.aload_n 0, 1) := by decide +kernel
theorem dX12_alerted_64 : decode cX12_alerted 64 = .ok (.invokevirtual 359, 3) := by decide +kernel
theorem dX12_alerted_67 : decode cX12_alerted 67 = .ok (.iload_n 2, 1) := by decide +kernel
theorem dX12_alerted_68 : decode cX12_alerted 68 = .ok (.ireturn, 1) := by decide +kernel
theorem dX12_alerted_69 : decode cX12_alerted 69 = .ok (.iinc 1 1, 3) := by decide +kernel
theorem dX12_alerted_72 : decode cX12_alerted 72 = .ok (.goto (-50), 3) := by decide +kernel
theorem dX12_alerted_75 : decode cX12_alerted 75 = .ok (.aload_n 0, 1) := by decide +kernel
theorem dX12_alerted_76 : decode cX12_alerted 76 = .ok (.aload_n 0, 1) := by decide +kernel
theorem dX12_alerted_77 : decode cX12_alerted 77 = .ok (.iconst 5, 1) := by decide +kernel
theorem dX12_alerted_78 : decode cX12_alerted 78 = .ok (.aload_n 0, 1) := by decide +kernel
theorem dX12_alerted_79 : decode cX12_alerted 79 = .ok (.getfield 313, 3) := by decide +kernel
theorem dX12_alerted_82 : decode cX12_alerted 82 = .ok (.invokevirtual 111, 3) := by decide +kernel
theorem dX12_alerted_85 : decode cX12_alerted 85 = .ok (.invokevirtual 425, 3) := by decide +kernel
theorem dX12_alerted_88 : decode cX12_alerted 88 = .ok (.ireturn, 1) := by decide +kernel
theorem dX12_compared_0 : decode cX12_compared 0 = .ok (.aload_n 0, 1) := by decide +kernel
theorem dX12_compared_1 : decode cX12_compared 1 = .ok (.getfield 337, 3) := by decide +kernel
theorem dX12_compared_4 : decode cX12_compared 4 = .ok (.lstore_n 1, 1) := by decide +kernel
theorem dX12_compared_5 : decode cX12_compared 5 = .ok (.aload_n 0, 1) := by decide +kernel
theorem dX12_compared_6 : decode cX12_compared 6 = .ok (.invokevirtual 359, 3) := by decide +kernel
theorem dX12_compared_9 : decode cX12_compared 9 = .ok (.aload_n 0, 1) := by decide +kernel
theorem dX12_compared_10 : decode cX12_compared 10 = .ok (.bipush 18, 2) := by decide +kernel
theorem dX12_compared_12 : decode cX12_compared 12 = .ok (.invokevirtual 353, 3) := by decide +kernel
theorem dX12_compared_15 : decode cX12_compared 15 = .ok (.ifCond .eq 8, 3) := by decide +kernel
theorem dX12_compared_18 : decode cX12_compared 18 = .ok (.bipush 6, 2) := by decide +kernel
theorem dX12_compared_20 : decode cX12_compared 20 = .ok (.goto 105, 3) := by decide +kernel
theorem dX12_compared_23 : decode cX12_compared 23 = .ok (.aload_n 0, 1) := by decide +kernel
theorem dX12_compared_24 : decode cX12_compared 24 = .ok (.bipush 19, 2) := by decide +kernel
theorem dX12_compared_26 : decode cX12_compared 26 = .ok (.invokevirtual 353, 3) := by decide +kernel
theorem dX12_compared_29 : decode cX12_compared 29 = .ok (.ifCond .eq 8, 3) := by decide +kernel
theorem dX12_compared_32 : decode cX12_compared 32 = .ok (.bipush 7, 2) := by decide +kernel
theorem dX12_compared_34 : decode cX12_compared 34 = .ok (.goto 91, 3) := by decide +kernel
theorem dX12_compared_37 : decode cX12_compared 37 = .ok (.aload_n 0, 1) := by decide +kernel
theorem dX12_compared_38 : decode cX12_compared 38 = .ok (.bipush 61, 2) := by decide +kernel
theorem dX12_compared_40 : decode cX12_compared 40 = .ok (.invokevirtual 362, 3) := by decide +kernel
theorem dX12_compared_43 : decode cX12_compared 43 = .ok (.ifCond .eq 8, 3) := by decide +kernel
theorem dX12_compared_46 : decode cX12_compared 46 = .ok (.bipush 8, 2) := by decide +kernel
theorem dX12_compared_48 : decode cX12_compared 48 = .ok (.goto 77, 3) := by decide +kernel
theorem dX12_compared_51 : decode cX12_compared 51 = .ok (.aload_n 0, 1) := by decide +kernel
theorem dX12_compared_52 : decode cX12_compared 52 = .ok (.sipush 289, 3) := by decide +kernel
theorem dX12_compared_55 : decode cX12_compared 55 = .ok (.invokevirtual 362, 3) := by decide +kernel
theorem dX12_compared_58 : decode cX12_compared 58 = .ok (.ifCond .eq 8, 3) := by decide +kernel
theorem dX12_compared_61 : decode cX12_compared 61 = .ok (.bipush 9, 2) := by decide +kernel
theorem dX12_compared_63 : decode cX12_compared 63 = .ok (.goto 62, 3) := by decide +kernel
theorem dX12_compared_66 : decode cX12_compared 66 = .ok (.aload_n 0, 1) := by decide +kernel
theorem dX12_compared_67 : decode cX12_compared 67 = .ok (.bipush 60, 2) := by decide +kernel
theorem dX12_compared_69 : decode cX12_compared 69 = .ok (.invokevirtual 362, 3) := by decide +kernel
theorem dX12_compared_72 : decode cX12_compared 72 = .ok (.ifCond .eq 8, 3) := by decide +kernel
theorem dX12_compared_75 : decode cX12_compared 75 = .ok (.bipush 10, 2) := by decide +kernel
theorem dX12_compared_77 : decode cX12_compared 77 = .ok (.goto 48, 3) := by decide +kernel
theorem dX12_compared_80 : decode cX12_compared 80 = .ok (.aload_n 0, 1) := by decide +kernel
theorem dX12_compared_81 : decode cX12_compared 81 = .ok (.sipush 316, 3) := by decide +kernel
theorem dX12_compared_84 : decode cX12_compared 84 = .ok (.invokevirtual 362, 3) := by decide +kernel
theorem dX12_compared_87 : decode cX12_compared 87 = .ok (.ifCond .eq 8, 3) := by decide +kernel
theorem dX12_compared_90 : decode cX12_compared 90 = .ok (.bipush 11, 2) := by decide +kernel
theorem dX12_compared_92 : decode cX12_compared 92 = .ok (.goto 33, 3) := by decide +kernel
theorem dX12_compared_95 : decode cX12_compared 95 = .ok (.aload_n 0, 1) := by decide +kernel
theorem dX12_compared_96 : decode cX12_compared 96 = .ok (.bipush 62, 2) := by decide +kernel
theorem dX12_compared_98 : decode cX12_compared 98 = .ok (.invokevirtual 362, 3) := by decide +kernel
theorem dX12_compared_101 : decode cX12_compared 101 = .ok (.ifCond .eq 8, 3) := by decide +kernel
theorem dX12_compared_104 : decode cX12_compared 104 = .ok (.bipush 12, 2) := by decide +kernel
theorem dX12_compared_106 : decode cX12_compared 106 = .ok (.goto 19, 3) := by decide +kernel
theorem dX12_compared_109 : decode cX12_compared 109 = .ok (.aload_n 0, 1) := by decide +kernel
theorem dX12_compared_110 : decode cX12_compared 110 = .ok (.sipush 318, 3) := by decide +kernel
theorem dX12_compared_113 : decode cX12_compared 113 = .ok (.invokevirtual 362, 3) := by decide +kernel
theorem dX12_compared_116 : decode cX12_compared 116 = .ok (.ifCond .eq 8, 3) := by decide +kernel
theorem dX12_compared_119 : decode cX12_compared 119 = .ok (.bipush 13, 2) := by decide +kernel
theorem dX12_compared_121 : decode cX12_compared 121 = .ok (.goto 4, 3) := by decide +kernel
theorem dX12_compared_124 : decode cX12_compared 124 = .ok (.iconst (-1), 1) := by decide +kernel
theorem dX12_compared_125 : decode cX12_compared 125 = .ok (.istore_n 3, 1) := by decide +kernel
theorem dX12_compared_126 : decode cX12_compared 126 = .ok (.iload_n 3, 1) := by decide +kernel
theorem dX12_compared_127 : decode cX12_compared 127 = .ok (.ifCond .ge 12, 3) := by decide +kernel
theorem dX12_compared_130 : decode cX12_compared 130 = .ok (.aload_n 0, 1) := by decide +kernel
theorem dX12_compared_131 : decode cX12_compared 131 = .ok (.aload_n 0, 1) := by decide +kernel
theorem dX12_compared_132 : decode cX12_compared 132 = .ok (.invokevirtual 356, 3) := by decide +kernel
theorem dX12_compared_135 : decode cX12_compared 135 = .ok (.invokevirtual 425, 3) := by decide +kernel
theorem dX12_compared_138 : decode cX12_compared 138 = .ok (.ireturn, 1) := by decide +kernel
theorem dX12_compared_139 : decode cX12_compared 139 = .ok (.aload_n 0, 1) := by decide +kernel
theorem dX12_compared_140 : decode cX12_compared 140 = .ok (.invokevirtual 359, 3) := by decide +kernel
theorem dX12_compared_143 : decode cX12_compared 143 = .ok (.iload_n 3, 1) := by decide +kernel
theorem dX12_compared_144 : decode cX12_compared 144 = .ok (.bipush 6, 2) := by decide +kernel
theorem dX12_compared_146 : decode cX12_compared 146 = .ok (.if_icmp .ne 19, 3) := by decide +kernel
theorem dX12_compared_149 : decode cX12_compared 149 = .ok (.aload_n 0, 1) := by decide +kernel
theorem dX12_compared_150 : decode cX12_compared 150 = .ok (.getfield 316, 3) := by decide +kernel
theorem dX12_compared_153 : decode cX12_compared 153 = .ok (.iconst 3, 1) := by decide +kernel
theorem dX12_compared_154 : decode cX12_compared 154 = .ok (.if_icmp .ne 7, 3) := by decide +kernel
theorem dX12_compared_157 : decode cX12_compared 157 = .ok (.iconst 1, 1) := by decide +kernel
theorem dX12_compared_158 : decode cX12_compared 158 = .ok (.goto 64, 3) := by decide +kernel
theorem dX12_compared_161 : decode cX12_compared 161 = .ok (.iconst 0, 1) := by decide +kernel
theorem dX12_compared_162 : decode cX12_compared 162 = .ok (.goto 60, 3) := by decide +kernel
theorem dX12_compared_165 : decode cX12_compared 165 = .ok (.iload_n 3, 1) := by decide +kernel
theorem dX12_compared_166 : decode cX12_compared 166 = .ok (.bipush 7, 2) := by decide +kernel
theorem dX12_compared_168 : decode cX12_compared 168 = .ok (.if_icmp .ne 19, 3) := by decide +kernel
theorem dX12_compared_171 : decode cX12_compared 171 = .ok (.aload_n 0, 1) := by decide +kernel
theorem dX12_compared_172 : decode cX12_compared 172 = .ok (.getfield 316, 3) := by decide +kernel
theorem dX12_compared_175 : decode cX12_compared 175 = .ok (.iconst 4, 1) := by decide +kernel
theorem dX12_compared_176 : decode cX12_compared 176 = .ok (.if_icmp .ne 7, 3) := by decide +kernel
theorem dX12_compared_179 : decode cX12_compared 179 = .ok (.iconst 1, 1) := by decide +kernel
theorem dX12_compared_180 : decode cX12_compared 180 = .ok (.goto 42, 3) := by decide +kernel
theorem dX12_compared_183 : decode cX12_compared 183 = .ok (.iconst 0, 1) := by decide +kernel
theorem dX12_compared_184 : decode cX12_compared 184 = .ok (.goto 38, 3) := by decide +kernel
theorem dX12_compared_187 : decode cX12_compared 187 = .ok (.aload_n 0, 1) := by decide +kernel
theorem dX12_compared_188 : decode cX12_compared 188 = .ok (.getfield 316, 3) := by decide +kernel
theorem dX12_compared_191 : decode cX12_compared 191 = .ok (.iconst 2, 1) := by decide +kernel
theorem dX12_compared_192 : decode cX12_compared 192 = .ok (.if_icmp .eq 25, 3) := by decide +kernel
theorem dX12_compared_195 : decode cX12_compared 195 = .ok (.iload_n 3, 1) := by decide +kernel
theorem dX12_compared_196 : decode cX12_compared 196 = .ok (.bipush 9, 2) := by decide +kernel
theorem dX12_compared_198 : decode cX12_compared 198 = .ok (.if_icmp .gt 23, 3) := by decide +kernel
theorem dX12_compared_201 : decode cX12_compared 201 = .ok (.aload_n 0, 1) := by decide +kernel
theorem dX12_compared_202 : decode cX12_compared 202 = .ok (.getfield 316, 3) := by decide +kernel
theorem dX12_compared_205 : decode cX12_compared 205 = .ok (.iconst 3, 1) := by decide +kernel
theorem dX12_compared_206 : decode cX12_compared 206 = .ok (.if_icmp .eq 11, 3) := by decide +kernel
theorem dX12_compared_209 : decode cX12_compared 209 = .ok (.aload_n 0, 1) := by decide +kernel
theorem dX12_compared_210 : decode cX12_compared 210 = .ok (.getfield 316, 3) := by decide +kernel
theorem dX12_compared_213 : decode cX12_compared 213 = .ok (.iconst 4, 1) := by decide +kernel
theorem dX12_compared_214 : decode cX12_compared 214 = .ok (.if_icmp .ne 7, 3) := by decide +kernel
theorem dX12_compared_217 : decode cX12_compared 217 = .ok (.iconst 1, 1) := by decide +kernel
theorem dX12_compared_218 : decode cX12_compared 218 = .ok (.goto 4, 3) := by decide +kernel
theorem dX12_compared_221 : decode cX12_compared 221 = .ok (.iconst 0, 1) := by decide +kernel
theorem dX12_compared_222 : decode cX12_compared 222 = .ok (.istore 4, 2) := by decide +kernel
theorem dX12_compared_224 : decode cX12_compared 224 = .ok (.iload 4, 2) := by decide +kernel
theorem dX12_compared_226 : decode cX12_compared 226 = .ok (.ifCond .ne 12, 3) := by decide +kernel
theorem dX12_compared_229 : decode cX12_compared 229 = .ok (.aload_n 0, 1) := by decide +kernel
theorem dX12_compared_230 : decode cX12_compared 230 = .ok (.aload_n 0, 1) := by decide +kernel
theorem dX12_compared_231 : decode cX12_compared 231 = .ok (.invokevirtual 356, 3) := by decide +kernel
theorem dX12_compared_234 : decode cX12_compared 234 = .ok (.invokevirtual 425, 3) := by decide +kernel
theorem dX12_compared_237 : decode cX12_compared 237 = .ok (.ireturn, 1) := by decide +kernel
theorem dX12_compared_238 : decode cX12_compared 238 = .ok (.aload_n 0, 1) := by decide +kernel
theorem dX12_compared_239 : decode cX12_compared 239 = .ok (.iload_n 3, 1) := by decide +kernel
theorem dX12_compared_240 : decode cX12_compared 240 = .ok (.iconst (-1), 1) := by decide +kernel
theorem dX12_compared_241 : decode cX12_compared 241 = .ok (.iconst (-1), 1) := by decide +kernel
theorem dX12_compared_242 : decode cX12_compared 242 = .ok (.invokevirtual 418, 3) := by decide +kernel
theorem dX12_compared_245 : decode cX12_compared 245 = .ok (.istore 5, 2) := by decide +kernel
theorem dX12_compared_247 : decode cX12_compared 247 = .ok (.aload_n 0, 1) := by decide +kernel
theorem dX12_compared_248 : decode cX12_compared 248 = .ok (.getfield 250, 3) := by decide +kernel
theorem dX12_compared_251 : decode cX12_compared 251 = .ok (.iload 5, 2) := by decide +kernel
theorem dX12_compared_253 : decode cX12_compared 253 = .ok (.lload_n 1, 1) := by decide +kernel
theorem dX12_compared_254 : decode cX12_compared 254 = .ok (.lastore, 1) := by decide +kernel
theorem dX12_compared_255 : decode cX12_compared 255 = .ok (.aload_n 0, 1) := by decide +kernel
theorem dX12_compared_256 : decode cX12_compared 256 = .ok (.getfield 247, 3) := by decide +kernel
theorem dX12_compared_259 : decode cX12_compared 259 = .ok (.iload 5, 2) := by decide +kernel
theorem dX12_compared_261 : decode cX12_compared 261 = .ok (.aload_n 0, 1) := by decide +kernel
theorem dX12_compared_262 : decode cX12_compared 262 = .ok (.getfield 316, 3) := by decide +kernel
theorem dX12_compared_265 : decode cX12_compared 265 = .ok (.iconst 2, 1) := by decide +kernel
theorem dX12_compared_266 : decode cX12_compared 266 = .ok (.if_icmp .ne 7, 3) := by decide +kernel
theorem dX12_compared_269 : decode cX12_compared 269 = .ok (.iconst 0, 1) := by decide +kernel
theorem dX12_compared_270 : decode cX12_compared 270 = .ok (.goto 16, 3) := by decide +kernel
theorem dX12_compared_273 : decode cX12_compared 273 = .ok (.aload_n 0, 1) := by decide +kernel
theorem dX12_compared_274 : decode cX12_compared 274 = .ok (.getfield 316, 3) := by decide +kernel
theorem dX12_compared_277 : decode cX12_compared 277 = .ok (.iconst 3, 1) := by decide +kernel
theorem dX12_compared_278 : decode cX12_compared 278 = .ok (.if_icmp .ne 7, 3) := by decide +kernel
theorem dX12_compared_281 : decode cX12_compared 281 = .ok (.iconst 1, 1) := by decide +kernel
theorem dX12_compared_282 : decode cX12_compared 282 = .ok (.goto 4, 3) := by decide +kernel
theorem dX12_compared_285 : decode cX12_compared 285 = .ok (.iconst 2, 1) := by decide +kernel
theorem dX12_compared_286 : decode cX12_compared 286 = .ok (.iastore, 1) := by decide +kernel
theorem dX12_compared_287 : decode cX12_compared 287 = .ok (.aload_n 0, 1) := by decide +kernel
theorem dX12_compared_288 : decode cX12_compared 288 = .ok (.getfield 244, 3) := by decide +kernel
theorem dX12_compared_291 : decode cX12_compared 291 = .ok (.iload 5, 2) := by decide +kernel
theorem dX12_compared_293 : decode cX12_compared 293 = .ok (.aload_n 0, 1) := by decide +kernel
theorem dX12_compared_294 : decode cX12_compared 294 = .ok (.getfield 347, 3) := by decide +kernel
theorem dX12_compared_297 : decode cX12_compared 297 = .ok (.iastore, 1) := by decide +kernel
theorem dX12_compared_298 : decode cX12_compared 298 = .ok (.aload_n 0, 1) := by decide +kernel
theorem dX12_compared_299 : decode cX12_compared 299 = .ok (.getfield 238, 3) := by decide +kernel
theorem dX12_compared_302 : decode cX12_compared 302 = .ok (.iload 5, 2) := by decide +kernel
theorem dX12_compared_304 : decode cX12_compared 304 = .ok (.aload_n 0, 1) := by decide +kernel
theorem dX12_compared_305 : decode cX12_compared 305 = .ok (.getfield 316, 3) := by decide +kernel
theorem dX12_compared_308 : decode cX12_compared 308 = .ok (.iconst 3, 1) := by decide +kernel
theorem dX12_compared_309 : decode cX12_compared 309 = .ok (.if_icmp .ne 19, 3) := by decide +kernel
theorem dX12_compared_312 : decode cX12_compared 312 = .ok (.sipush 2120, 3) := by decide +kernel
theorem dX12_compared_315 : decode cX12_compared 315 = .ok (.aload_n 0, 1) := by decide +kernel
theorem dX12_compared_316 : decode cX12_compared 316 = .ok (.getfield 368, 3) := by decide +kernel
theorem dX12_compared_319 : decode cX12_compared 319 = .ok (.imul, 1) := by decide +kernel
theorem dX12_compared_320 : decode cX12_compared 320 = .ok (.aload_n 0, 1) := by decide +kernel
theorem dX12_compared_321 : decode cX12_compared 321 = .ok (.getfield 350, 3) := by decide +kernel
theorem dX12_compared_324 : decode cX12_compared 324 = .ok (.iadd, 1) := by decide +kernel
theorem dX12_compared_325 : decode cX12_compared 325 = .ok (.goto 4, 3) := by decide +kernel
theorem dX12_compared_328 : decode cX12_compared 328 = .ok (.iconst (-1), 1) := by decide +kernel
theorem dX12_compared_329 : decode cX12_compared 329 = .ok (.iastore, 1) := by decide +kernel
theorem dX12_compared_330 : decode cX12_compared 330 = .ok (.aload_n 0, 1) := by decide +kernel
theorem dX12_compared_331 : decode cX12_compared 331 = .ok (.invokevirtual 359, 3) := by decide +kernel
theorem dX12_compared_334 : decode cX12_compared 334 = .ok (.iload_n 3, 1) := by decide +kernel
theorem dX12_compared_335 : decode cX12_compared 335 = .ok (.bipush 7, 2) := by decide +kernel
theorem dX12_compared_337 : decode cX12_compared 337 = .ok (.if_icmp .eq 6, 3) := by decide +kernel
theorem dX12_compared_340 : decode cX12_compared 340 = .ok (.iload 5, 2) := by decide +kernel
theorem dX12_compared_342 : decode cX12_compared 342 = .ok (.ireturn, 1) := by decide +kernel
theorem dX12_compared_343 : decode cX12_compared 343 = .ok (.aload_n 0, 1) := by decide +kernel
theorem dX12_compared_344 : decode cX12_compared 344 = .ok (.bipush 47, 2) := by decide +kernel
theorem dX12_compared_346 : decode cX12_compared 346 = .ok (.invokevirtual 402, 3) := by decide +kernel
theorem dX12_compared_349 : decode cX12_compared 349 = .ok (.ifCond .eq 13, 3) := by decide +kernel
theorem dX12_compared_352 : decode cX12_compared 352 = .ok (.aload_n 0, 1) := by decide +kernel
theorem dX12_compared_353 : decode cX12_compared 353 = .ok (.iconst 0, 1) := by decide +kernel
theorem dX12_compared_354 : decode cX12_compared 354 = .ok (.bipush 32, 2) := by decide +kernel
theorem dX12_compared_356 : decode cX12_compared 356 = .ok (.invokevirtual 399, 3) := by decide +kernel
theorem dX12_compared_359 : decode cX12_compared 359 = .ok (.ifCond .ne 5, 3) := by decide +kernel
theorem dX12_compared_362 : decode cX12_compared 362 = .ok (.iconst (-1), 1) := by decide +kernel
theorem dX12_compared_363 : decode cX12_compared 363 = .ok (.ireturn, 1) := by decide +kernel
theorem dX12_compared_364 : decode cX12_compared 364 = .ok (.aload_n 0, 1) := by decide +kernel
theorem dX12_compared_365 : decode cX12_compared 365 = .ok (.getfield 241, 3) := by decide +kernel
theorem dX12_compared_368 : decode cX12_compared 368 = .ok (.iload 5, 2) := by decide +kernel
theorem dX12_compared_370 : decode cX12_compared 370 = .ok (.aload_n 0, 1) := by decide +kernel
theorem dX12_compared_371 : decode cX12_compared 371 = .ok (.getfield 365, 3) := by decide +kernel
theorem dX12_compared_374 : decode cX12_compared 374 = .ok (.iastore, 1) := by decide +kernel
theorem dX12_compared_375 : decode cX12_compared 375 = .ok (.iload 5, 2) := by decide +kernel
theorem dX12_compared_377 : decode cX12_compared 377 = .ok (.ireturn, 1) := by decide +kernel
theorem dX12_fault_0 : decode cX12_fault 0 = .ok (.aload_n 0, 1) := by decide +kernel
theorem dX12_fault_1 : decode cX12_fault 1 = .ok (.iconst 0, 1) := by decide +kernel
theorem dX12_fault_2 : decode cX12_fault 2 = .ok (.putfield 3, 3) := by decide +kernel
theorem dX12_fault_5 : decode cX12_fault 5 = .ok (.aload_n 0, 1) := by decide +kernel
theorem dX12_fault_6 : decode cX12_fault 6 = .ok (.getfield 18, 3) := by decide +kernel
theorem dX12_fault_9 : decode cX12_fault 9 = .ok (.ireturn, 1) := by decide +kernel
theorem dX12_place_0 : decode cX12_place 0 = .ok (.aload_n 0, 1) := by decide +kernel
theorem dX12_place_1 : decode cX12_place 1 = .ok (.iconst 0, 1) := by decide +kernel
theorem dX12_place_2 : decode cX12_place 2 = .ok (.putfield 3, 3) := by decide +kernel
theorem dX12_place_5 : decode cX12_place 5 = .ok (.aload_n 0, 1) := by decide +kernel
theorem dX12_place_6 : decode cX12_place 6 = .ok (.getfield 161, 3) := by decide +kernel
theorem dX12_place_9 : decode cX12_place 9 = .ok (.ireturn, 1) := by decide +kernel
theorem dX12_holds_0 : decode cX12_holds 0 = .ok (.iload_n 1, 1) := by decide +kernel
theorem dX12_holds_1 : decode cX12_holds 1 = .ok (.istore_n 3, 1) := by decide +kernel
theorem dX12_holds_2 : decode cX12_holds 2 = .ok (.aload_n 0, 1) := by decide +kernel
theorem dX12_holds_3 : decode cX12_holds 3 = .ok (.getfield 235, 3) := by decide +kernel
theorem dX12_holds_6 : decode cX12_holds 6 = .ok (.iload_n 3, 1) := by decide +kernel
theorem dX12_holds_7 : decode cX12_holds 7 = .ok (.iaload, 1) := by decide +kernel
theorem dX12_holds_8 : decode cX12_holds 8 = .ok (.ifCond .ne 29, 3) := by decide +kernel
theorem dX12_holds_11 : decode cX12_holds 11 = .ok (.aload_n 0, 1) := by decide +kernel
theorem dX12_holds_12 : decode cX12_holds 12 = .ok (.aload_n 0, 1) := by decide +kernel
theorem dX12_holds_13 : decode cX12_holds 13 = .ok (.getfield 241, 3) := by decide +kernel
theorem dX12_holds_16 : decode cX12_holds 16 = .ok (.iload_n 3, 1) := by decide +kernel
theorem dX12_holds_17 : decode cX12_holds 17 = .ok (.iaload, 1) := by decide +kernel
theorem dX12_holds_18 : decode cX12_holds 18 = .ok (.iload_n 2, 1) := by decide +kernel
theorem dX12_holds_19 : decode cX12_holds 19 = .ok (.invokevirtual 435, 3) := by decide +kernel
theorem dX12_holds_22 : decode cX12_holds 22 = .ok (.ifCond .eq 5, 3) := by decide +kernel
theorem dX12_holds_25 : decode cX12_holds 25 = .ok (.iconst 1, 1) := by decide +kernel
theorem dX12_holds_26 : decode cX12_holds 26 = .ok (.ireturn, 1) := by decide +kernel
theorem dX12_holds_27 : decode cX12_holds 27 = .ok (.aload_n 0, 1) := by decide +kernel
theorem dX12_holds_28 : decode cX12_holds 28 = .ok (.getfield 238, 3) := by decide +kernel
theorem dX12_holds_31 : decode cX12_holds 31 = .ok (.iload_n 3, 1) := by decide +kernel
theorem dX12_holds_32 : decode cX12_holds 32 = .ok (.iaload, 1) := by decide +kernel
theorem dX12_holds_33 : decode cX12_holds 33 = .ok (.istore_n 3, 1) := by decide +kernel
theorem dX12_holds_34 : decode cX12_holds 34 = .ok (.goto (-32), 3) := by decide +kernel
theorem dX12_holds_37 : decode cX12_holds 37 = .ok (.aload_n 0, 1) := by decide +kernel
