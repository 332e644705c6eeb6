theorem dX12_take_182 : decode cX12_take 182 = .ok (.iastore, 1) := by decide +kernel
theorem dX12_take_183 : decode cX12_take 183 = .ok (.iconst 0, 1) := by decide +kernel
theorem dX12_take_184 : decode cX12_take 184 = .ok (.istore 4, 2) := by decide +kernel
theorem dX12_take_186 : decode cX12_take 186 = .ok (.iload 4, 2) := by decide +kernel
theorem dX12_take_188 : decode cX12_take 188 = .ok (.aload_n 0, 1) := by decide +kernel
theorem dX12_take_189 : decode cX12_take 189 = .ok (.getfield 97, 3) := by decide +kernel
theorem dX12_take_192 : decode cX12_take 192 = .ok (.iload_n 3, 1) := by decide +kernel
theorem dX12_take_193 : decode cX12_take 193 = .ok (.iaload, 1) := by decide +kernel
theorem dX12_take_194 : decode cX12_take 194 = .ok (.if_icmp .ge 26, 3) := by decide +kernel
theorem dX12_take_197 : decode cX12_take 197 = .ok (.aload_n 0, 1) := by decide +kernel
theorem dX12_take_198 : decode cX12_take 198 = .ok (.sipush 32000, 3) := by decide +kernel
theorem dX12_take_201 : decode cX12_take 201 = .ok (.iload 4, 2) := by decide +kernel
theorem dX12_take_203 : decode cX12_take 203 = .ok (.iadd, 1) := by decide +kernel
theorem dX12_take_204 : decode cX12_take 204 = .ok (.bipush 8, 2) := by decide +kernel
theorem dX12_take_206 : decode cX12_take 206 = .ok (.iload_n 3, 1) := by decide +kernel
theorem dX12_take_207 : decode cX12_take 207 = .ok (.imul, 1) := by decide +kernel
theorem dX12_take_208 : decode cX12_take 208 = .ok (.iload 4, 2) := by decide +kernel
theorem dX12_take_210 : decode cX12_take 210 = .ok (.iadd, 1) := by decide +kernel
theorem dX12_take_211 : decode cX12_take 211 = .ok (.invokevirtual 176, 3) := by decide +kernel
theorem dX12_take_214 : decode cX12_take 214 = .ok (.iinc 4 1, 3) := by decide +kernel
theorem dX12_take_217 : decode cX12_take 217 = .ok (.goto (-31), 3) := by decide +kernel
theorem dX12_take_220 : decode cX12_take 220 = .ok (.iinc 1 1, 3) := by decide +kernel
theorem dX12_take_223 : decode cX12_take 223 = .ok (.aload_n 0, 1) := by decide +kernel
theorem dX12_take_224 : decode cX12_take 224 = .ok (.aload_n 0, 1) := by decide +kernel
theorem dX12_take_225 : decode cX12_take 225 = .ok (.getfield 74, 3) := by decide +kernel
theorem dX12_take_228 : decode cX12_take 228 = .ok (.putfield 180, 3) := by decide +kernel
theorem dX12_take_231 : decode cX12_take 231 = .ok (.aload_n 0, 1) := by decide +kernel
theorem dX12_take_232 : decode cX12_take 232 = .ok (.iload_n 3, 1) := by decide +kernel
theorem dX12_take_233 : decode cX12_take 233 = .ok (.iconst 0, 1) := by decide +kernel
theorem dX12_take_234 : decode cX12_take 234 = .ok (.invokevirtual 183, 3) := by decide +kernel
theorem dX12_take_237 : decode cX12_take 237 = .ok (.aload_n 0, 1) := by decide +kernel
theorem dX12_take_238 : decode cX12_take 238 = .ok (.invokevirtual 186, 3) := by decide +kernel
theorem dX12_take_241 : decode cX12_take 241 = .ok (.goto (-206), 3) := by decide +kernel
theorem dX12_take_244 : decode cX12_take 244 = .ok (.iload_n 1, 1) := by decide +kernel
theorem dX12_take_245 : decode cX12_take 245 = .ok (.ireturn, 1) := by decide +kernel
theorem dX12_moved_0 : decode cX12_moved 0 = .ok (.aload_n 0, 1) := by decide +kernel
theorem dX12_moved_1 : decode cX12_moved 1 = .ok (.getfield 100, 3) := by decide +kernel
theorem dX12_moved_4 : decode cX12_moved 4 = .ok (.iload_n 2, 1) := by decide +kernel
theorem dX12_moved_5 : decode cX12_moved 5 = .ok (.aload_n 0, 1) := by decide +kernel
theorem dX12_moved_6 : decode cX12_moved 6 = .ok (.getfield 100, 3) := by decide +kernel
theorem dX12_moved_9 : decode cX12_moved 9 = .ok (.iload_n 1, 1) := by decide +kernel
theorem dX12_moved_10 : decode cX12_moved 10 = .ok (.laload, 1) := by decide +kernel
theorem dX12_moved_11 : decode cX12_moved 11 = .ok (.lastore, 1) := by decide +kernel
theorem dX12_moved_12 : decode cX12_moved 12 = .ok (.aload_n 0, 1) := by decide +kernel
theorem dX12_moved_13 : decode cX12_moved 13 = .ok (.getfield 27, 3) := by decide +kernel
theorem dX12_moved_16 : decode cX12_moved 16 = .ok (.iload_n 2, 1) := by decide +kernel
theorem dX12_moved_17 : decode cX12_moved 17 = .ok (.aload_n 0, 1) := by decide +kernel
theorem dX12_moved_18 : decode cX12_moved 18 = .ok (.getfield 27, 3) := by decide +kernel
theorem dX12_moved_21 : decode cX12_moved 21 = .ok (.iload_n 1, 1) := by decide +kernel
theorem dX12_moved_22 : decode cX12_moved 22 = .ok (.baload, 1) := by decide +kernel
theorem dX12_moved_23 : decode cX12_moved 23 = .ok (.bastore, 1) := by decide +kernel
theorem dX12_moved_24 : decode cX12_moved 24 = .ok (.aload_n 0, 1) := by decide +kernel
theorem dX12_moved_25 : decode cX12_moved 25 = .ok (.getfield 30, 3) := by decide +kernel
theorem dX12_moved_28 : decode cX12_moved 28 = .ok (.iload_n 2, 1) := by decide +kernel
theorem dX12_moved_29 : decode cX12_moved 29 = .ok (.aload_n 0, 1) := by decide +kernel
theorem dX12_moved_30 : decode cX12_moved 30 = .ok (.getfield 30, 3) := by decide +kernel
theorem dX12_moved_33 : decode cX12_moved 33 = .ok (.iload_n 1, 1) := by decide +kernel
theorem dX12_moved_34 : decode cX12_moved 34 = .ok (.iaload, 1) := by decide +kernel
theorem dX12_moved_35 : decode cX12_moved 35 = .ok (.iastore, 1) := by decide +kernel
theorem dX12_moved_36 : decode cX12_moved 36 = .ok (.aload_n 0, 1) := by decide +kernel
theorem dX12_moved_37 : decode cX12_moved 37 = .ok (.getfield 37, 3) := by decide +kernel
theorem dX12_moved_40 : decode cX12_moved 40 = .ok (.iload_n 2, 1) := by decide +kernel
theorem dX12_moved_41 : decode cX12_moved 41 = .ok (.aload_n 0, 1) := by decide +kernel
theorem dX12_moved_42 : decode cX12_moved 42 = .ok (.getfield 37, 3) := by decide +kernel
theorem dX12_moved_45 : decode cX12_moved 45 = .ok (.iload_n 1, 1) := by decide +kernel
theorem dX12_moved_46 : decode cX12_moved 46 = .ok (.iaload, 1) := by decide +kernel
theorem dX12_moved_47 : decode cX12_moved 47 = .ok (.iastore, 1) := by decide +kernel
theorem dX12_moved_48 : decode cX12_moved 48 = .ok (.aload_n 0, 1) := by decide +kernel
theorem dX12_moved_49 : decode cX12_moved 49 = .ok (.iload_n 2, 1) := by decide +kernel
theorem dX12_moved_50 : decode cX12_moved 50 = .ok (.invokevirtual 190, 3) := by decide +kernel
theorem dX12_moved_53 : decode cX12_moved 53 = .ok (.return_, 1) := by decide +kernel
theorem dX12_pass_0 : decode cX12_pass 0 = .ok (.aload_n 0, 1) := by decide +kernel
theorem dX12_pass_1 : decode cX12_pass 1 = .ok (.iconst 0, 1) := by decide +kernel
theorem dX12_pass_2 : decode cX12_pass 2 = .ok (.putfield 3, 3) := by decide +kernel
theorem dX12_pass_5 : decode cX12_pass 5 = .ok (.iload_n 1, 1) := by decide +kernel
theorem dX12_pass_6 : decode cX12_pass 6 = .ok (.aload_n 0, 1) := by decide +kernel
theorem dX12_pass_7 : decode cX12_pass 7 = .ok (.getfield 64, 3) := by decide +kernel
theorem dX12_pass_10 : decode cX12_pass 10 = .ok (.if_icmp .lt 9, 3) := by decide +kernel
theorem dX12_pass_13 : decode cX12_pass 13 = .ok (.iload_n 1, 1) := by decide +kernel
theorem dX12_pass_14 : decode cX12_pass 14 = .ok (.ldc 193, 2) := by decide +kernel
theorem dX12_pass_16 : decode cX12_pass 16 = .ok (.if_icmp .le 5, 3) := by decide +kernel
theorem dX12_pass_19 : decode cX12_pass 19 = .ok (.iconst 0, 1) := by decide +kernel
theorem dX12_pass_20 : decode cX12_pass 20 = .ok (.ireturn, 1) := by decide +kernel
theorem dX12_pass_21 : decode cX12_pass 21 = .ok (.aload_n 0, 1) := by decide +kernel
theorem dX12_pass_22 : decode cX12_pass 22 = .ok (.iload_n 1, 1) := by decide +kernel
theorem dX12_pass_23 : decode cX12_pass 23 = .ok (.invokevirtual 167, 3) := by decide +kernel
theorem dX12_pass_26 : decode cX12_pass 26 = .ok (.iconst 1, 1) := by decide +kernel
theorem dX12_pass_27 : decode cX12_pass 27 = .ok (.ireturn, 1) := by decide +kernel
theorem dX12_init_0 : decode cX12_init 0 = .ok (.aload_n 0, 1) := by decide +kernel
theorem dX12_init_1 : decode cX12_init 1 = .ok (.invokespecial 194, 3) := by decide +kernel
theorem dX12_init_4 : decode cX12_init 4 = .ok (.aload_n 0, 1) := by decide +kernel
theorem dX12_init_5 : decode cX12_init 5 = .ok (.sipush 2120, 3) := by decide +kernel
theorem dX12_init_8 : decode cX12_init 8 = .ok (.newarray .byte, 2) := by decide +kernel
theorem dX12_init_10 : decode cX12_init 10 = .ok (.putfield 14, 3) := by decide +kernel
theorem dX12_init_13 : decode cX12_init 13 = .ok (.aload_n 0, 1) := by decide +kernel
theorem dX12_init_14 : decode cX12_init 14 = .ok (.iconst (-1), 1) := by decide +kernel
theorem dX12_init_15 : decode cX12_init 15 = .ok (.putfield 21, 3) := by decide +kernel
theorem dX12_init_18 : decode cX12_init 18 = .ok (.aload_n 0, 1) := by decide +kernel
theorem dX12_init_19 : decode cX12_init 19 = .ok (.iconst (-1), 1) := by decide +kernel
theorem dX12_init_20 : decode cX12_init 20 = .ok (.putfield 161, 3) := by decide +kernel
theorem dX12_init_23 : decode cX12_init 23 = .ok (.aload_n 0, 1) := by decide +kernel
theorem dX12_init_24 : decode cX12_init 24 = .ok (.sipush 4001, 3) := by decide +kernel
theorem dX12_init_27 : decode cX12_init 27 = .ok (.newarray .int, 2) := by decide +kernel
theorem dX12_init_29 : decode cX12_init 29 = .ok (.putfield 170, 3) := by decide +kernel
theorem dX12_init_32 : decode cX12_init 32 = .ok (.aload_n 0, 1) := by decide +kernel
theorem dX12_init_33 : decode cX12_init 33 = .ok (.sipush 4001, 3) := by decide +kernel
theorem dX12_init_36 : decode cX12_init 36 = .ok (.newarray .int, 2) := by decide +kernel
theorem dX12_init_38 : decode cX12_init 38 = .ok (.putfield 97, 3) := by decide +kernel
theorem dX12_init_41 : decode cX12_init 41 = .ok (.aload_n 0, 1) := by decide +kernel
theorem dX12_init_42 : decode cX12_init 42 = .ok (.sipush 4001, 3) := by decide +kernel
theorem dX12_init_45 : decode cX12_init 45 = .ok (.newarray .int, 2) := by decide +kernel
theorem dX12_init_47 : decode cX12_init 47 = .ok (.putfield 173, 3) := by decide +kernel
theorem dX12_init_50 : decode cX12_init 50 = .ok (.aload_n 0, 1) := by decide +kernel
theorem dX12_init_51 : decode cX12_init 51 = .ok (.sipush 4001, 3) := by decide +kernel
theorem dX12_init_54 : decode cX12_init 54 = .ok (.newarray .long, 2) := by decide +kernel
theorem dX12_init_56 : decode cX12_init 56 = .ok (.putfield 145, 3) := by decide +kernel
theorem dX12_init_59 : decode cX12_init 59 = .ok (.aload_n 0, 1) := by decide +kernel
theorem dX12_init_60 : decode cX12_init 60 = .ok (.sipush 4001, 3) := by decide +kernel
theorem dX12_init_63 : decode cX12_init 63 = .ok (.newarray .long, 2) := by decide +kernel
theorem dX12_init_65 : decode cX12_init 65 = .ok (.putfield 148, 3) := by decide +kernel
theorem dX12_init_68 : decode cX12_init 68 = .ok (.aload_n 0, 1) := by decide +kernel
theorem dX12_init_69 : decode cX12_init 69 = .ok (.sipush 32008, 3) := by decide +kernel
theorem dX12_init_72 : decode cX12_init 72 = .ok (.newarray .long, 2) := by decide +kernel
theorem dX12_init_74 : decode cX12_init 74 = .ok (.putfield 100, 3) := by decide +kernel
theorem dX12_init_77 : decode cX12_init 77 = .ok (.aload_n 0, 1) := by decide +kernel
theorem dX12_init_78 : decode cX12_init 78 = .ok (.sipush 32008, 3) := by decide +kernel
theorem dX12_init_81 : decode cX12_init 81 = .ok (.newarray .byte, 2) := by decide +kernel
theorem dX12_init_83 : decode cX12_init 83 = .ok (.putfield 27, 3) := by decide +kernel
theorem dX12_init_86 : decode cX12_init 86 = .ok (.aload_n 0, 1) := by decide +kernel
theorem dX12_init_87 : decode cX12_init 87 = .ok (.sipush 32008, 3) := by decide +kernel
theorem dX12_init_90 : decode cX12_init 90 = .ok (.newarray .int, 2) := by decide +kernel
theorem dX12_init_92 : decode cX12_init 92 = .ok (.putfield 30, 3) := by decide +kernel
theorem dX12_init_95 : decode cX12_init 95 = .ok (.aload_n 0, 1) := by decide +kernel
theorem dX12_init_96 : decode cX12_init 96 = .ok (.sipush 32008, 3) := by decide +kernel
theorem dX12_init_99 : decode cX12_init 99 = .ok (.newarray .int, 2) := by decide +kernel
theorem dX12_init_101 : decode cX12_init 101 = .ok (.putfield 37, 3) := by decide +kernel
theorem dX12_init_104 : decode cX12_init 104 = .ok (.aload_n 0, 1) := by decide +kernel
theorem dX12_init_105 : decode cX12_init 105 = .ok (.sipush 32008, 3) := by decide +kernel
theorem dX12_init_108 : decode cX12_init 108 = .ok (.newarray .int, 2) := by decide +kernel
theorem dX12_init_110 : decode cX12_init 110 = .ok (.putfield 55, 3) := by decide +kernel
theorem dX12_init_113 : decode cX12_init 113 = .ok (.aload_n 0, 1) := by decide +kernel
theorem dX12_init_114 : decode cX12_init 114 = .ok (.sipush 24000, 3) := by decide +kernel
theorem dX12_init_117 : decode cX12_init 117 = .ok (.newarray .byte, 2) := by decide +kernel
theorem dX12_init_119 : decode cX12_init 119 = .ok (.putfield 34, 3) := by decide +kernel
theorem dX12_init_122 : decode cX12_init 122 = .ok (.aload_n 0, 1) := by decide +kernel
theorem dX12_init_123 : decode cX12_init 123 = .ok (.sipush 32000, 3) := by decide +kernel
theorem dX12_init_126 : decode cX12_init 126 = .ok (.newarray .int, 2) := by decide +kernel
theorem dX12_init_128 : decode cX12_init 128 = .ok (.putfield 45, 3) := by decide +kernel
theorem dX12_init_131 : decode cX12_init 131 = .ok (.aload_n 0, 1) := by decide +kernel
theorem dX12_init_132 : decode cX12_init 132 = .ok (.ldc 73, 2) := by decide +kernel
theorem dX12_init_134 : decode cX12_init 134 = .ok (.newarray .int, 2) := by decide +kernel
theorem dX12_init_136 : decode cX12_init 136 = .ok (.putfield 42, 3) := by decide +kernel
theorem dX12_init_139 : decode cX12_init 139 = .ok (.aload_n 0, 1) := by decide +kernel
theorem dX12_init_140 : decode cX12_init 140 = .ok (.bipush 24, 2) := by decide +kernel
theorem dX12_init_142 : decode cX12_init 142 = .ok (.newarray .long, 2) := by decide +kernel
theorem dX12_init_144 : decode cX12_init 144 = .ok (.putfield 199, 3) := by decide +kernel
theorem dX12_init_147 : decode cX12_init 147 = .ok (.aload_n 0, 1) := by decide +kernel
theorem dX12_init_148 : decode cX12_init 148 = .ok (.bipush 24, 2) := by decide +kernel
theorem dX12_init_150 : decode cX12_init 150 = .ok (.newarray .long, 2) := by decide +kernel
theorem dX12_init_152 : decode cX12_init 152 = .ok (.putfield 202, 3) := by decide +kernel
theorem dX12_init_155 : decode cX12_init 155 = .ok (.aload_n 0, 1) := by decide +kernel
theorem dX12_init_156 : decode cX12_init 156 = .ok (.bipush 72, 2) := by decide +kernel
theorem dX12_init_158 : decode cX12_init 158 = .ok (.newarray .long, 2) := by decide +kernel
theorem dX12_init_160 : decode cX12_init 160 = .ok (.putfield 205, 3) := by decide +kernel
theorem dX12_init_163 : decode cX12_init 163 = .ok (.aload_n 0, 1) := by decide +kernel
theorem dX12_init_164 : decode cX12_init 164 = .ok (.bipush 24, 2) := by decide +kernel
theorem dX12_init_166 : decode cX12_init 166 = .ok (.newarray .int, 2) := by decide +kernel
theorem dX12_init_168 : decode cX12_init 168 = .ok (.putfield 208, 3) := by decide +kernel
theorem dX12_init_171 : decode cX12_init 171 = .ok (.aload_n 0, 1) := by decide +kernel
theorem dX12_init_172 : decode cX12_init 172 = .ok (.bipush 24, 2) := by decide +kernel
theorem dX12_init_174 : decode cX12_init 174 = .ok (.newarray .int, 2) := by decide +kernel
theorem dX12_init_176 : decode cX12_init 176 = .ok (.putfield 211, 3) := by decide +kernel
theorem dX12_init_179 : decode cX12_init 179 = .ok (.aload_n 0, 1) := by decide +kernel
theorem dX12_init_180 : decode cX12_init 180 = .ok (.bipush 24, 2) := by decide +kernel
theorem dX12_init_182 : decode cX12_init 182 = .ok (.newarray .int, 2) := by decide +kernel
theorem dX12_init_184 : decode cX12_init 184 = .ok (.putfield 214, 3) := by decide +kernel
theorem dX12_init_187 : decode cX12_init 187 = .ok (.aload_n 0, 1) := by decide +kernel
theorem dX12_init_188 : decode cX12_init 188 = .ok (.sipush 144, 3) := by decide +kernel
theorem dX12_init_191 : decode cX12_init 191 = .ok (.newarray .int, 2) := by decide +kernel
theorem dX12_init_193 : decode cX12_init 193 = .ok (.putfield 217, 3) := by decide +kernel
theorem dX12_init_196 : decode cX12_init 196 = .ok (.aload_n 0, 1) := by decide +kernel
theorem dX12_init_197 : decode cX12_init 197 = .ok (.bipush 24, 2) := by decide +kernel
theorem dX12_init_199 : decode cX12_init 199 = .ok (.newarray .int, 2) := by decide +kernel
theorem dX12_init_201 : decode cX12_init 201 = .ok (.putfield 220, 3) := by decide +kernel
theorem dX12_init_204 : decode cX12_init 204 = .ok (.aload_n 0, 1) := by decide +kernel
theorem dX12_init_205 : decode cX12_init 205 = .ok (.bipush 24, 2) := by decide +kernel
theorem dX12_init_207 : decode cX12_init 207 = .ok (.newarray .int, 2) := by decide +kernel
theorem dX12_init_209 : decode cX12_init 209 = .ok (.putfield 223, 3) := by decide +kernel
theorem dX12_init_212 : decode cX12_init 212 = .ok (.aload_n 0, 1) := by decide +kernel
theorem dX12_init_213 : decode cX12_init 213 = .ok (.bipush 24, 2) := by decide +kernel
theorem dX12_init_215 : decode cX12_init 215 = .ok (.newarray .int, 2) := by decide +kernel
theorem dX12_init_217 : decode cX12_init 217 = .ok (.putfield 226, 3) := by decide +kernel
theorem dX12_init_220 : decode cX12_init 220 = .ok (.aload_n 0, 1) := by decide +kernel
theorem dX12_init_221 : decode cX12_init 221 = .ok (.bipush 24, 2) := by decide +kernel
theorem dX12_init_223 : decode cX12_init 223 = .ok (.newarray .int, 2) := by decide +kernel
theorem dX12_init_225 : decode cX12_init 225 = .ok (.putfield 229, 3) := by decide +kernel
theorem dX12_init_228 : decode cX12_init 228 = .ok (.aload_n 0, 1) := by decide +kernel
theorem dX12_init_229 : decode cX12_init 229 = .ok (.sipush 4240, 3) := by decide +kernel
theorem dX12_init_232 : decode cX12_init 232 = .ok (.newarray .byte, 2) := by decide +kernel
theorem dX12_init_234 : decode cX12_init 234 = .ok (.putfield 232, 3) := by decide +kernel
theorem dX12_init_237 : decode cX12_init 237 = .ok (.aload_n 0, 1) := by decide +kernel
theorem dX12_init_238 : decode cX12_init 238 = .ok (.sipush 2200, 3) := by decide +kernel
theorem dX12_init_241 : decode cX12_init 241 = .ok (.newarray .int, 2) := by decide +kernel
theorem dX12_init_243 : decode cX12_init 243 = .ok (.putfield 235, 3) := by decide +kernel
theorem dX12_init_246 : decode cX12_init 246 = .ok (.aload_n 0, 1) := by decide +kernel
theorem dX12_init_247 : decode cX12_init 247 = .ok (.sipush 2200, 3) := by decide +kernel
theorem dX12_init_250 : decode cX12_init 250 = .ok (.newarray .int, 2) := by decide +kernel
theorem dX12_init_252 : decode cX12_init 252 = .ok (.putfield 238, 3) := by decide +kernel
theorem dX12_init_255 : decode cX12_init 255 = .ok (.aload_n 0, 1) := by decide +kernel
theorem dX12_init_256 : decode cX12_init 256 = .ok (.sipush 2200, 3) := by decide +kernel
theorem dX12_init_259 : decode cX12_init 259 = .ok (.newarray .int, 2) := by decide +kernel
theorem dX12_init_261 : decode cX12_init 261 = .ok (.putfield 241, 3) := by decide +kernel
theorem dX12_init_264 : decode cX12_init 264 = .ok (.aload_n 0, 1) := by decide +kernel
theorem dX12_init_265 : decode cX12_init 265 = .ok (.sipush 2200, 3) := by decide +kernel
theorem dX12_init_268 : decode cX12_init 268 = .ok (.newarray .int, 2) := by decide +kernel
theorem dX12_init_270 : decode cX12_init 270 = .ok (.putfield 244, 3) := by decide +kernel
theorem dX12_init_273 : decode cX12_init 273 = .ok (.aload_n 0, 1) := by decide +kernel
theorem dX12_init_274 : decode cX12_init 274 = .ok (.sipush 2200, 3) := by decide +kernel
theorem dX12_init_277 : decode cX12_init 277 = .ok (.newarray .int, 2) := by decide +kernel
theorem dX12_init_279 : decode cX12_init 279 = .ok (.putfield 247, 3) := by decide +kernel
theorem dX12_init_282 : decode cX12_init 282 = .ok (.aload_n 0, 1) := by decide +kernel
theorem dX12_init_283 : decode cX12_init 283 = .ok (.sipush 2200, 3) := by decide +kernel
theorem dX12_init_286 : decode cX12_init 286 = .ok (.newarray .long, 2) := by decide +kernel
theorem dX12_init_288 : decode cX12_init 288 = .ok (.putfield 250, 3) := by decide +kernel
theorem dX12_init_291 : decode cX12_init 291 = .ok (.aload_n 0, 1) := by decide +kernel
theorem dX12_init_292 : decode cX12_init 292 = .ok (.bipush 20, 2) := by decide +kernel
theorem dX12_init_294 : decode cX12_init 294 = .ok (.newarray .long, 2) := by decide +kernel
theorem dX12_init_296 : decode cX12_init 296 = .ok (.putfield 253, 3) := by decide +kernel
theorem dX12_init_299 : decode cX12_init 299 = .ok (.aload_n 0, 1) := by decide +kernel
theorem dX12_init_300 : decode cX12_init 300 = .ok (.bipush 25, 2) := by decide +kernel
theorem dX12_init_302 : decode cX12_init 302 = .ok (.newarray .boolean, 2) := by decide +kernel
theorem dX12_init_304 : decode cX12_init 304 = .ok (.putfield 256, 3) := by decide +kernel
theorem dX12_init_307 : decode cX12_init 307 = .ok (.aload_n 0, 1) := by decide +kernel
theorem dX12_init_308 : decode cX12_init 308 = .ok (.ldc 86, 2) := by decide +kernel
theorem dX12_init_310 : decode cX12_init 310 = .ok (.newarray .short, 2) := by decide +kernel
theorem dX12_init_312 : decode cX12_init 312 = .ok (.putfield 87, 3) := by decide +kernel
theorem dX12_init_315 : decode cX12_init 315 = .ok (.aload_n 0, 1) := by decide +kernel
theorem dX12_init_316 : decode cX12_init 316 = .ok (.ldc 86, 2) := by decide +kernel
theorem dX12_init_318 : decode cX12_init 318 = .ok (.newarray .byte, 2) := by decide +kernel
theorem dX12_init_320 : decode cX12_init 320 = .ok (.putfield 260, 3) := by decide +kernel
theorem dX12_init_323 : decode cX12_init 323 = .ok (.aload_n 0, 1) := by decide +kernel
theorem dX12_init_324 : decode cX12_init 324 = .ok (.ldc 86, 2) := by decide +kernel
theorem dX12_init_326 : decode cX12_init 326 = .ok (.newarray .int, 2) := by decide +kernel
theorem dX12_init_328 : decode cX12_init 328 = .ok (.putfield 91, 3) := by decide +kernel
theorem dX12_init_331 : decode cX12_init 331 = .ok (.aload_n 0, 1) := by decide +kernel
theorem dX12_init_332 : decode cX12_init 332 = .ok (.ldc 86, 2) := by decide +kernel
theorem dX12_init_334 : decode cX12_init 334 = .ok (.newarray .short, 2) := by decide +kernel
theorem dX12_init_336 : decode cX12_init 336 = .ok (.putfield 94, 3) := by decide +kernel
theorem dX12_init_339 : decode cX12_init 339 = .ok (.aload_n 0, 1) := by decide +kernel
theorem dX12_init_340 : decode cX12_init 340 = .ok (.bipush 12, 2) := by decide +kernel
theorem dX12_init_342 : decode cX12_init 342 = .ok (.newarray .int, 2) := by decide +kernel
theorem dX12_init_344 : decode cX12_init 344 = .ok (.putfield 83, 3) := by decide +kernel
theorem dX12_init_347 : decode cX12_init 347 = .ok (.aload_n 0, 1) := by decide +kernel
theorem dX12_init_348 : decode cX12_init 348 = .ok (.sipush 32000, 3) := by decide +kernel
theorem dX12_init_351 : decode cX12_init 351 = .ok (.newarray .boolean, 2) := by decide +kernel
theorem dX12_init_353 : decode cX12_init 353 = .ok (.putfield 263, 3) := by decide +kernel
theorem dX12_init_356 : decode cX12_init 356 = .ok (.aload_n 0, 1) := by decide +kernel
theorem dX12_init_357 : decode cX12_init 357 = .ok (.ldc 86, 2) := by decide +kernel
theorem dX12_init_359 : decode cX12_init 359 = .ok (.newarray .byte, 2) := by decide +kernel
theorem dX12_init_361 : decode cX12_init 361 = .ok (.putfield 266, 3) := by decide +kernel
theorem dX12_init_364 : decode cX12_init 364 = .ok (.aload_n 0, 1) := by decide +kernel
theorem dX12_init_365 : decode cX12_init 365 = .ok (.ldc 86, 2) := by decide +kernel
theorem dX12_init_367 : decode cX12_init 367 = .ok (.newarray .short, 2) := by decide +kernel
theorem dX12_init_369 : decode cX12_init 369 = .ok (.putfield 269, 3) := by decide +kernel
theorem dX12_init_372 : decode cX12_init 372 = .ok (.aload_n 0, 1) := by decide +kernel
theorem dX12_init_373 : decode cX12_init 373 = .ok (.ldc 86, 2) := by decide +kernel
theorem dX12_init_375 : decode cX12_init 375 = .ok (.newarray .boolean, 2) := by decide +kernel
theorem dX12_init_377 : decode cX12_init 377 = .ok (.putfield 272, 3) := by decide +kernel
theorem dX12_init_380 : decode cX12_init 380 = .ok (.aload_n 0, 1) := by decide +kernel
theorem dX12_init_381 : decode cX12_init 381 = .ok (.sipush 500, 3) := by decide +kernel
theorem dX12_init_384 : decode cX12_init 384 = .ok (.newarray .short, 2) := by decide +kernel
theorem dX12_init_386 : decode cX12_init 386 = .ok (.putfield 275, 3) := by decide +kernel
theorem dX12_init_389 : decode cX12_init 389 = .ok (.aload_n 0, 1) := by decide +kernel
theorem dX12_init_390 : decode cX12_init 390 = .ok (.sipush 500, 3) := by decide +kernel
theorem dX12_init_393 : decode cX12_init 393 = .ok (.newarray .short, 2) := by decide +kernel
theorem dX12_init_395 : decode cX12_init 395 = .ok (.putfield 278, 3) := by decide +kernel
theorem dX12_init_398 : decode cX12_init 398 = .ok (.aload_n 0, 1) := by decide +kernel
theorem dX12_init_399 : decode cX12_init 399 = .ok (.sipush 500, 3) := by decide +kernel
theorem dX12_init_402 : decode cX12_init 402 = .ok (.newarray .short, 2) := by decide +kernel
theorem dX12_init_404 : decode cX12_init 404 = .ok (.putfield 281, 3) := by decide +kernel
theorem dX12_init_407 : decode cX12_init 407 = .ok (.aload_n 0, 1) := by decide +kernel
theorem dX12_init_408 : decode cX12_init 408 = .ok (.sipush 500, 3) := by decide +kernel
theorem dX12_init_411 : decode cX12_init 411 = .ok (.newarray .short, 2) := by decide +kernel
theorem dX12_init_413 : decode cX12_init 413 = .ok (.putfield 284, 3) := by decide +kernel
theorem dX12_init_416 : decode cX12_init 416 = .ok (.aload_n 0, 1) := by decide +kernel
theorem dX12_init_417 : decode cX12_init 417 = .ok (.sipush 500, 3) := by decide +kernel
theorem dX12_init_420 : decode cX12_init 420 = .ok (.newarray .int, 2) := by decide +kernel
theorem dX12_init_422 : decode cX12_init 422 = .ok (.putfield 287, 3) := by decide +kernel
theorem dX12_init_425 : decode cX12_init 425 = .ok (.aload_n 0, 1) := by decide +kernel
theorem dX12_init_426 : decode cX12_init 426 = .ok (.ldc 86, 2) := by decide +kernel
theorem dX12_init_428 : decode cX12_init 428 = .ok (.newarray .short, 2) := by decide +kernel
theorem dX12_init_430 : decode cX12_init 430 = .ok (.putfield 290, 3) := by decide +kernel
theorem dX12_init_433 : decode cX12_init 433 = .ok (.aload_n 0, 1) := by decide +kernel
theorem dX12_init_434 : decode cX12_init 434 = .ok (.ldc 86, 2) := by decide +kernel
theorem dX12_init_436 : decode cX12_init 436 = .ok (.newarray .short, 2) := by decide +kernel
theorem dX12_init_438 : decode cX12_init 438 = .ok (.putfield 293, 3) := by decide +kernel
theorem dX12_init_441 : decode cX12_init 441 = .ok (.aload_n 0, 1) := by decide +kernel
theorem dX12_init_442 : decode cX12_init 442 = .ok (.sipush 400, 3) := by decide +kernel
theorem dX12_init_445 : decode cX12_init 445 = .ok (.newarray .byte, 2) := by decide +kernel
theorem dX12_init_447 : decode cX12_init 447 = .ok (.putfield 296, 3) := by decide +kernel
theorem dX12_init_450 : decode cX12_init 450 = .ok (.iconst 0, 1) := by decide +kernel
theorem dX12_init_451 : decode cX12_init 451 = .ok (.istore_n 1, 1) := by decide +kernel
theorem dX12_init_452 : decode cX12_init 452 = .ok (.iconst 1, 1) := by decide +kernel
theorem dX12_init_453 : decode cX12_init 453 = .ok (.istore_n 2, 1) := by decide +kernel
theorem dX12_init_454 : decode cX12_init 454 = .ok (.iconst 1, 1) := by decide +kernel
theorem dX12_init_455 : decode cX12_init 455 = .ok (.istore_n 3, 1) := by decide +kernel
theorem dX12_init_456 : decode cX12_init 456 = .ok (.iload_n 3, 1) := by decide +kernel
theorem dX12_init_457 : decode cX12_init 457 = .ok (.ldc_w 299, 3) := by decide +kernel
theorem dX12_init_460 : decode cX12_init 460 = .ok (.invokevirtual 301, 3) := by decide +kernel
theorem dX12_init_463 : decode cX12_init 463 = .ok (.if_icmp .ge 89, 3) := by decide +kernel
theorem dX12_init_466 : decode cX12_init 466 = .ok (.ldc_w 299, 3) := by decide +kernel
theorem dX12_init_469 : decode cX12_init 469 = .ok (.iload_n 3, 1) := by decide +kernel
theorem dX12_init_470 : decode cX12_init 470 = .ok (.invokevirtual 306, 3) := by decide +kernel
theorem dX12_init_473 : decode cX12_init 473 = .ok (.bipush 32, 2) := by decide +kernel
theorem dX12_init_475 : decode cX12_init 475 = .ok (.if_icmp .eq 6, 3) := by decide +kernel
theorem dX12_init_478 : decode cX12_init 478 = .ok (.goto 68, 3) := by decide +kernel
theorem dX12_init_481 : decode cX12_init 481 = .ok (.lconst 0, 1) := by decide +kernel
theorem dX12_init_482 : decode cX12_init 482 = .ok (.lstore 4, 2) := by decide +kernel
theorem dX12_init_484 : decode cX12_init 484 = .ok (.iconst 0, 1) := by decide +kernel
theorem dX12_init_485 : decode cX12_init 485 = .ok (.istore 6, 2) := by decide +kernel
theorem dX12_init_487 : decode cX12_init 487 = .ok (.iload 6, 2) := by decide +kernel
theorem dX12_init_489 : decode cX12_init 489 = .ok (.bipush 8, 2) := by decide +kernel
theorem dX12_init_491 : decode cX12_init 491 = .ok (.if_icmp .ge 40, 3) := by decide +kernel
theorem dX12_init_494 : decode cX12_init 494 = .ok (.lload 4, 2) := by decide +kernel
theorem dX12_init_496 : decode cX12_init 496 = .ok (.bipush 8, 2) := by decide +kernel
theorem dX12_init_498 : decode cX12_init 498 = .ok (.lshl, 1) := by decide +kernel
theorem dX12_init_499 : decode cX12_init 499 = .ok (.iload_n 2, 1) := by decide +kernel
theorem dX12_init_500 : decode cX12_init 500 = .ok (.iload 6, 2) := by decide +kernel
theorem dX12_init_502 : decode cX12_init 502 = .ok (.iadd, 1) := by decide +kernel
theorem dX12_init_503 : decode cX12_init 503 = .ok (.iload_n 3, 1) := by decide +kernel
theorem dX12_init_504 : decode cX12_init 504 = .ok (.if_icmp .ge 16, 3) := by decide +kernel
theorem dX12_init_507 : decode cX12_init 507 = .ok (.ldc_w 299, 3) := by decide +kernel
theorem dX12_init_510 : decode cX12_init 510 = .ok (.iload_n 2, 1) := by decide +kernel
theorem dX12_init_511 : decode cX12_init 511 = .ok (.iload 6, 2) := by decide +kernel
theorem dX12_init_513 : decode cX12_init 513 = .ok (.iadd, 1) := by decide +kernel
theorem dX12_init_514 : decode cX12_init 514 = .ok (.invokevirtual 306, 3) := by decide +kernel
theorem dX12_init_517 : decode cX12_init 517 = .ok (.goto 4, 3) := by decide +kernel
theorem dX12_init_520 : decode cX12_init 520 = .ok (.iconst 0, 1) := by decide +kernel
theorem dX12_init_521 : decode cX12_init 521 = .ok (.i2l, 1) := by decide +kernel
theorem dX12_init_522 : decode cX12_init 522 = .ok (.lor, 1) := by decide +kernel
theorem dX12_init_523 : decode cX12_init 523 = .ok (.lstore 4, 2) := by decide +kernel
theorem dX12_init_525 : decode cX12_init 525 = .ok (.iinc 6 1, 3) := by decide +kernel
theorem dX12_init_528 : decode cX12_init 528 = .ok (.goto (-41), 3) := by decide +kernel
theorem dX12_init_531 : decode cX12_init 531 = .ok (.aload_n 0, 1) := by decide +kernel
theorem dX12_init_532 : decode cX12_init 532 = .ok (.getfield 253, 3) := by decide +kernel
theorem dX12_init_535 : decode cX12_init 535 = .ok (.iload_n 1, 1) := by decide +kernel
theorem dX12_init_536 : decode cX12_init 536 = .ok (.lload 4, 2) := by decide +kernel
theorem dX12_init_538 : decode cX12_init 538 = .ok (.lastore, 1) := by decide +kernel
theorem dX12_init_539 : decode cX12_init 539 = .ok (.iinc 1 1, 3) := by decide +kernel
theorem dX12_init_542 : decode cX12_init 542 = .ok (.iload_n 3, 1) := by decide +kernel
theorem dX12_init_543 : decode cX12_init 543 = .ok (.iconst 1, 1) := by decide +kernel
theorem dX12_init_544 : decode cX12_init 544 = .ok (.iadd, 1) := by decide +kernel
theorem dX12_init_545 : decode cX12_init 545 = .ok (.istore_n 2, 1) := by decide +kernel
theorem dX12_init_546 : decode cX12_init 546 = .ok (.iinc 3 1, 3) := by decide +kernel
theorem dX12_init_549 : decode cX12_init 549 = .ok (.goto (-93), 3) := by decide +kernel
theorem dX12_init_552 : decode cX12_init 552 = .ok (.aload_n 0, 1) := by decide +kernel
theorem dX12_init_553 : decode cX12_init 553 = .ok (.invokevirtual 310, 3) := by decide +kernel
theorem dX12_init_556 : decode cX12_init 556 = .ok (.return_, 1) := by decide +kernel
theorem dX12_isSmall_0 : decode cX12_isSmall 0 = .ok (.iload_n 0, 1) := by decide +kernel
theorem dX12_isSmall_1 : decode cX12_isSmall 1 = .ok (.bipush 97, 2) := by decide +kernel
theorem dX12_isSmall_3 : decode cX12_isSmall 3 = .ok (.if_icmp .lt 13, 3) := by decide +kernel
theorem dX12_isSmall_6 : decode cX12_isSmall 6 = .ok (.iload_n 0, 1) := by decide +kernel
theorem dX12_isSmall_7 : decode cX12_isSmall 7 = .ok (.bipush 122, 2) := by decide +kernel
theorem dX12_isSmall_9 : decode cX12_isSmall 9 = .ok (.if_icmp .gt 7, 3) := by decide +kernel
theorem dX12_isSmall_12 : decode cX12_isSmall 12 = .ok (.iconst 1, 1) := by decide +kernel
theorem dX12_isSmall_13 : decode cX12_isSmall 13 = .ok (.goto 4, 3) := by decide +kernel
theorem dX12_isSmall_16 : decode cX12_isSmall 16 = .ok (.iconst 0, 1) := by decide +kernel
theorem dX12_isSmall_17 : decode cX12_isSmall 17 = .ok (.ireturn, 1) := by decide +kernel
theorem dX12_isDigit_0 : decode cX12_isDigit 0 = .ok (.iload_n 0, 1) := by decide +kernel
theorem dX12_isDigit_1 : decode cX12_isDigit 1 = .ok (.bipush 48, 2) := by decide +kernel
theorem dX12_isDigit_3 : decode cX12_isDigit 3 = .ok (.if_icmp .lt 13, 3) := by decide +kernel
theorem dX12_isDigit_6 : decode cX12_isDigit 6 = .ok (.iload_n 0, 1) := by decide +kernel
theorem dX12_isDigit_7 : decode cX12_isDigit 7 = .ok (.bipush 57, 2) := by decide +kernel
theorem dX12_isDigit_9 : decode cX12_isDigit 9 = .ok (.if_icmp .gt 7, 3) := by decide +kernel
theorem dX12_isDigit_12 : decode cX12_isDigit 12 = .ok (.iconst 1, 1) := by decide +kernel
theorem dX12_isDigit_13 : decode cX12_isDigit 13 = .ok (.goto 4, 3) := by decide +kernel
theorem dX12_isDigit_16 : decode cX12_isDigit 16 = .ok (.iconst 0, 1) := by decide +kernel
theorem dX12_isDigit_17 : decode cX12_isDigit 17 = .ok (.ireturn, 1) := by decide +kernel
theorem dX12_next_0 : decode cX12_next 0 = .ok (.aload_n 0, 1) := by decide +kernel
theorem dX12_next_1 : decode cX12_next 1 = .ok (.aload_n 0, 1) := by decide +kernel
theorem dX12_next_2 : decode cX12_next 2 = .ok (.getfield 104, 3) := by decide +kernel
theorem dX12_next_5 : decode cX12_next 5 = .ok (.invokevirtual 107, 3) := by decide +kernel
theorem dX12_next_8 : decode cX12_next 8 = .ok (.bipush 32, 2) := by decide +kernel
theorem dX12_next_10 : decode cX12_next 10 = .ok (.if_icmp .eq 16, 3) := by decide +kernel
theorem dX12_next_13 : decode cX12_next 13 = .ok (.aload_n 0, 1) := by decide +kernel
theorem dX12_next_14 : decode cX12_next 14 = .ok (.aload_n 0, 1) := by decide +kernel
theorem dX12_next_15 : decode cX12_next 15 = .ok (.getfield 104, 3) := by decide +kernel
theorem dX12_next_18 : decode cX12_next 18 = .ok (.invokevirtual 107, 3) := by decide +kernel
theorem dX12_next_21 : decode cX12_next 21 = .ok (.bipush 10, 2) := by decide +kernel
theorem dX12_next_23 : decode cX12_next 23 = .ok (.if_icmp .ne 16, 3) := by decide +kernel
theorem dX12_next_26 : decode cX12_next 26 = .ok (.aload_n 0, 1) := by decide +kernel
theorem dX12_next_27 : decode cX12_next 27 = .ok (.dup, 1) := by decide +kernel
theorem dX12_next_28 : decode cX12_next 28 = .ok (.getfield 104, 3) := by decide +kernel
theorem dX12_next_31 : decode cX12_next 31 = .ok (.iconst 1, 1) := by decide +kernel
theorem dX12_next_32 : decode cX12_next 32 = .ok (.iadd, 1) := by decide +kernel
theorem dX12_next_33 : decode cX12_next 33 = .ok (.putfield 104, 3) := by decide +kernel
theorem dX12_next_36 : decode cX12_next 36 = .ok (.goto (-36), 3) := by decide +kernel
theorem dX12_next_39 : decode cX12_next 39 = .ok (.aload_n 0, 1) := by decide +kernel
theorem dX12_next_40 : decode cX12_next 40 = .ok (.aload_n 0, 1) := by decide +kernel
theorem dX12_next_41 : decode cX12_next 41 = .ok (.getfield 104, 3) := by decide +kernel
theorem dX12_next_44 : decode cX12_next 44 = .ok (.putfield 313, 3) := by decide +kernel
theorem dX12_next_47 : decode cX12_next 47 = .ok (.aload_n 0, 1) := by decide +kernel
theorem dX12_next_48 : decode cX12_next 48 = .ok (.aload_n 0, 1) := by decide +kernel
theorem dX12_next_49 : decode cX12_next 49 = .ok (.getfield 104, 3) := by decide +kernel
theorem dX12_next_52 : decode cX12_next 52 = .ok (.invokevirtual 107, 3) := by decide +kernel
theorem dX12_next_55 : decode cX12_next 55 = .ok (.istore_n 1, 1) := by decide +kernel
theorem dX12_next_56 : decode cX12_next 56 = .ok (.aload_n 0, 1) := by decide +kernel
theorem dX12_next_57 : decode cX12_next 57 = .ok (.getfield 313, 3) := by decide +kernel
theorem dX12_next_60 : decode cX12_next 60 = .ok (.sipush 2000, 3) := by decide +kernel
theorem dX12_next_63 : decode cX12_next 63 = .ok (.if_icmp .lt 22, 3) := by decide +kernel
theorem dX12_next_66 : decode cX12_next 66 = .ok (.aload_n 0, 1) := by decide +kernel
theorem dX12_next_67 : decode cX12_next 67 = .ok (.getfield 24, 3) := by decide +kernel
theorem dX12_next_70 : decode cX12_next 70 = .ok (.sipush 2000, 3) := by decide +kernel
theorem dX12_next_73 : decode cX12_next 73 = .ok (.if_icmp .le 12, 3) := by decide +kernel
theorem dX12_next_76 : decode cX12_next 76 = .ok (.aload_n 0, 1) := by decide +kernel
theorem dX12_next_77 : decode cX12_next 77 = .ok (.bipush 6, 2) := by decide +kernel
theorem dX12_next_79 : decode cX12_next 79 = .ok (.putfield 316, 3) := by decide +kernel
theorem dX12_next_82 : decode cX12_next 82 = .ok (.goto 67, 3) := by decide +kernel
theorem dX12_next_85 : decode cX12_next 85 = .ok (.iload_n 1, 1) := by decide +kernel
theorem dX12_next_86 : decode cX12_next 86 = .ok (.ifCond .ge 11, 3) := by decide +kernel
theorem dX12_next_89 : decode cX12_next 89 = .ok (.aload_n 0, 1) := by decide +kernel
theorem dX12_next_90 : decode cX12_next 90 = .ok (.iconst 0, 1) := by decide +kernel
theorem dX12_next_91 : decode cX12_next 91 = .ok (.putfield 316, 3) := by decide +kernel
theorem dX12_next_94 : decode cX12_next 94 = .ok (.goto 55, 3) := by decide +kernel
theorem dX12_next_97 : decode cX12_next 97 = .ok (.iload_n 1, 1) := by decide +kernel
theorem dX12_next_98 : decode cX12_next 98 = .ok (.invokestatic 319, 3) := by decide +kernel
theorem dX12_next_101 : decode cX12_next 101 = .ok (.ifCond .eq 10, 3) := by decide +kernel
theorem dX12_next_104 : decode cX12_next 104 = .ok (.aload_n 0, 1) := by decide +kernel
theorem dX12_next_105 : decode cX12_next 105 = .ok (.invokevirtual 322, 3) := by decide +kernel
theorem dX12_next_108 : decode cX12_next 108 = .ok (.goto 41, 3) := by decide +kernel
theorem dX12_next_111 : decode cX12_next 111 = .ok (.iload_n 1, 1) := by decide +kernel
theorem dX12_next_112 : decode cX12_next 112 = .ok (.invokestatic 325, 3) := by decide +kernel
theorem dX12_next_115 : decode cX12_next 115 = .ok (.ifCond .ne 9, 3) := by decide +kernel
theorem dX12_next_118 : decode cX12_next 118 = .ok (.iload_n 1, 1) := by decide +kernel
theorem dX12_next_119 : decode cX12_next 119 = .ok (.bipush 45, 2) := by decide +kernel
theorem dX12_next_121 : decode cX12_next 121 = .ok (.if_icmp .ne 10, 3) := by decide +kernel
theorem dX12_next_124 : decode cX12_next 124 = .ok (.aload_n 0, 1) := by decide +kernel
theorem dX12_next_125 : decode cX12_next 125 = .ok (.invokevirtual 328, 3) := by decide +kernel
theorem dX12_next_128 : decode cX12_next 128 = .ok (.goto 21, 3) := by decide +kernel
theorem dX12_next_131 : decode cX12_next 131 = .ok (.iload_n 1, 1) := by decide +kernel
theorem dX12_next_132 : decode cX12_next 132 = .ok (.bipush 34, 2) := by decide +kernel
theorem dX12_next_134 : decode cX12_next 134 = .ok (.if_icmp .ne 10, 3) := by decide +kernel
theorem dX12_next_137 : decode cX12_next 137 = .ok (.aload_n 0, 1) := by decide +kernel
theorem dX12_next_138 : decode cX12_next 138 = .ok (.invokevirtual 331, 3) := by decide +kernel
theorem dX12_next_141 : decode cX12_next 141 = .ok (.goto 8, 3) := by decide +kernel
theorem dX12_next_144 : decode cX12_next 144 = .ok (.aload_n 0, 1) := by decide +kernel
theorem dX12_next_145 : decode cX12_next 145 = .ok (.iload_n 1, 1) := by decide +kernel
theorem dX12_next_146 : decode cX12_next 146 = .ok (.invokevirtual 334, 3) := by decide +kernel
theorem dX12_next_149 : decode cX12_next 149 = .ok (.return_, 1) := by decide +kernel
theorem dX12_readWord_0 : decode cX12_readWord 0 = .ok (.iconst 0, 1) := by decide +kernel
theorem dX12_readWord_1 : decode cX12_readWord 1 = .ok (.istore_n 1, 1) := by decide +kernel
theorem dX12_readWord_2 : decode cX12_readWord 2 = .ok (.iconst 1, 1) := by decide +kernel
theorem dX12_readWord_3 : decode cX12_readWord 3 = .ok (.istore_n 2, 1) := by decide +kernel
theorem dX12_readWord_4 : decode cX12_readWord 4 = .ok (.aload_n 0, 1) := by decide +kernel
theorem dX12_readWord_5 : decode cX12_readWord 5 = .ok (.lconst 0, 1) := by decide +kernel
theorem dX12_readWord_6 : decode cX12_readWord 6 = .ok (.putfield 337, 3) := by decide +kernel
theorem dX12_readWord_9 : decode cX12_readWord 9 = .ok (.aload_n 0, 1) := by decide +kernel
theorem dX12_readWord_10 : decode cX12_readWord 10 = .ok (.aload_n 0, 1) := by decide +kernel
theorem dX12_readWord_11 : decode cX12_readWord 11 = .ok (.getfield 104, 3) := by decide +kernel
theorem dX12_readWord_14 : decode cX12_readWord 14 = .ok (.invokevirtual 107, 3) := by decide +kernel
theorem dX12_readWord_17 : decode cX12_readWord 17 = .ok (.invokestatic 319, 3) := by decide +kernel
theorem dX12_readWord_20 : decode cX12_readWord 20 = .ok (.ifCond .ne 17, 3) := by decide +kernel
theorem dX12_readWord_23 : decode cX12_readWord 23 = .ok (.aload_n 0, 1) := by decide +kernel
theorem dX12_readWord_24 : decode cX12_readWord 24 = .ok (.aload_n 0, 1) := by decide +kernel
theorem dX12_readWord_25 : decode cX12_readWord 25 = .ok (.getfield 104, 3) := by decide +kernel
theorem dX12_readWord_28 : decode cX12_readWord 28 = .ok (.invokevirtual 107, 3) := by decide +kernel
theorem dX12_readWord_31 : decode cX12_readWord 31 = .ok (.invokestatic 325, 3) := by decide +kernel
theorem dX12_readWord_34 : decode cX12_readWord 34 = .ok (.ifCond .eq 75, 3) := by decide +kernel
theorem dX12_readWord_37 : decode cX12_readWord 37 = .ok (.iload_n 2, 1) := by decide +kernel
theorem dX12_readWord_38 : decode cX12_readWord 38 = .ok (.ifCond .eq 21, 3) := by decide +kernel
theorem dX12_readWord_41 : decode cX12_readWord 41 = .ok (.aload_n 0, 1) := by decide +kernel
theorem dX12_readWord_42 : decode cX12_readWord 42 = .ok (.aload_n 0, 1) := by decide +kernel
theorem dX12_readWord_43 : decode cX12_readWord 43 = .ok (.getfield 104, 3) := by decide +kernel
theorem dX12_readWord_46 : decode cX12_readWord 46 = .ok (.invokevirtual 107, 3) := by decide +kernel
theorem dX12_readWord_49 : decode cX12_readWord 49 = .ok (.invokestatic 319, 3) := by decide +kernel
theorem dX12_readWord_52 : decode cX12_readWord 52 = .ok (.ifCond .eq 7, 3) := by decide +kernel
theorem dX12_readWord_55 : decode cX12_readWord 55 = .ok (.iconst 1, 1) := by decide +kernel
theorem dX12_readWord_56 : decode cX12_readWord 56 = .ok (.goto 4, 3) := by decide +kernel
theorem dX12_readWord_59 : decode cX12_readWord 59 = .ok (.iconst 0, 1) := by decide +kernel
theorem dX12_readWord_60 : decode cX12_readWord 60 = .ok (.istore_n 2, 1) := by decide +kernel
theorem dX12_readWord_61 : decode cX12_readWord 61 = .ok (.iload_n 1, 1) := by decide +kernel
theorem dX12_readWord_62 : decode cX12_readWord 62 = .ok (.bipush 8, 2) := by decide +kernel
theorem dX12_readWord_64 : decode cX12_readWord 64 = .ok (.if_icmp .ge 29, 3) := by decide +kernel
theorem dX12_readWord_67 : decode cX12_readWord 67 = .ok (.aload_n 0, 1) := by decide +kernel
theorem dX12_readWord_68 : decode cX12_readWord 68 = .ok (.dup, 1) := by decide +kernel
theorem dX12_readWord_69 : decode cX12_readWord 69 = .ok (.getfield 337, 3) := by decide +kernel
theorem dX12_readWord_72 : decode cX12_readWord 72 = .ok (.aload_n 0, 1) := by decide +kernel
theorem dX12_readWord_73 : decode cX12_readWord 73 = .ok (.aload_n 0, 1) := by decide +kernel
theorem dX12_readWord_74 : decode cX12_readWord 74 = .ok (.getfield 104, 3) := by decide +kernel
theorem dX12_readWord_77 : decode cX12_readWord 77 = .ok (.invokevirtual 107, 3) := by decide +kernel
theorem dX12_readWord_80 : decode cX12_readWord 80 = .ok (.i2l, 1) := by decide +kernel
theorem dX12_readWord_81 : decode cX12_readWord 81 = .ok (.bipush 56, 2) := by decide +kernel
theorem dX12_readWord_83 : decode cX12_readWord 83 = .ok (.bipush 8, 2) := by decide +kernel
theorem dX12_readWord_85 : decode cX12_readWord 85 = .ok (.iload_n 1, 1) := by decide +kernel
theorem dX12_readWord_86 : decode cX12_readWord 86 = .ok (.imul, 1) := by decide +kernel
theorem dX12_readWord_87 : decode cX12_readWord 87 = .ok (.isub, 1) := by decide +kernel
theorem dX12_readWord_88 : decode cX12_readWord 88 = .ok (.lshl, 1) := by decide +kernel
theorem dX12_readWord_89 : decode cX12_readWord 89 = .ok (.lor, 1) := by decide +kernel
theorem dX12_readWord_90 : decode cX12_readWord 90 = .ok (.putfield 337, 3) := by decide +kernel
theorem dX12_readWord_93 : decode cX12_readWord 93 = .ok (.iinc 1 1, 3) := by decide +kernel
theorem dX12_readWord_96 : decode cX12_readWord 96 = .ok (.aload_n 0, 1) := by decide +kernel
theorem dX12_readWord_97 : decode cX12_readWord 97 = .ok (.dup, 1) := by decide +kernel
theorem dX12_readWord_98 : decode cX12_readWord 98 = .ok (.getfield 104, 3) := by decide +kernel
theorem dX12_readWord_101 : decode cX12_readWord 101 = .ok (.iconst 1, 1) := by decide +kernel
theorem dX12_readWord_102 : decode cX12_readWord 102 = .ok (.iadd, 1) := by decide +kernel
theorem dX12_readWord_103 : decode cX12_readWord 103 = .ok (.putfield 104, 3) := by decide +kernel
theorem dX12_readWord_106 : decode cX12_readWord 106 = .ok (.goto (-97), 3) := by decide +kernel
theorem dX12_readWord_109 : decode cX12_readWord 109 = .ok (.aload_n 0, 1) := by decide +kernel
theorem dX12_readWord_110 : decode cX12_readWord 110 = .ok (.iload_n 2, 1) := by decide +kernel
theorem dX12_readWord_111 : decode cX12_readWord 111 = .ok (.ifCond .eq 13, 3) := by decide +kernel
theorem dX12_readWord_114 : decode cX12_readWord 114 = .ok (.iload_n 1, 1) := by decide +kernel
theorem dX12_readWord_115 : decode cX12_readWord 115 = .ok (.bipush 8, 2) := by decide +kernel
theorem dX12_readWord_117 : decode cX12_readWord 117 = .ok (.if_icmp .gt 7, 3) := by decide +kernel
theorem dX12_readWord_120 : decode cX12_readWord 120 = .ok (.iconst 1, 1) := by decide +kernel
theorem dX12_readWord_121 : decode cX12_readWord 121 = .ok (.goto 5, 3) := by decide +kernel
theorem dX12_readWord_124 : decode cX12_readWord 124 = .ok (.bipush 6, 2) := by decide +kernel
theorem dX12_readWord_126 : decode cX12_readWord 126 = .ok (.putfield 316, 3) := by decide +kernel
theorem dX12_readWord_129 : decode cX12_readWord 129 = .ok (.return_, 1) := by decide +kernel
theorem dX12_readNumber_0 : decode cX12_readNumber 0 = .ok (.aload_n 0, 1) := by decide +kernel
theorem dX12_readNumber_1 : decode cX12_readNumber 1 = .ok (.aload_n 0, 1) := by decide +kernel
theorem dX12_readNumber_2 : decode cX12_readNumber 2 = .ok (.getfield 104, 3) := by decide +kernel
theorem dX12_readNumber_5 : decode cX12_readNumber 5 = .ok (.invokevirtual 107, 3) := by decide +kernel
theorem dX12_readNumber_8 : decode cX12_readNumber 8 = .ok (.bipush 45, 2) := by decide +kernel
theorem dX12_readNumber_10 : decode cX12_readNumber 10 = .ok (.if_icmp .ne 7, 3) := by decide +kernel
theorem dX12_readNumber_13 : decode cX12_readNumber 13 = .ok (.iconst 1, 1) := by decide +kernel
theorem dX12_readNumber_14 : decode cX12_readNumber 14 = .ok (.goto 4, 3) := by decide +kernel
theorem dX12_readNumber_17 : decode cX12_readNumber 17 = .ok (.iconst 0, 1) := by decide +kernel
theorem dX12_readNumber_18 : decode cX12_readNumber 18 = .ok (.istore_n 1, 1) := by decide +kernel
theorem dX12_readNumber_19 : decode cX12_readNumber 19 = .ok (.iload_n 1, 1) := by decide +kernel
theorem dX12_readNumber_20 : decode cX12_readNumber 20 = .ok (.ifCond .eq 13, 3) := by decide +kernel
theorem dX12_readNumber_23 : decode cX12_readNumber 23 = .ok (.aload_n 0, 1) := by decide +kernel
theorem dX12_readNumber_24 : decode cX12_readNumber 24 = .ok (.dup, 1) := by decide +kernel
theorem dX12_readNumber_25 : decode cX12_readNumber 25 = .ok (.getfield 104, 3) := by decide +kernel
theorem dX12_readNumber_28 : decode cX12_readNumber 28 = .ok (.iconst 1, 1) := by decide +kernel
theorem dX12_readNumber_29 : decode cX12_readNumber 29 = .ok (.iadd, 1) := by decide +kernel
theorem dX12_readNumber_30 : decode cX12_readNumber 30 = .ok (.putfield 104, 3) := by decide +kernel
theorem dX12_readNumber_33 : decode cX12_readNumber 33 = .ok (.iconst 0, 1) := by decide +kernel
theorem dX12_readNumber_34 : decode cX12_readNumber 34 = .ok (.istore_n 2, 1) := by decide +kernel
theorem dX12_readNumber_35 : decode cX12_readNumber 35 = .ok (.aload_n 0, 1) := by decide +kernel
theorem dX12_readNumber_36 : decode cX12_readNumber 36 = .ok (.aload_n 0, 1) := by decide +kernel
theorem dX12_readNumber_37 : decode cX12_readNumber 37 = .ok (.getfield 104, 3) := by decide +kernel
theorem dX12_readNumber_40 : decode cX12_readNumber 40 = .ok (.iload_n 2, 1) := by decide +kernel
theorem dX12_readNumber_41 : decode cX12_readNumber 41 = .ok (.iadd, 1) := by decide +kernel
theorem dX12_readNumber_42 : decode cX12_readNumber 42 = .ok (.invokevirtual 107, 3) := by decide +kernel
theorem dX12_readNumber_45 : decode cX12_readNumber 45 = .ok (.invokestatic 325, 3) := by decide +kernel
theorem dX12_readNumber_48 : decode cX12_readNumber 48 = .ok (.ifCond .eq 9, 3) := by decide +kernel
theorem dX12_readNumber_51 : decode cX12_readNumber 51 = .ok (.iinc 2 1, 3) := by decide +kernel
theorem dX12_readNumber_54 : decode cX12_readNumber 54 = .ok (.goto (-19), 3) := by decide +kernel
theorem dX12_readNumber_57 : decode cX12_readNumber 57 = .ok (.iload_n 1, 1) := by decide +kernel
theorem dX12_readNumber_58 : decode cX12_readNumber 58 = .ok (.ifCond .ne 23, 3) := by decide +kernel
theorem dX12_readNumber_61 : decode cX12_readNumber 61 = .ok (.aload_n 0, 1) := by decide +kernel
theorem dX12_readNumber_62 : decode cX12_readNumber 62 = .ok (.aload_n 0, 1) := by decide +kernel
theorem dX12_readNumber_63 : decode cX12_readNumber 63 = .ok (.getfield 104, 3) := by decide +kernel
theorem dX12_readNumber_66 : decode cX12_readNumber 66 = .ok (.iload_n 2, 1) := by decide +kernel
theorem dX12_readNumber_67 : decode cX12_readNumber 67 = .ok (.iadd, 1) := by decide +kernel
theorem dX12_readNumber_68 : decode cX12_readNumber 68 = .ok (.invokevirtual 107, 3) := by decide +kernel
theorem dX12_readNumber_71 : decode cX12_readNumber 71 = .ok (.bipush 46, 2) := by decide +kernel
theorem dX12_readNumber_73 : decode cX12_readNumber 73 = .ok (.if_icmp .ne 8, 3) := by decide +kernel
theorem dX12_readNumber_76 : decode cX12_readNumber 76 = .ok (.aload_n 0, 1) := by decide +kernel
theorem dX12_readNumber_77 : decode cX12_readNumber 77 = .ok (.invokevirtual 340, 3) := by decide +kernel
theorem dX12_readNumber_80 : decode cX12_readNumber 80 = .ok (.return_, 1) := by decide +kernel
theorem dX12_readNumber_81 : decode cX12_readNumber 81 = .ok (.iconst 0, 1) := by decide +kernel
theorem dX12_readNumber_82 : decode cX12_readNumber 82 = .ok (.istore_n 3, 1) := by decide +kernel
theorem dX12_readNumber_83 : decode cX12_readNumber 83 = .ok (.lconst 0, 1) := by decide +kernel
theorem dX12_readNumber_84 : decode cX12_readNumber 84 = .ok (.lstore 4, 2) := by decide +kernel
theorem dX12_readNumber_86 : decode cX12_readNumber 86 = .ok (.aload_n 0, 1) := by decide +kernel
theorem dX12_readNumber_87 : decode cX12_readNumber 87 = .ok (.aload_n 0, 1) := by decide +kernel
theorem dX12_readNumber_88 : decode cX12_readNumber 88 = .ok (.getfield 104, 3) := by decide +kernel
theorem dX12_readNumber_91 : decode cX12_readNumber 91 = .ok (.invokevirtual 107, 3) := by decide +kernel
theorem dX12_readNumber_94 : decode cX12_readNumber 94 = .ok (.invokestatic 319, 3) := by decide +kernel
theorem dX12_readNumber_97 : decode cX12_readNumber 97 = .ok (.ifCond .ne 17, 3) := by decide +kernel
theorem dX12_readNumber_100 : decode cX12_readNumber 100 = .ok (.aload_n 0, 1) := by decide +kernel
theorem dX12_readNumber_101 : decode cX12_readNumber 101 = .ok (.aload_n 0, 1) := by decide +kernel
theorem dX12_readNumber_102 : decode cX12_readNumber 102 = .ok (.getfield 104, 3) := by decide +kernel
theorem dX12_readNumber_105 : decode cX12_readNumber 105 = .ok (.invokevirtual 107, 3) := by decide +kernel
theorem dX12_readNumber_108 : decode cX12_readNumber 108 = .ok (.invokestatic 325, 3) := by decide +kernel
theorem dX12_readNumber_111 : decode cX12_readNumber 111 = .ok (.ifCond .eq 52, 3) := by decide +kernel
theorem dX12_readNumber_114 : decode cX12_readNumber 114 = .ok (.iload_n 3, 1) := by decide +kernel
theorem dX12_readNumber_115 : decode cX12_readNumber 115 = .ok (.bipush 10, 2) := by decide +kernel
theorem dX12_readNumber_117 : decode cX12_readNumber 117 = .ok (.if_icmp .ge 26, 3) := by decide +kernel
theorem dX12_readNumber_120 : decode cX12_readNumber 120 = .ok (.ldc2_w 343, 3) := by decide +kernel
theorem dX12_readNumber_123 : decode cX12_readNumber 123 = .ok (.lload 4, 2) := by decide +kernel
theorem dX12_readNumber_125 : decode cX12_readNumber 125 = .ok (.lmul, 1) := by decide +kernel
theorem dX12_readNumber_126 : decode cX12_readNumber 126 = .ok (.aload_n 0, 1) := by decide +kernel
theorem dX12_readNumber_127 : decode cX12_readNumber 127 = .ok (.aload_n 0, 1) := by decide +kernel
theorem dX12_readNumber_128 : decode cX12_readNumber 128 = .ok (.getfield 104, 3) := by decide +kernel
theorem dX12_readNumber_131 : decode cX12_readNumber 131 = .ok (.invokevirtual 107, 3) := by decide +kernel
theorem dX12_readNumber_134 : decode cX12_readNumber 134 = .ok (.i2l, 1) := by decide +kernel
theorem dX12_readNumber_135 : decode cX12_readNumber 135 = .ok (.ladd, 1) := by decide +kernel
theorem dX12_readNumber_136 : decode cX12_readNumber 136 = .ok (.ldc2_w 345, 3) := by decide +kernel
theorem dX12_readNumber_139 : decode cX12_readNumber 139 = .ok (.lsub, 1) := by decide +kernel
theorem dX12_readNumber_140 : decode cX12_readNumber 140 = .ok (.goto 5, 3) := by decide +kernel
theorem dX12_readNumber_143 : decode cX12_readNumber 143 = .ok (.lload 4, 2) := by decide +kernel
theorem dX12_readNumber_145 : decode cX12_readNumber 145 = .ok (.lstore 4, 2) := by decide +kernel
theorem dX12_readNumber_147 : decode cX12_readNumber 147 = .ok (.iinc 3 1, 3) := by decide +kernel
theorem dX12_readNumber_150 : decode cX12_readNumber 150 = .ok (.aload_n 0, 1) := by decide +kernel
theorem dX12_readNumber_151 : decode cX12_readNumber 151 = .ok (.dup, 1) := by decide +kernel
theorem dX12_readNumber_152 : decode cX12_readNumber 152 = .ok (.getfield 104, 3) := by decide +kernel
theorem dX12_readNumber_155 : decode cX12_readNumber 155 = .ok (.iconst 1, 1) := by decide +kernel
theorem dX12_readNumber_156 : decode cX12_readNumber 156 = .ok (.iadd, 1) := by decide +kernel
theorem dX12_readNumber_157 : decode cX12_readNumber 157 = .ok (.putfield 104, 3) := by decide +kernel
theorem dX12_readNumber_160 : decode cX12_readNumber 160 = .ok (.goto (-74), 3) := by decide +kernel
theorem dX12_readNumber_163 : decode cX12_readNumber 163 = .ok (.iload_n 1, 1) := by decide +kernel
theorem dX12_readNumber_164 : decode cX12_readNumber 164 = .ok (.ifCond .eq 9, 3) := by decide +kernel
theorem dX12_readNumber_167 : decode cX12_readNumber 167 = .ok (.lload 4, 2) := by decide +kernel
theorem dX12_readNumber_169 : decode cX12_readNumber 169 = .ok (.lneg, 1) := by decide +kernel
theorem dX12_readNumber_170 : decode cX12_readNumber 170 = .ok (.goto 5, 3) := by decide +kernel
theorem dX12_readNumber_173 : decode cX12_readNumber 173 = .ok (.lload 4, 2) := by decide +kernel
theorem dX12_readNumber_175 : decode cX12_readNumber 175 = .ok (.lstore 4, 2) := by decide +kernel
theorem dX12_readNumber_177 : decode cX12_readNumber 177 = .ok (.iload_n 3, 1) := by decide +kernel
theorem dX12_readNumber_178 : decode cX12_readNumber 178 = .ok (.iload_n 2, 1) := by decide +kernel
theorem dX12_readNumber_179 : decode cX12_readNumber 179 = .ok (.if_icmp .ne 27, 3) := by decide +kernel
theorem dX12_readNumber_182 : decode cX12_readNumber 182 = .ok (.iload_n 3, 1) := by decide +kernel
theorem dX12_readNumber_183 : decode cX12_readNumber 183 = .ok (.ifCond .le 23, 3) := by decide +kernel
theorem dX12_readNumber_186 : decode cX12_readNumber 186 = .ok (.iload_n 3, 1) := by decide +kernel
theorem dX12_readNumber_187 : decode cX12_readNumber 187 = .ok (.bipush 10, 2) := by decide +kernel
theorem dX12_readNumber_189 : decode cX12_readNumber 189 = .ok (.if_icmp .gt 17, 3) := by decide +kernel
theorem dX12_readNumber_192 : decode cX12_readNumber 192 = .ok (.lload 4, 2) := by decide +kernel
theorem dX12_readNumber_194 : decode cX12_readNumber 194 = .ok (.lload 4, 2) := by decide +kernel
theorem dX12_readNumber_196 : decode cX12_readNumber 196 = .ok (.l2i, 1) := by decide +kernel
theorem dX12_readNumber_197 : decode cX12_readNumber 197 = .ok (.i2l, 1) := by decide +kernel
theorem dX12_readNumber_198 : decode cX12_readNumber 198 = .ok (.lcmp, 1) := by decide +kernel
theorem dX12_readNumber_199 : decode cX12_readNumber 199 = .ok (.ifCond .ne 7, 3) := by decide +kernel
theorem dX12_readNumber_202 : decode cX12_readNumber 202 = .ok (.iconst 1, 1) := by decide +kernel
theorem dX12_readNumber_203 : decode cX12_readNumber 203 = .ok (.goto 4, 3) := by decide +kernel
theorem dX12_readNumber_206 : decode cX12_readNumber 206 = .ok (.iconst 0, 1) := by decide +kernel
theorem dX12_readNumber_207 : decode cX12_readNumber 207 = .ok (.istore 6, 2) := by decide +kernel
theorem dX12_readNumber_209 : decode cX12_readNumber 209 = .ok (.aload_n 0, 1) := by decide +kernel
theorem dX12_readNumber_210 : decode cX12_readNumber 210 = .ok (.iload 6, 2) := by decide +kernel
theorem dX12_readNumber_212 : decode cX12_readNumber 212 = .ok (.ifCond .eq 7, 3) := by decide +kernel
theorem dX12_readNumber_215 : decode cX12_readNumber 215 = .ok (.iconst 2, 1) := by decide +kernel
theorem dX12_readNumber_216 : decode cX12_readNumber 216 = .ok (.goto 5, 3) := by decide +kernel
theorem dX12_readNumber_219 : decode cX12_readNumber 219 = .ok (.bipush 6, 2) := by decide +kernel
theorem dX12_readNumber_221 : decode cX12_readNumber 221 = .ok (.putfield 316, 3) := by decide +kernel
theorem dX12_readNumber_224 : decode cX12_readNumber 224 = .ok (.aload_n 0, 1) := by decide +kernel
theorem dX12_readNumber_225 : decode cX12_readNumber 225 = .ok (.lload 4, 2) := by decide +kernel
theorem dX12_readNumber_227 : decode cX12_readNumber 227 = .ok (.l2i, 1) := by decide +kernel
theorem dX12_readNumber_228 : decode cX12_readNumber 228 = .ok (.putfield 347, 3) := by decide +kernel
theorem dX12_readNumber_231 : decode cX12_readNumber 231 = .ok (.return_, 1) := by decide +kernel
theorem dX12_readAddress_0 : decode cX12_readAddress 0 = .ok (.iconst 1, 1) := by decide +kernel
theorem dX12_readAddress_1 : decode cX12_readAddress 1 = .ok (.istore_n 1, 1) := by decide +kernel
theorem dX12_readAddress_2 : decode cX12_readAddress 2 = .ok (.iconst 0, 1) := by decide +kernel
theorem dX12_readAddress_3 : decode cX12_readAddress 3 = .ok (.istore_n 2, 1) := by decide +kernel
theorem dX12_readAddress_4 : decode cX12_readAddress 4 = .ok (.iconst 0, 1) := by decide +kernel
theorem dX12_readAddress_5 : decode cX12_readAddress 5 = .ok (.istore_n 3, 1) := by decide +kernel
theorem dX12_readAddress_6 : decode cX12_readAddress 6 = .ok (.iconst 1, 1) := by decide +kernel
theorem dX12_readAddress_7 : decode cX12_readAddress 7 = .ok (.istore 4, 2) := by decide +kernel
theorem dX12_readAddress_9 : decode cX12_readAddress 9 = .ok (.aload_n 0, 1) := by decide +kernel
theorem dX12_readAddress_10 : decode cX12_readAddress 10 = .ok (.iconst 0, 1) := by decide +kernel
theorem dX12_readAddress_11 : decode cX12_readAddress 11 = .ok (.putfield 347, 3) := by decide +kernel
theorem dX12_readAddress_14 : decode cX12_readAddress 14 = .ok (.aload_n 0, 1) := by decide +kernel
theorem dX12_readAddress_15 : decode cX12_readAddress 15 = .ok (.aload_n 0, 1) := by decide +kernel
theorem dX12_readAddress_16 : decode cX12_readAddress 16 = .ok (.getfield 104, 3) := by decide +kernel
theorem dX12_readAddress_19 : decode cX12_readAddress 19 = .ok (.invokevirtual 107, 3) := by decide +kernel
theorem dX12_readAddress_22 : decode cX12_readAddress 22 = .ok (.invokestatic 319, 3) := by decide +kernel
theorem dX12_readAddress_25 : decode cX12_readAddress 25 = .ok (.ifCond .ne 30, 3) := by decide +kernel
theorem dX12_readAddress_28 : decode cX12_readAddress 28 = .ok (.aload_n 0, 1) := by decide +kernel
theorem dX12_readAddress_29 : decode cX12_readAddress 29 = .ok (.aload_n 0, 1) := by decide +kernel
theorem dX12_readAddress_30 : decode cX12_readAddress 30 = .ok (.getfield 104, 3) := by decide +kernel
theorem dX12_readAddress_33 : decode cX12_readAddress 33 = .ok (.invokevirtual 107, 3) := by decide +kernel
theorem dX12_readAddress_36 : decode cX12_readAddress 36 = .ok (.invokestatic 325, 3) := by decide +kernel
theorem dX12_readAddress_39 : decode cX12_readAddress 39 = .ok (.ifCond .ne 16, 3) := by decide +kernel
theorem dX12_readAddress_42 : decode cX12_readAddress 42 = .ok (.aload_n 0, 1) := by decide +kernel
theorem dX12_readAddress_43 : decode cX12_readAddress 43 = .ok (.aload_n 0, 1) := by decide +kernel
theorem dX12_readAddress_44 : decode cX12_readAddress 44 = .ok (.getfield 104, 3) := by decide +kernel
theorem dX12_readAddress_47 : decode cX12_readAddress 47 = .ok (.invokevirtual 107, 3) := by decide +kernel
theorem dX12_readAddress_50 : decode cX12_readAddress 50 = .ok (.bipush 46, 2) := by decide +kernel
theorem dX12_readAddress_52 : decode cX12_readAddress 52 = .ok (.if_icmp .ne 144, 3) := by decide +kernel
theorem dX12_readAddress_55 : decode cX12_readAddress 55 = .ok (.aload_n 0, 1) := by decide +kernel
theorem dX12_readAddress_56 : decode cX12_readAddress 56 = .ok (.aload_n 0, 1) := by decide +kernel
theorem dX12_readAddress_57 : decode cX12_readAddress 57 = .ok (.getfield 104, 3) := by decide +kernel
theorem dX12_readAddress_60 : decode cX12_readAddress 60 = .ok (.invokevirtual 107, 3) := by decide +kernel
theorem dX12_readAddress_63 : decode cX12_readAddress 63 = .ok (.istore 5, 2) := by decide +kernel
theorem dX12_readAddress_65 : decode cX12_readAddress 65 = .ok (.aload_n 0, 1) := by decide +kernel
theorem dX12_readAddress_66 : decode cX12_readAddress 66 = .ok (.dup, 1) := by decide +kernel
theorem dX12_readAddress_67 : decode cX12_readAddress 67 = .ok (.getfield 104, 3) := by decide +kernel
theorem dX12_readAddress_70 : decode cX12_readAddress 70 = .ok (.iconst 1, 1) := by decide +kernel
theorem dX12_readAddress_71 : decode cX12_readAddress 71 = .ok (.iadd, 1) := by decide +kernel
theorem dX12_readAddress_72 : decode cX12_readAddress 72 = .ok (.putfield 104, 3) := by decide +kernel
theorem dX12_readAddress_75 : decode cX12_readAddress 75 = .ok (.iload 5, 2) := by decide +kernel
theorem dX12_readAddress_77 : decode cX12_readAddress 77 = .ok (.bipush 46, 2) := by decide +kernel
theorem dX12_readAddress_79 : decode cX12_readAddress 79 = .ok (.if_icmp .ne 47, 3) := by decide +kernel
theorem dX12_readAddress_82 : decode cX12_readAddress 82 = .ok (.iload 4, 2) := by decide +kernel
theorem dX12_readAddress_84 : decode cX12_readAddress 84 = .ok (.ifCond .eq 16, 3) := by decide +kernel
theorem dX12_readAddress_87 : decode cX12_readAddress 87 = .ok (.iload_n 2, 1) := by decide +kernel
theorem dX12_readAddress_88 : decode cX12_readAddress 88 = .ok (.ifCond .le 12, 3) := by decide +kernel
theorem dX12_readAddress_91 : decode cX12_readAddress 91 = .ok (.iload_n 1, 1) := by decide +kernel
theorem dX12_readAddress_92 : decode cX12_readAddress 92 = .ok (.iconst 4, 1) := by decide +kernel
theorem dX12_readAddress_93 : decode cX12_readAddress 93 = .ok (.if_icmp .ge 7, 3) := by decide +kernel
theorem dX12_readAddress_96 : decode cX12_readAddress 96 = .ok (.iconst 1, 1) := by decide +kernel
theorem dX12_readAddress_97 : decode cX12_readAddress 97 = .ok (.goto 4, 3) := by decide +kernel
theorem dX12_readAddress_100 : decode cX12_readAddress 100 = .ok (.iconst 0, 1) := by decide +kernel
theorem dX12_readAddress_101 : decode cX12_readAddress 101 = .ok (.istore 4, 2) := by decide +kernel
theorem dX12_readAddress_103 : decode cX12_readAddress 103 = .ok (.aload_n 0, 1) := by decide +kernel
theorem dX12_readAddress_104 : decode cX12_readAddress 104 = .ok (.aload_n 0, 1) := by decide +kernel
theorem dX12_readAddress_105 : decode cX12_readAddress 105 = .ok (.getfield 347, 3) := by decide +kernel
theorem dX12_readAddress_108 : decode cX12_readAddress 108 = .ok (.bipush 8, 2) := by decide +kernel
theorem dX12_readAddress_110 : decode cX12_readAddress 110 = .ok (.ishl, 1) := by decide +kernel
theorem dX12_readAddress_111 : decode cX12_readAddress 111 = .ok (.iload_n 3, 1) := by decide +kernel
theorem dX12_readAddress_112 : decode cX12_readAddress 112 = .ok (.ior, 1) := by decide +kernel
