theorem dX12_holds_38 : decode cX12_holds 38 = .ok (.getfield 235, 3) := by decide +kernel
theorem dX12_holds_41 : decode cX12_holds 41 = .ok (.iload_n 3, 1) := by decide +kernel
theorem dX12_holds_42 : decode cX12_holds 42 = .ok (.iaload, 1) := by decide +kernel
theorem dX12_holds_43 : decode cX12_holds 43 = .ok (.iconst 1, 1) := by decide +kernel
theorem dX12_holds_44 : decode cX12_holds 44 = .ok (.if_icmp .ne 46, 3) := by decide +kernel
theorem dX12_holds_47 : decode cX12_holds 47 = .ok (.aload_n 0, 1) := by decide +kernel
theorem dX12_holds_48 : decode cX12_holds 48 = .ok (.getfield 235, 3) := by decide +kernel
theorem dX12_holds_51 : decode cX12_holds 51 = .ok (.iload_n 3, 1) := by decide +kernel
theorem dX12_holds_52 : decode cX12_holds 52 = .ok (.iaload, 1) := by decide +kernel
theorem dX12_holds_53 : decode cX12_holds 53 = .ok (.iconst 1, 1) := by decide +kernel
theorem dX12_holds_54 : decode cX12_holds 54 = .ok (.if_icmp .ne 29, 3) := by decide +kernel
theorem dX12_holds_57 : decode cX12_holds 57 = .ok (.aload_n 0, 1) := by decide +kernel
theorem dX12_holds_58 : decode cX12_holds 58 = .ok (.aload_n 0, 1) := by decide +kernel
theorem dX12_holds_59 : decode cX12_holds 59 = .ok (.getfield 241, 3) := by decide +kernel
theorem dX12_holds_62 : decode cX12_holds 62 = .ok (.iload_n 3, 1) := by decide +kernel
theorem dX12_holds_63 : decode cX12_holds 63 = .ok (.iaload, 1) := by decide +kernel
theorem dX12_holds_64 : decode cX12_holds 64 = .ok (.iload_n 2, 1) := by decide +kernel
theorem dX12_holds_65 : decode cX12_holds 65 = .ok (.invokevirtual 435, 3) := by decide +kernel
theorem dX12_holds_68 : decode cX12_holds 68 = .ok (.ifCond .ne 5, 3) := by decide +kernel
theorem dX12_holds_71 : decode cX12_holds 71 = .ok (.iconst 0, 1) := by decide +kernel
theorem dX12_holds_72 : decode cX12_holds 72 = .ok (.ireturn, 1) := by decide +kernel
theorem dX12_holds_73 : decode cX12_holds 73 = .ok (.aload_n 0, 1) := by decide +kernel
theorem dX12_holds_74 : decode cX12_holds 74 = .ok (.getfield 238, 3) := by decide +kernel
theorem dX12_holds_77 : decode cX12_holds 77 = .ok (.iload_n 3, 1) := by decide +kernel
theorem dX12_holds_78 : decode cX12_holds 78 = .ok (.iaload, 1) := by decide +kernel
theorem dX12_holds_79 : decode cX12_holds 79 = .ok (.istore_n 3, 1) := by decide +kernel
theorem dX12_holds_80 : decode cX12_holds 80 = .ok (.goto (-33), 3) := by decide +kernel
theorem dX12_holds_83 : decode cX12_holds 83 = .ok (.aload_n 0, 1) := by decide +kernel
theorem dX12_holds_84 : decode cX12_holds 84 = .ok (.iload_n 3, 1) := by decide +kernel
theorem dX12_holds_85 : decode cX12_holds 85 = .ok (.iload_n 2, 1) := by decide +kernel
theorem dX12_holds_86 : decode cX12_holds 86 = .ok (.invokevirtual 435, 3) := by decide +kernel
theorem dX12_holds_89 : decode cX12_holds 89 = .ok (.ireturn, 1) := by decide +kernel
theorem dX12_holds_90 : decode cX12_holds 90 = .ok (.aload_n 0, 1) := by decide +kernel
theorem dX12_holds_91 : decode cX12_holds 91 = .ok (.getfield 235, 3) := by decide +kernel
theorem dX12_holds_94 : decode cX12_holds 94 = .ok (.iload_n 3, 1) := by decide +kernel
theorem dX12_holds_95 : decode cX12_holds 95 = .ok (.iaload, 1) := by decide +kernel
theorem dX12_holds_96 : decode cX12_holds 96 = .ok (.tableswitch 126 2 5 #[32, 52, 85, 105], 32) := by decide +kernel
theorem dX12_holds_128 : decode cX12_holds 128 = .ok (.aload_n 0, 1) := by decide +kernel
theorem dX12_holds_129 : decode cX12_holds 129 = .ok (.aload_n 0, 1) := by decide +kernel
theorem dX12_holds_130 : decode cX12_holds 130 = .ok (.getfield 238, 3) := by decide +kernel
theorem dX12_holds_133 : decode cX12_holds 133 = .ok (.iload_n 3, 1) := by decide +kernel
theorem dX12_holds_134 : decode cX12_holds 134 = .ok (.iaload, 1) := by decide +kernel
theorem dX12_holds_135 : decode cX12_holds 135 = .ok (.iload_n 2, 1) := by decide +kernel
theorem dX12_holds_136 : decode cX12_holds 136 = .ok (.invokevirtual 435, 3) := by decide +kernel
theorem dX12_holds_139 : decode cX12_holds 139 = .ok (.ifCond .ne 7, 3) := by decide +kernel
theorem dX12_holds_142 : decode cX12_holds 142 = .ok (.iconst 1, 1) := by decide +kernel
theorem dX12_holds_143 : decode cX12_holds 143 = .ok (.goto 4, 3) := by decide +kernel
theorem dX12_holds_146 : decode cX12_holds 146 = .ok (.iconst 0, 1) := by decide +kernel
theorem dX12_holds_147 : decode cX12_holds 147 = .ok (.ireturn, 1) := by decide +kernel
theorem dX12_holds_148 : decode cX12_holds 148 = .ok (.aload_n 0, 1) := by decide +kernel
theorem dX12_holds_149 : decode cX12_holds 149 = .ok (.getfield 145, 3) := by decide +kernel
theorem dX12_holds_152 : decode cX12_holds 152 = .ok (.iload_n 2, 1) := by decide +kernel
theorem dX12_holds_153 : decode cX12_holds 153 = .ok (.laload, 1) := by decide +kernel
theorem dX12_holds_154 : decode cX12_holds 154 = .ok (.aload_n 0, 1) := by decide +kernel
theorem dX12_holds_155 : decode cX12_holds 155 = .ok (.getfield 250, 3) := by decide +kernel
theorem dX12_holds_158 : decode cX12_holds 158 = .ok (.iload_n 3, 1) := by decide +kernel
theorem dX12_holds_159 : decode cX12_holds 159 = .ok (.laload, 1) := by decide +kernel
theorem dX12_holds_160 : decode cX12_holds 160 = .ok (.lcmp, 1) := by decide +kernel
theorem dX12_holds_161 : decode cX12_holds 161 = .ok (.ifCond .ne 18, 3) := by decide +kernel
theorem dX12_holds_164 : decode cX12_holds 164 = .ok (.aload_n 0, 1) := by decide +kernel
theorem dX12_holds_165 : decode cX12_holds 165 = .ok (.getfield 148, 3) := by decide +kernel
theorem dX12_holds_168 : decode cX12_holds 168 = .ok (.iload_n 2, 1) := by decide +kernel
theorem dX12_holds_169 : decode cX12_holds 169 = .ok (.laload, 1) := by decide +kernel
theorem dX12_holds_170 : decode cX12_holds 170 = .ok (.lconst 0, 1) := by decide +kernel
theorem dX12_holds_171 : decode cX12_holds 171 = .ok (.lcmp, 1) := by decide +kernel
theorem dX12_holds_172 : decode cX12_holds 172 = .ok (.ifCond .ne 7, 3) := by decide +kernel
theorem dX12_holds_175 : decode cX12_holds 175 = .ok (.iconst 1, 1) := by decide +kernel
theorem dX12_holds_176 : decode cX12_holds 176 = .ok (.goto 4, 3) := by decide +kernel
theorem dX12_holds_179 : decode cX12_holds 179 = .ok (.iconst 0, 1) := by decide +kernel
theorem dX12_holds_180 : decode cX12_holds 180 = .ok (.ireturn, 1) := by decide +kernel
theorem dX12_holds_181 : decode cX12_holds 181 = .ok (.aload_n 0, 1) := by decide +kernel
theorem dX12_holds_182 : decode cX12_holds 182 = .ok (.iload_n 2, 1) := by decide +kernel
theorem dX12_holds_183 : decode cX12_holds 183 = .ok (.aload_n 0, 1) := by decide +kernel
theorem dX12_holds_184 : decode cX12_holds 184 = .ok (.getfield 250, 3) := by decide +kernel
theorem dX12_holds_187 : decode cX12_holds 187 = .ok (.iload_n 3, 1) := by decide +kernel
theorem dX12_holds_188 : decode cX12_holds 188 = .ok (.laload, 1) := by decide +kernel
theorem dX12_holds_189 : decode cX12_holds 189 = .ok (.invokevirtual 438, 3) := by decide +kernel
theorem dX12_holds_192 : decode cX12_holds 192 = .ok (.ifCond .lt 7, 3) := by decide +kernel
theorem dX12_holds_195 : decode cX12_holds 195 = .ok (.iconst 1, 1) := by decide +kernel
theorem dX12_holds_196 : decode cX12_holds 196 = .ok (.goto 4, 3) := by decide +kernel
theorem dX12_holds_199 : decode cX12_holds 199 = .ok (.iconst 0, 1) := by decide +kernel
theorem dX12_holds_200 : decode cX12_holds 200 = .ok (.ireturn, 1) := by decide +kernel
theorem dX12_holds_201 : decode cX12_holds 201 = .ok (.aload_n 0, 1) := by decide +kernel
theorem dX12_holds_202 : decode cX12_holds 202 = .ok (.getfield 173, 3) := by decide +kernel
theorem dX12_holds_205 : decode cX12_holds 205 = .ok (.iload_n 2, 1) := by decide +kernel
theorem dX12_holds_206 : decode cX12_holds 206 = .ok (.iaload, 1) := by decide +kernel
theorem dX12_holds_207 : decode cX12_holds 207 = .ok (.aload_n 0, 1) := by decide +kernel
theorem dX12_holds_208 : decode cX12_holds 208 = .ok (.getfield 238, 3) := by decide +kernel
theorem dX12_holds_211 : decode cX12_holds 211 = .ok (.iload_n 3, 1) := by decide +kernel
theorem dX12_holds_212 : decode cX12_holds 212 = .ok (.iaload, 1) := by decide +kernel
theorem dX12_holds_213 : decode cX12_holds 213 = .ok (.if_icmp .ne 7, 3) := by decide +kernel
theorem dX12_holds_216 : decode cX12_holds 216 = .ok (.iconst 1, 1) := by decide +kernel
theorem dX12_holds_217 : decode cX12_holds 217 = .ok (.goto 4, 3) := by decide +kernel
theorem dX12_holds_220 : decode cX12_holds 220 = .ok (.iconst 0, 1) := by decide +kernel
theorem dX12_holds_221 : decode cX12_holds 221 = .ok (.ireturn, 1) := by decide +kernel
theorem dX12_holds_222 : decode cX12_holds 222 = .ok (.aload_n 0, 1) := by decide +kernel
theorem dX12_holds_223 : decode cX12_holds 223 = .ok (.iload_n 3, 1) := by decide +kernel
theorem dX12_holds_224 : decode cX12_holds 224 = .ok (.aload_n 0, 1) := by decide +kernel
theorem dX12_holds_225 : decode cX12_holds 225 = .ok (.iload_n 2, 1) := by decide +kernel
theorem dX12_holds_226 : decode cX12_holds 226 = .ok (.aload_n 0, 1) := by decide +kernel
theorem dX12_holds_227 : decode cX12_holds 227 = .ok (.getfield 250, 3) := by decide +kernel
theorem dX12_holds_230 : decode cX12_holds 230 = .ok (.iload_n 3, 1) := by decide +kernel
theorem dX12_holds_231 : decode cX12_holds 231 = .ok (.laload, 1) := by decide +kernel
theorem dX12_holds_232 : decode cX12_holds 232 = .ok (.invokevirtual 438, 3) := by decide +kernel
theorem dX12_holds_235 : decode cX12_holds 235 = .ok (.invokevirtual 442, 3) := by decide +kernel
theorem dX12_holds_238 : decode cX12_holds 238 = .ok (.ireturn, 1) := by decide +kernel
theorem dX12_fits_0 : decode cX12_fits 0 = .ok (.iload_n 2, 1) := by decide +kernel
theorem dX12_fits_1 : decode cX12_fits 1 = .ok (.ifCond .lt 18, 3) := by decide +kernel
theorem dX12_fits_4 : decode cX12_fits 4 = .ok (.aload_n 0, 1) := by decide +kernel
theorem dX12_fits_5 : decode cX12_fits 5 = .ok (.getfield 27, 3) := by decide +kernel
theorem dX12_fits_8 : decode cX12_fits 8 = .ok (.iload_n 2, 1) := by decide +kernel
theorem dX12_fits_9 : decode cX12_fits 9 = .ok (.baload, 1) := by decide +kernel
theorem dX12_fits_10 : decode cX12_fits 10 = .ok (.aload_n 0, 1) := by decide +kernel
theorem dX12_fits_11 : decode cX12_fits 11 = .ok (.getfield 247, 3) := by decide +kernel
theorem dX12_fits_14 : decode cX12_fits 14 = .ok (.iload_n 1, 1) := by decide +kernel
theorem dX12_fits_15 : decode cX12_fits 15 = .ok (.iaload, 1) := by decide +kernel
theorem dX12_fits_16 : decode cX12_fits 16 = .ok (.if_icmp .eq 5, 3) := by decide +kernel
theorem dX12_fits_19 : decode cX12_fits 19 = .ok (.iconst 0, 1) := by decide +kernel
theorem dX12_fits_20 : decode cX12_fits 20 = .ok (.ireturn, 1) := by decide +kernel
theorem dX12_fits_21 : decode cX12_fits 21 = .ok (.aload_n 0, 1) := by decide +kernel
theorem dX12_fits_22 : decode cX12_fits 22 = .ok (.getfield 235, 3) := by decide +kernel
theorem dX12_fits_25 : decode cX12_fits 25 = .ok (.iload_n 1, 1) := by decide +kernel
theorem dX12_fits_26 : decode cX12_fits 26 = .ok (.iaload, 1) := by decide +kernel
theorem dX12_fits_27 : decode cX12_fits 27 = .ok (.tableswitch 210 6 12 #[41, 84, 125, 132, 147, 168, 189], 41) := by decide +kernel
theorem dX12_fits_68 : decode cX12_fits 68 = .ok (.aload_n 0, 1) := by decide +kernel
theorem dX12_fits_69 : decode cX12_fits 69 = .ok (.aload_n 0, 1) := by decide +kernel
theorem dX12_fits_70 : decode cX12_fits 70 = .ok (.getfield 238, 3) := by decide +kernel
theorem dX12_fits_73 : decode cX12_fits 73 = .ok (.iload_n 1, 1) := by decide +kernel
theorem dX12_fits_74 : decode cX12_fits 74 = .ok (.iaload, 1) := by decide +kernel
theorem dX12_fits_75 : decode cX12_fits 75 = .ok (.aload_n 0, 1) := by decide +kernel
theorem dX12_fits_76 : decode cX12_fits 76 = .ok (.getfield 238, 3) := by decide +kernel
theorem dX12_fits_79 : decode cX12_fits 79 = .ok (.iload_n 1, 1) := by decide +kernel
theorem dX12_fits_80 : decode cX12_fits 80 = .ok (.iaload, 1) := by decide +kernel
theorem dX12_fits_81 : decode cX12_fits 81 = .ok (.aload_n 0, 1) := by decide +kernel
theorem dX12_fits_82 : decode cX12_fits 82 = .ok (.getfield 244, 3) := by decide +kernel
theorem dX12_fits_85 : decode cX12_fits 85 = .ok (.iload_n 1, 1) := by decide +kernel
theorem dX12_fits_86 : decode cX12_fits 86 = .ok (.iaload, 1) := by decide +kernel
theorem dX12_fits_87 : decode cX12_fits 87 = .ok (.iadd, 1) := by decide +kernel
theorem dX12_fits_88 : decode cX12_fits 88 = .ok (.aload_n 0, 1) := by decide +kernel
theorem dX12_fits_89 : decode cX12_fits 89 = .ok (.getfield 37, 3) := by decide +kernel
theorem dX12_fits_92 : decode cX12_fits 92 = .ok (.iload_n 2, 1) := by decide +kernel
theorem dX12_fits_93 : decode cX12_fits 93 = .ok (.iaload, 1) := by decide +kernel
theorem dX12_fits_94 : decode cX12_fits 94 = .ok (.aload_n 0, 1) := by decide +kernel
theorem dX12_fits_95 : decode cX12_fits 95 = .ok (.getfield 37, 3) := by decide +kernel
theorem dX12_fits_98 : decode cX12_fits 98 = .ok (.iload_n 2, 1) := by decide +kernel
theorem dX12_fits_99 : decode cX12_fits 99 = .ok (.iaload, 1) := by decide +kernel
theorem dX12_fits_100 : decode cX12_fits 100 = .ok (.aload_n 0, 1) := by decide +kernel
theorem dX12_fits_101 : decode cX12_fits 101 = .ok (.getfield 30, 3) := by decide +kernel
theorem dX12_fits_104 : decode cX12_fits 104 = .ok (.iload_n 2, 1) := by decide +kernel
theorem dX12_fits_105 : decode cX12_fits 105 = .ok (.iaload, 1) := by decide +kernel
theorem dX12_fits_106 : decode cX12_fits 106 = .ok (.iadd, 1) := by decide +kernel
theorem dX12_fits_107 : decode cX12_fits 107 = .ok (.invokevirtual 445, 3) := by decide +kernel
theorem dX12_fits_110 : decode cX12_fits 110 = .ok (.ireturn, 1) := by decide +kernel
theorem dX12_fits_111 : decode cX12_fits 111 = .ok (.aload_n 0, 1) := by decide +kernel
theorem dX12_fits_112 : decode cX12_fits 112 = .ok (.getfield 241, 3) := by decide +kernel
theorem dX12_fits_115 : decode cX12_fits 115 = .ok (.iload_n 1, 1) := by decide +kernel
theorem dX12_fits_116 : decode cX12_fits 116 = .ok (.iaload, 1) := by decide +kernel
theorem dX12_fits_117 : decode cX12_fits 117 = .ok (.ifCond .eq 29, 3) := by decide +kernel
theorem dX12_fits_120 : decode cX12_fits 120 = .ok (.aload_n 0, 1) := by decide +kernel
theorem dX12_fits_121 : decode cX12_fits 121 = .ok (.getfield 30, 3) := by decide +kernel
theorem dX12_fits_124 : decode cX12_fits 124 = .ok (.iload_n 2, 1) := by decide +kernel
theorem dX12_fits_125 : decode cX12_fits 125 = .ok (.iaload, 1) := by decide +kernel
theorem dX12_fits_126 : decode cX12_fits 126 = .ok (.aload_n 0, 1) := by decide +kernel
theorem dX12_fits_127 : decode cX12_fits 127 = .ok (.getfield 244, 3) := by decide +kernel
theorem dX12_fits_130 : decode cX12_fits 130 = .ok (.iload_n 1, 1) := by decide +kernel
theorem dX12_fits_131 : decode cX12_fits 131 = .ok (.iaload, 1) := by decide +kernel
theorem dX12_fits_132 : decode cX12_fits 132 = .ok (.ixor, 1) := by decide +kernel
theorem dX12_fits_133 : decode cX12_fits 133 = .ok (.bipush 32, 2) := by decide +kernel
theorem dX12_fits_135 : decode cX12_fits 135 = .ok (.aload_n 0, 1) := by decide +kernel
theorem dX12_fits_136 : decode cX12_fits 136 = .ok (.getfield 241, 3) := by decide +kernel
theorem dX12_fits_139 : decode cX12_fits 139 = .ok (.iload_n 1, 1) := by decide +kernel
theorem dX12_fits_140 : decode cX12_fits 140 = .ok (.iaload, 1) := by decide +kernel
theorem dX12_fits_141 : decode cX12_fits 141 = .ok (.isub, 1) := by decide +kernel
theorem dX12_fits_142 : decode cX12_fits 142 = .ok (.iushr, 1) := by decide +kernel
theorem dX12_fits_143 : decode cX12_fits 143 = .ok (.ifCond .ne 7, 3) := by decide +kernel
theorem dX12_fits_146 : decode cX12_fits 146 = .ok (.iconst 1, 1) := by decide +kernel
theorem dX12_fits_147 : decode cX12_fits 147 = .ok (.goto 4, 3) := by decide +kernel
theorem dX12_fits_150 : decode cX12_fits 150 = .ok (.iconst 0, 1) := by decide +kernel
theorem dX12_fits_151 : decode cX12_fits 151 = .ok (.ireturn, 1) := by decide +kernel
theorem dX12_fits_152 : decode cX12_fits 152 = .ok (.aload_n 0, 1) := by decide +kernel
theorem dX12_fits_153 : decode cX12_fits 153 = .ok (.iload_n 1, 1) := by decide +kernel
theorem dX12_fits_154 : decode cX12_fits 154 = .ok (.iload_n 2, 1) := by decide +kernel
theorem dX12_fits_155 : decode cX12_fits 155 = .ok (.invokevirtual 449, 3) := by decide +kernel
theorem dX12_fits_158 : decode cX12_fits 158 = .ok (.ireturn, 1) := by decide +kernel
theorem dX12_fits_159 : decode cX12_fits 159 = .ok (.aload_n 0, 1) := by decide +kernel
theorem dX12_fits_160 : decode cX12_fits 160 = .ok (.iload_n 1, 1) := by decide +kernel
theorem dX12_fits_161 : decode cX12_fits 161 = .ok (.iload_n 2, 1) := by decide +kernel
theorem dX12_fits_162 : decode cX12_fits 162 = .ok (.invokevirtual 449, 3) := by decide +kernel
theorem dX12_fits_165 : decode cX12_fits 165 = .ok (.ifCond .ne 7, 3) := by decide +kernel
theorem dX12_fits_168 : decode cX12_fits 168 = .ok (.iconst 1, 1) := by decide +kernel
theorem dX12_fits_169 : decode cX12_fits 169 = .ok (.goto 4, 3) := by decide +kernel
theorem dX12_fits_172 : decode cX12_fits 172 = .ok (.iconst 0, 1) := by decide +kernel
theorem dX12_fits_173 : decode cX12_fits 173 = .ok (.ireturn, 1) := by decide +kernel
theorem dX12_fits_174 : decode cX12_fits 174 = .ok (.aload_n 0, 1) := by decide +kernel
theorem dX12_fits_175 : decode cX12_fits 175 = .ok (.getfield 30, 3) := by decide +kernel
theorem dX12_fits_178 : decode cX12_fits 178 = .ok (.iload_n 2, 1) := by decide +kernel
theorem dX12_fits_179 : decode cX12_fits 179 = .ok (.iaload, 1) := by decide +kernel
theorem dX12_fits_180 : decode cX12_fits 180 = .ok (.aload_n 0, 1) := by decide +kernel
theorem dX12_fits_181 : decode cX12_fits 181 = .ok (.getfield 244, 3) := by decide +kernel
theorem dX12_fits_184 : decode cX12_fits 184 = .ok (.iload_n 1, 1) := by decide +kernel
theorem dX12_fits_185 : decode cX12_fits 185 = .ok (.iaload, 1) := by decide +kernel
theorem dX12_fits_186 : decode cX12_fits 186 = .ok (.if_icmp .ge 7, 3) := by decide +kernel
theorem dX12_fits_189 : decode cX12_fits 189 = .ok (.iconst 1, 1) := by decide +kernel
theorem dX12_fits_190 : decode cX12_fits 190 = .ok (.goto 4, 3) := by decide +kernel
theorem dX12_fits_193 : decode cX12_fits 193 = .ok (.iconst 0, 1) := by decide +kernel
theorem dX12_fits_194 : decode cX12_fits 194 = .ok (.ireturn, 1) := by decide +kernel
theorem dX12_fits_195 : decode cX12_fits 195 = .ok (.aload_n 0, 1) := by decide +kernel
theorem dX12_fits_196 : decode cX12_fits 196 = .ok (.getfield 30, 3) := by decide +kernel
theorem dX12_fits_199 : decode cX12_fits 199 = .ok (.iload_n 2, 1) := by decide +kernel
theorem dX12_fits_200 : decode cX12_fits 200 = .ok (.iaload, 1) := by decide +kernel
theorem dX12_fits_201 : decode cX12_fits 201 = .ok (.aload_n 0, 1) := by decide +kernel
theorem dX12_fits_202 : decode cX12_fits 202 = .ok (.getfield 244, 3) := by decide +kernel
theorem dX12_fits_205 : decode cX12_fits 205 = .ok (.iload_n 1, 1) := by decide +kernel
theorem dX12_fits_206 : decode cX12_fits 206 = .ok (.iaload, 1) := by decide +kernel
theorem dX12_fits_207 : decode cX12_fits 207 = .ok (.if_icmp .gt 7, 3) := by decide +kernel
theorem dX12_fits_210 : decode cX12_fits 210 = .ok (.iconst 1, 1) := by decide +kernel
theorem dX12_fits_211 : decode cX12_fits 211 = .ok (.goto 4, 3) := by decide +kernel
theorem dX12_fits_214 : decode cX12_fits 214 = .ok (.iconst 0, 1) := by decide +kernel
theorem dX12_fits_215 : decode cX12_fits 215 = .ok (.ireturn, 1) := by decide +kernel
theorem dX12_fits_216 : decode cX12_fits 216 = .ok (.aload_n 0, 1) := by decide +kernel
theorem dX12_fits_217 : decode cX12_fits 217 = .ok (.getfield 30, 3) := by decide +kernel
theorem dX12_fits_220 : decode cX12_fits 220 = .ok (.iload_n 2, 1) := by decide +kernel
theorem dX12_fits_221 : decode cX12_fits 221 = .ok (.iaload, 1) := by decide +kernel
theorem dX12_fits_222 : decode cX12_fits 222 = .ok (.aload_n 0, 1) := by decide +kernel
theorem dX12_fits_223 : decode cX12_fits 223 = .ok (.getfield 244, 3) := by decide +kernel
theorem dX12_fits_226 : decode cX12_fits 226 = .ok (.iload_n 1, 1) := by decide +kernel
theorem dX12_fits_227 : decode cX12_fits 227 = .ok (.iaload, 1) := by decide +kernel
theorem dX12_fits_228 : decode cX12_fits 228 = .ok (.if_icmp .le 7, 3) := by decide +kernel
theorem dX12_fits_231 : decode cX12_fits 231 = .ok (.iconst 1, 1) := by decide +kernel
theorem dX12_fits_232 : decode cX12_fits 232 = .ok (.goto 4, 3) := by decide +kernel
theorem dX12_fits_235 : decode cX12_fits 235 = .ok (.iconst 0, 1) := by decide +kernel
theorem dX12_fits_236 : decode cX12_fits 236 = .ok (.ireturn, 1) := by decide +kernel
theorem dX12_fits_237 : decode cX12_fits 237 = .ok (.aload_n 0, 1) := by decide +kernel
theorem dX12_fits_238 : decode cX12_fits 238 = .ok (.getfield 30, 3) := by decide +kernel
theorem dX12_fits_241 : decode cX12_fits 241 = .ok (.iload_n 2, 1) := by decide +kernel
theorem dX12_fits_242 : decode cX12_fits 242 = .ok (.iaload, 1) := by decide +kernel
theorem dX12_fits_243 : decode cX12_fits 243 = .ok (.aload_n 0, 1) := by decide +kernel
theorem dX12_fits_244 : decode cX12_fits 244 = .ok (.getfield 244, 3) := by decide +kernel
theorem dX12_fits_247 : decode cX12_fits 247 = .ok (.iload_n 1, 1) := by decide +kernel
theorem dX12_fits_248 : decode cX12_fits 248 = .ok (.iaload, 1) := by decide +kernel
theorem dX12_fits_249 : decode cX12_fits 249 = .ok (.if_icmp .lt 7, 3) := by decide +kernel
theorem dX12_fits_252 : decode cX12_fits 252 = .ok (.iconst 1, 1) := by decide +kernel
theorem dX12_fits_253 : decode cX12_fits 253 = .ok (.goto 4, 3) := by decide +kernel
theorem dX12_fits_256 : decode cX12_fits 256 = .ok (.iconst 0, 1) := by decide +kernel
theorem dX12_fits_257 : decode cX12_fits 257 = .ok (.ireturn, 1) := by decide +kernel
theorem dX12_isValue_0 : decode cX12_isValue 0 = .ok (.aload_n 0, 1) := by decide +kernel
theorem dX12_isValue_1 : decode cX12_isValue 1 = .ok (.getfield 30, 3) := by decide +kernel
theorem dX12_isValue_4 : decode cX12_isValue 4 = .ok (.iload_n 2, 1) := by decide +kernel
theorem dX12_isValue_5 : decode cX12_isValue 5 = .ok (.iaload, 1) := by decide +kernel
theorem dX12_isValue_6 : decode cX12_isValue 6 = .ok (.aload_n 0, 1) := by decide +kernel
theorem dX12_isValue_7 : decode cX12_isValue 7 = .ok (.getfield 244, 3) := by decide +kernel
theorem dX12_isValue_10 : decode cX12_isValue 10 = .ok (.iload_n 1, 1) := by decide +kernel
theorem dX12_isValue_11 : decode cX12_isValue 11 = .ok (.iaload, 1) := by decide +kernel
theorem dX12_isValue_12 : decode cX12_isValue 12 = .ok (.if_icmp .eq 5, 3) := by decide +kernel
theorem dX12_isValue_15 : decode cX12_isValue 15 = .ok (.iconst 0, 1) := by decide +kernel
theorem dX12_isValue_16 : decode cX12_isValue 16 = .ok (.ireturn, 1) := by decide +kernel
theorem dX12_isValue_17 : decode cX12_isValue 17 = .ok (.aload_n 0, 1) := by decide +kernel
theorem dX12_isValue_18 : decode cX12_isValue 18 = .ok (.getfield 27, 3) := by decide +kernel
theorem dX12_isValue_21 : decode cX12_isValue 21 = .ok (.iload_n 2, 1) := by decide +kernel
theorem dX12_isValue_22 : decode cX12_isValue 22 = .ok (.baload, 1) := by decide +kernel
theorem dX12_isValue_23 : decode cX12_isValue 23 = .ok (.iconst 1, 1) := by decide +kernel
theorem dX12_isValue_24 : decode cX12_isValue 24 = .ok (.if_icmp .eq 5, 3) := by decide +kernel
theorem dX12_isValue_27 : decode cX12_isValue 27 = .ok (.iconst 1, 1) := by decide +kernel
theorem dX12_isValue_28 : decode cX12_isValue 28 = .ok (.ireturn, 1) := by decide +kernel
theorem dX12_isValue_29 : decode cX12_isValue 29 = .ok (.iconst 0, 1) := by decide +kernel
theorem dX12_isValue_30 : decode cX12_isValue 30 = .ok (.istore_n 3, 1) := by decide +kernel
theorem dX12_isValue_31 : decode cX12_isValue 31 = .ok (.iload_n 3, 1) := by decide +kernel
theorem dX12_isValue_32 : decode cX12_isValue 32 = .ok (.aload_n 0, 1) := by decide +kernel
theorem dX12_isValue_33 : decode cX12_isValue 33 = .ok (.getfield 30, 3) := by decide +kernel
theorem dX12_isValue_36 : decode cX12_isValue 36 = .ok (.iload_n 2, 1) := by decide +kernel
theorem dX12_isValue_37 : decode cX12_isValue 37 = .ok (.iaload, 1) := by decide +kernel
theorem dX12_isValue_38 : decode cX12_isValue 38 = .ok (.if_icmp .ge 40, 3) := by decide +kernel
theorem dX12_isValue_41 : decode cX12_isValue 41 = .ok (.aload_n 0, 1) := by decide +kernel
theorem dX12_isValue_42 : decode cX12_isValue 42 = .ok (.getfield 34, 3) := by decide +kernel
theorem dX12_isValue_45 : decode cX12_isValue 45 = .ok (.aload_n 0, 1) := by decide +kernel
theorem dX12_isValue_46 : decode cX12_isValue 46 = .ok (.getfield 37, 3) := by decide +kernel
theorem dX12_isValue_49 : decode cX12_isValue 49 = .ok (.iload_n 2, 1) := by decide +kernel
theorem dX12_isValue_50 : decode cX12_isValue 50 = .ok (.iaload, 1) := by decide +kernel
theorem dX12_isValue_51 : decode cX12_isValue 51 = .ok (.iload_n 3, 1) := by decide +kernel
theorem dX12_isValue_52 : decode cX12_isValue 52 = .ok (.iadd, 1) := by decide +kernel
theorem dX12_isValue_53 : decode cX12_isValue 53 = .ok (.baload, 1) := by decide +kernel
theorem dX12_isValue_54 : decode cX12_isValue 54 = .ok (.aload_n 0, 1) := by decide +kernel
theorem dX12_isValue_55 : decode cX12_isValue 55 = .ok (.getfield 232, 3) := by decide +kernel
theorem dX12_isValue_58 : decode cX12_isValue 58 = .ok (.aload_n 0, 1) := by decide +kernel
theorem dX12_isValue_59 : decode cX12_isValue 59 = .ok (.getfield 238, 3) := by decide +kernel
theorem dX12_isValue_62 : decode cX12_isValue 62 = .ok (.iload_n 1, 1) := by decide +kernel
theorem dX12_isValue_63 : decode cX12_isValue 63 = .ok (.iaload, 1) := by decide +kernel
theorem dX12_isValue_64 : decode cX12_isValue 64 = .ok (.iload_n 3, 1) := by decide +kernel
theorem dX12_isValue_65 : decode cX12_isValue 65 = .ok (.iadd, 1) := by decide +kernel
theorem dX12_isValue_66 : decode cX12_isValue 66 = .ok (.baload, 1) := by decide +kernel
theorem dX12_isValue_67 : decode cX12_isValue 67 = .ok (.if_icmp .eq 5, 3) := by decide +kernel
theorem dX12_isValue_70 : decode cX12_isValue 70 = .ok (.iconst 0, 1) := by decide +kernel
theorem dX12_isValue_71 : decode cX12_isValue 71 = .ok (.ireturn, 1) := by decide +kernel
theorem dX12_isValue_72 : decode cX12_isValue 72 = .ok (.iinc 3 1, 3) := by decide +kernel
theorem dX12_isValue_75 : decode cX12_isValue 75 = .ok (.goto (-44), 3) := by decide +kernel
theorem dX12_isValue_78 : decode cX12_isValue 78 = .ok (.iconst 1, 1) := by decide +kernel
theorem dX12_isValue_79 : decode cX12_isValue 79 = .ok (.ireturn, 1) := by decide +kernel
theorem dX12_like_0 : decode cX12_like 0 = .ok (.iload 4, 2) := by decide +kernel
theorem dX12_like_2 : decode cX12_like 2 = .ok (.iload_n 3, 1) := by decide +kernel
theorem dX12_like_3 : decode cX12_like 3 = .ok (.isub, 1) := by decide +kernel
theorem dX12_like_4 : decode cX12_like 4 = .ok (.istore 5, 2) := by decide +kernel
theorem dX12_like_6 : decode cX12_like 6 = .ok (.iconst 0, 1) := by decide +kernel
theorem dX12_like_7 : decode cX12_like 7 = .ok (.istore 6, 2) := by decide +kernel
theorem dX12_like_9 : decode cX12_like 9 = .ok (.iload 6, 2) := by decide +kernel
theorem dX12_like_11 : decode cX12_like 11 = .ok (.iload 5, 2) := by decide +kernel
theorem dX12_like_13 : decode cX12_like 13 = .ok (.if_icmp .gt 26, 3) := by decide +kernel
theorem dX12_like_16 : decode cX12_like 16 = .ok (.aload_n 0, 1) := by decide +kernel
theorem dX12_like_17 : decode cX12_like 17 = .ok (.getfield 256, 3) := by decide +kernel
theorem dX12_like_20 : decode cX12_like 20 = .ok (.iload 6, 2) := by decide +kernel
theorem dX12_like_22 : decode cX12_like 22 = .ok (.iload 6, 2) := by decide +kernel
theorem dX12_like_24 : decode cX12_like 24 = .ok (.ifCond .ne 7, 3) := by decide +kernel
theorem dX12_like_27 : decode cX12_like 27 = .ok (.iconst 1, 1) := by decide +kernel
theorem dX12_like_28 : decode cX12_like 28 = .ok (.goto 4, 3) := by decide +kernel
theorem dX12_like_31 : decode cX12_like 31 = .ok (.iconst 0, 1) := by decide +kernel
theorem dX12_like_32 : decode cX12_like 32 = .ok (.bastore, 1) := by decide +kernel
theorem dX12_like_33 : decode cX12_like 33 = .ok (.iinc 6 1, 3) := by decide +kernel
theorem dX12_like_36 : decode cX12_like 36 = .ok (.goto (-27), 3) := by decide +kernel
theorem dX12_like_39 : decode cX12_like 39 = .ok (.iload_n 1, 1) := by decide +kernel
theorem dX12_like_40 : decode cX12_like 40 = .ok (.istore 6, 2) := by decide +kernel
theorem dX12_like_42 : decode cX12_like 42 = .ok (.iload 6, 2) := by decide +kernel
theorem dX12_like_44 : decode cX12_like 44 = .ok (.iload_n 2, 1) := by decide +kernel
theorem dX12_like_45 : decode cX12_like 45 = .ok (.if_icmp .ge 147, 3) := by decide +kernel
theorem dX12_like_48 : decode cX12_like 48 = .ok (.aload_n 0, 1) := by decide +kernel
theorem dX12_like_49 : decode cX12_like 49 = .ok (.getfield 232, 3) := by decide +kernel
theorem dX12_like_52 : decode cX12_like 52 = .ok (.iload 6, 2) := by decide +kernel
theorem dX12_like_54 : decode cX12_like 54 = .ok (.baload, 1) := by decide +kernel
theorem dX12_like_55 : decode cX12_like 55 = .ok (.istore 7, 2) := by decide +kernel
theorem dX12_like_57 : decode cX12_like 57 = .ok (.iload 7, 2) := by decide +kernel
theorem dX12_like_59 : decode cX12_like 59 = .ok (.bipush 42, 2) := by decide +kernel
theorem dX12_like_61 : decode cX12_like 61 = .ok (.if_icmp .ne 56, 3) := by decide +kernel
theorem dX12_like_64 : decode cX12_like 64 = .ok (.iconst 1, 1) := by decide +kernel
theorem dX12_like_65 : decode cX12_like 65 = .ok (.istore 8, 2) := by decide +kernel
theorem dX12_like_67 : decode cX12_like 67 = .ok (.iload 8, 2) := by decide +kernel
theorem dX12_like_69 : decode cX12_like 69 = .ok (.iload 5, 2) := by decide +kernel
theorem dX12_like_71 : decode cX12_like 71 = .ok (.if_icmp .gt 43, 3) := by decide +kernel
theorem dX12_like_74 : decode cX12_like 74 = .ok (.aload_n 0, 1) := by decide +kernel
theorem dX12_like_75 : decode cX12_like 75 = .ok (.getfield 256, 3) := by decide +kernel
theorem dX12_like_78 : decode cX12_like 78 = .ok (.iload 8, 2) := by decide +kernel
theorem dX12_like_80 : decode cX12_like 80 = .ok (.aload_n 0, 1) := by decide +kernel
theorem dX12_like_81 : decode cX12_like 81 = .ok (.getfield 256, 3) := by decide +kernel
theorem dX12_like_84 : decode cX12_like 84 = .ok (.iload 8, 2) := by decide +kernel
theorem dX12_like_86 : decode cX12_like 86 = .ok (.baload, 1) := by decide +kernel
theorem dX12_like_87 : decode cX12_like 87 = .ok (.ifCond .ne 15, 3) := by decide +kernel
theorem dX12_like_90 : decode cX12_like 90 = .ok (.aload_n 0, 1) := by decide +kernel
theorem dX12_like_91 : decode cX12_like 91 = .ok (.getfield 256, 3) := by decide +kernel
theorem dX12_like_94 : decode cX12_like 94 = .ok (.iload 8, 2) := by decide +kernel
theorem dX12_like_96 : decode cX12_like 96 = .ok (.iconst 1, 1) := by decide +kernel
theorem dX12_like_97 : decode cX12_like 97 = .ok (.isub, 1) := by decide +kernel
theorem dX12_like_98 : decode cX12_like 98 = .ok (.baload, 1) := by decide +kernel
theorem dX12_like_99 : decode cX12_like 99 = .ok (.ifCond .eq 7, 3) := by decide +kernel
theorem dX12_like_102 : decode cX12_like 102 = .ok (.iconst 1, 1) := by decide +kernel
theorem dX12_like_103 : decode cX12_like 103 = .ok (.goto 4, 3) := by decide +kernel
theorem dX12_like_106 : decode cX12_like 106 = .ok (.iconst 0, 1) := by decide +kernel
theorem dX12_like_107 : decode cX12_like 107 = .ok (.bastore, 1) := by decide +kernel
theorem dX12_like_108 : decode cX12_like 108 = .ok (.iinc 8 1, 3) := by decide +kernel
theorem dX12_like_111 : decode cX12_like 111 = .ok (.goto (-44), 3) := by decide +kernel
theorem dX12_like_114 : decode cX12_like 114 = .ok (.goto 72, 3) := by decide +kernel
theorem dX12_like_117 : decode cX12_like 117 = .ok (.iload 5, 2) := by decide +kernel
theorem dX12_like_119 : decode cX12_like 119 = .ok (.istore 8, 2) := by decide +kernel
theorem dX12_like_121 : decode cX12_like 121 = .ok (.iload 8, 2) := by decide +kernel
theorem dX12_like_123 : decode cX12_like 123 = .ok (.ifCond .le 56, 3) := by decide +kernel
theorem dX12_like_126 : decode cX12_like 126 = .ok (.aload_n 0, 1) := by decide +kernel
theorem dX12_like_127 : decode cX12_like 127 = .ok (.getfield 256, 3) := by decide +kernel
theorem dX12_like_130 : decode cX12_like 130 = .ok (.iload 8, 2) := by decide +kernel
theorem dX12_like_132 : decode cX12_like 132 = .ok (.aload_n 0, 1) := by decide +kernel
theorem dX12_like_133 : decode cX12_like 133 = .ok (.getfield 256, 3) := by decide +kernel
theorem dX12_like_136 : decode cX12_like 136 = .ok (.iload 8, 2) := by decide +kernel
theorem dX12_like_138 : decode cX12_like 138 = .ok (.iconst 1, 1) := by decide +kernel
theorem dX12_like_139 : decode cX12_like 139 = .ok (.isub, 1) := by decide +kernel
theorem dX12_like_140 : decode cX12_like 140 = .ok (.baload, 1) := by decide +kernel
theorem dX12_like_141 : decode cX12_like 141 = .ok (.ifCond .eq 30, 3) := by decide +kernel
theorem dX12_like_144 : decode cX12_like 144 = .ok (.iload 7, 2) := by decide +kernel
theorem dX12_like_146 : decode cX12_like 146 = .ok (.bipush 63, 2) := by decide +kernel
theorem dX12_like_148 : decode cX12_like 148 = .ok (.if_icmp .eq 19, 3) := by decide +kernel
theorem dX12_like_151 : decode cX12_like 151 = .ok (.aload_n 0, 1) := by decide +kernel
theorem dX12_like_152 : decode cX12_like 152 = .ok (.getfield 34, 3) := by decide +kernel
theorem dX12_like_155 : decode cX12_like 155 = .ok (.iload_n 3, 1) := by decide +kernel
theorem dX12_like_156 : decode cX12_like 156 = .ok (.iload 8, 2) := by decide +kernel
theorem dX12_like_158 : decode cX12_like 158 = .ok (.iadd, 1) := by decide +kernel
theorem dX12_like_159 : decode cX12_like 159 = .ok (.iconst 1, 1) := by decide +kernel
theorem dX12_like_160 : decode cX12_like 160 = .ok (.isub, 1) := by decide +kernel
theorem dX12_like_161 : decode cX12_like 161 = .ok (.baload, 1) := by decide +kernel
theorem dX12_like_162 : decode cX12_like 162 = .ok (.iload 7, 2) := by decide +kernel
theorem dX12_like_164 : decode cX12_like 164 = .ok (.if_icmp .ne 7, 3) := by decide +kernel
theorem dX12_like_167 : decode cX12_like 167 = .ok (.iconst 1, 1) := by decide +kernel
theorem dX12_like_168 : decode cX12_like 168 = .ok (.goto 4, 3) := by decide +kernel
theorem dX12_like_171 : decode cX12_like 171 = .ok (.iconst 0, 1) := by decide +kernel
theorem dX12_like_172 : decode cX12_like 172 = .ok (.bastore, 1) := by decide +kernel
theorem dX12_like_173 : decode cX12_like 173 = .ok (.iinc 8 (-1), 3) := by decide +kernel
theorem dX12_like_176 : decode cX12_like 176 = .ok (.goto (-55), 3) := by decide +kernel
theorem dX12_like_179 : decode cX12_like 179 = .ok (.aload_n 0, 1) := by decide +kernel
theorem dX12_like_180 : decode cX12_like 180 = .ok (.getfield 256, 3) := by decide +kernel
theorem dX12_like_183 : decode cX12_like 183 = .ok (.iconst 0, 1) := by decide +kernel
theorem dX12_like_184 : decode cX12_like 184 = .ok (.iconst 0, 1) := by decide +kernel
theorem dX12_like_185 : decode cX12_like 185 = .ok (.bastore, 1) := by decide +kernel
theorem dX12_like_186 : decode cX12_like 186 = .ok (.iinc 6 1, 3) := by decide +kernel
theorem dX12_like_189 : decode cX12_like 189 = .ok (.goto (-147), 3) := by decide +kernel
theorem dX12_like_192 : decode cX12_like 192 = .ok (.aload_n 0, 1) := by decide +kernel
theorem dX12_like_193 : decode cX12_like 193 = .ok (.getfield 256, 3) := by decide +kernel
theorem dX12_like_196 : decode cX12_like 196 = .ok (.iload 5, 2) := by decide +kernel
theorem dX12_like_198 : decode cX12_like 198 = .ok (.baload, 1) := by decide +kernel
theorem dX12_like_199 : decode cX12_like 199 = .ok (.ireturn, 1) := by decide +kernel
theorem dX12_keyOf_0 : decode cX12_keyOf 0 = .ok (.bipush 12, 2) := by decide +kernel
theorem dX12_keyOf_2 : decode cX12_keyOf 2 = .ok (.aload_n 0, 1) := by decide +kernel
theorem dX12_keyOf_3 : decode cX12_keyOf 3 = .ok (.getfield 368, 3) := by decide +kernel
theorem dX12_keyOf_6 : decode cX12_keyOf 6 = .ok (.imul, 1) := by decide +kernel
theorem dX12_keyOf_7 : decode cX12_keyOf 7 = .ok (.iload_n 1, 1) := by decide +kernel
theorem dX12_keyOf_8 : decode cX12_keyOf 8 = .ok (.iadd, 1) := by decide +kernel
theorem dX12_keyOf_9 : decode cX12_keyOf 9 = .ok (.istore_n 3, 1) := by decide +kernel
theorem dX12_keyOf_10 : decode cX12_keyOf 10 = .ok (.iconst 0, 1) := by decide +kernel
theorem dX12_keyOf_11 : decode cX12_keyOf 11 = .ok (.istore 4, 2) := by decide +kernel
theorem dX12_keyOf_13 : decode cX12_keyOf 13 = .ok (.iload 4, 2) := by decide +kernel
theorem dX12_keyOf_15 : decode cX12_keyOf 15 = .ok (.aload_n 0, 1) := by decide +kernel
theorem dX12_keyOf_16 : decode cX12_keyOf 16 = .ok (.getfield 223, 3) := by decide +kernel
theorem dX12_keyOf_19 : decode cX12_keyOf 19 = .ok (.iload_n 3, 1) := by decide +kernel
theorem dX12_keyOf_20 : decode cX12_keyOf 20 = .ok (.iaload, 1) := by decide +kernel
theorem dX12_keyOf_21 : decode cX12_keyOf 21 = .ok (.if_icmp .ge 30, 3) := by decide +kernel
theorem dX12_keyOf_24 : decode cX12_keyOf 24 = .ok (.aload_n 0, 1) := by decide +kernel
theorem dX12_keyOf_25 : decode cX12_keyOf 25 = .ok (.iload_n 2, 1) := by decide +kernel
theorem dX12_keyOf_26 : decode cX12_keyOf 26 = .ok (.aload_n 0, 1) := by decide +kernel
theorem dX12_keyOf_27 : decode cX12_keyOf 27 = .ok (.getfield 205, 3) := by decide +kernel
theorem dX12_keyOf_30 : decode cX12_keyOf 30 = .ok (.iconst 3, 1) := by decide +kernel
theorem dX12_keyOf_31 : decode cX12_keyOf 31 = .ok (.iload_n 3, 1) := by decide +kernel
theorem dX12_keyOf_32 : decode cX12_keyOf 32 = .ok (.imul, 1) := by decide +kernel
theorem dX12_keyOf_33 : decode cX12_keyOf 33 = .ok (.iload 4, 2) := by decide +kernel
theorem dX12_keyOf_35 : decode cX12_keyOf 35 = .ok (.iadd, 1) := by decide +kernel
theorem dX12_keyOf_36 : decode cX12_keyOf 36 = .ok (.laload, 1) := by decide +kernel
theorem dX12_keyOf_37 : decode cX12_keyOf 37 = .ok (.invokevirtual 438, 3) := by decide +kernel
theorem dX12_keyOf_40 : decode cX12_keyOf 40 = .ok (.ifCond .ge 5, 3) := by decide +kernel
theorem dX12_keyOf_43 : decode cX12_keyOf 43 = .ok (.iconst (-1), 1) := by decide +kernel
theorem dX12_keyOf_44 : decode cX12_keyOf 44 = .ok (.ireturn, 1) := by decide +kernel
theorem dX12_keyOf_45 : decode cX12_keyOf 45 = .ok (.iinc 4 1, 3) := by decide +kernel
theorem dX12_keyOf_48 : decode cX12_keyOf 48 = .ok (.goto (-35), 3) := by decide +kernel
theorem dX12_keyOf_51 : decode cX12_keyOf 51 = .ok (.iload_n 2, 1) := by decide +kernel
theorem dX12_keyOf_52 : decode cX12_keyOf 52 = .ok (.iconst 1, 1) := by decide +kernel
theorem dX12_keyOf_53 : decode cX12_keyOf 53 = .ok (.isub, 1) := by decide +kernel
theorem dX12_keyOf_54 : decode cX12_keyOf 54 = .ok (.istore 4, 2) := by decide +kernel
theorem dX12_keyOf_56 : decode cX12_keyOf 56 = .ok (.iload 4, 2) := by decide +kernel
theorem dX12_keyOf_58 : decode cX12_keyOf 58 = .ok (.ifCond .lt 121, 3) := by decide +kernel
theorem dX12_keyOf_61 : decode cX12_keyOf 61 = .ok (.aload_n 0, 1) := by decide +kernel
theorem dX12_keyOf_62 : decode cX12_keyOf 62 = .ok (.getfield 87, 3) := by decide +kernel
theorem dX12_keyOf_65 : decode cX12_keyOf 65 = .ok (.sipush 4000, 3) := by decide +kernel
theorem dX12_keyOf_68 : decode cX12_keyOf 68 = .ok (.iload_n 1, 1) := by decide +kernel
theorem dX12_keyOf_69 : decode cX12_keyOf 69 = .ok (.imul, 1) := by decide +kernel
theorem dX12_keyOf_70 : decode cX12_keyOf 70 = .ok (.iload 4, 2) := by decide +kernel
theorem dX12_keyOf_72 : decode cX12_keyOf 72 = .ok (.iadd, 1) := by decide +kernel
theorem dX12_keyOf_73 : decode cX12_keyOf 73 = .ok (.saload, 1) := by decide +kernel
theorem dX12_keyOf_74 : decode cX12_keyOf 74 = .ok (.istore 5, 2) := by decide +kernel
theorem dX12_keyOf_76 : decode cX12_keyOf 76 = .ok (.iload 5, 2) := by decide +kernel
theorem dX12_keyOf_78 : decode cX12_keyOf 78 = .ok (.ifCond .ge 6, 3) := by decide +kernel
theorem dX12_keyOf_81 : decode cX12_keyOf 81 = .ok (.goto 92, 3) := by decide +kernel
theorem dX12_keyOf_84 : decode cX12_keyOf 84 = .ok (.iconst 1, 1) := by decide +kernel
theorem dX12_keyOf_85 : decode cX12_keyOf 85 = .ok (.istore 6, 2) := by decide +kernel
theorem dX12_keyOf_87 : decode cX12_keyOf 87 = .ok (.iconst 0, 1) := by decide +kernel
theorem dX12_keyOf_88 : decode cX12_keyOf 88 = .ok (.istore 7, 2) := by decide +kernel
theorem dX12_keyOf_90 : decode cX12_keyOf 90 = .ok (.iload 7, 2) := by decide +kernel
theorem dX12_keyOf_92 : decode cX12_keyOf 92 = .ok (.aload_n 0, 1) := by decide +kernel
theorem dX12_keyOf_93 : decode cX12_keyOf 93 = .ok (.getfield 223, 3) := by decide +kernel
theorem dX12_keyOf_96 : decode cX12_keyOf 96 = .ok (.iload_n 3, 1) := by decide +kernel
theorem dX12_keyOf_97 : decode cX12_keyOf 97 = .ok (.iaload, 1) := by decide +kernel
theorem dX12_keyOf_98 : decode cX12_keyOf 98 = .ok (.if_icmp .ge 67, 3) := by decide +kernel
theorem dX12_keyOf_101 : decode cX12_keyOf 101 = .ok (.iload 6, 2) := by decide +kernel
theorem dX12_keyOf_103 : decode cX12_keyOf 103 = .ok (.ifCond .eq 62, 3) := by decide +kernel
theorem dX12_keyOf_106 : decode cX12_keyOf 106 = .ok (.aload_n 0, 1) := by decide +kernel
theorem dX12_keyOf_107 : decode cX12_keyOf 107 = .ok (.getfield 55, 3) := by decide +kernel
theorem dX12_keyOf_110 : decode cX12_keyOf 110 = .ok (.aload_n 0, 1) := by decide +kernel
theorem dX12_keyOf_111 : decode cX12_keyOf 111 = .ok (.iload 5, 2) := by decide +kernel
theorem dX12_keyOf_113 : decode cX12_keyOf 113 = .ok (.aload_n 0, 1) := by decide +kernel
theorem dX12_keyOf_114 : decode cX12_keyOf 114 = .ok (.getfield 205, 3) := by decide +kernel
theorem dX12_keyOf_117 : decode cX12_keyOf 117 = .ok (.iconst 3, 1) := by decide +kernel
theorem dX12_keyOf_118 : decode cX12_keyOf 118 = .ok (.iload_n 3, 1) := by decide +kernel
theorem dX12_keyOf_119 : decode cX12_keyOf 119 = .ok (.imul, 1) := by decide +kernel
theorem dX12_keyOf_120 : decode cX12_keyOf 120 = .ok (.iload 7, 2) := by decide +kernel
theorem dX12_keyOf_122 : decode cX12_keyOf 122 = .ok (.iadd, 1) := by decide +kernel
theorem dX12_keyOf_123 : decode cX12_keyOf 123 = .ok (.laload, 1) := by decide +kernel
theorem dX12_keyOf_124 : decode cX12_keyOf 124 = .ok (.invokevirtual 438, 3) := by decide +kernel
theorem dX12_keyOf_127 : decode cX12_keyOf 127 = .ok (.iaload, 1) := by decide +kernel
theorem dX12_keyOf_128 : decode cX12_keyOf 128 = .ok (.aload_n 0, 1) := by decide +kernel
theorem dX12_keyOf_129 : decode cX12_keyOf 129 = .ok (.getfield 55, 3) := by decide +kernel
theorem dX12_keyOf_132 : decode cX12_keyOf 132 = .ok (.aload_n 0, 1) := by decide +kernel
theorem dX12_keyOf_133 : decode cX12_keyOf 133 = .ok (.iload_n 2, 1) := by decide +kernel
theorem dX12_keyOf_134 : decode cX12_keyOf 134 = .ok (.aload_n 0, 1) := by decide +kernel
theorem dX12_keyOf_135 : decode cX12_keyOf 135 = .ok (.getfield 205, 3) := by decide +kernel
theorem dX12_keyOf_138 : decode cX12_keyOf 138 = .ok (.iconst 3, 1) := by decide +kernel
theorem dX12_keyOf_139 : decode cX12_keyOf 139 = .ok (.iload_n 3, 1) := by decide +kernel
theorem dX12_keyOf_140 : decode cX12_keyOf 140 = .ok (.imul, 1) := by decide +kernel
theorem dX12_keyOf_141 : decode cX12_keyOf 141 = .ok (.iload 7, 2) := by decide +kernel
theorem dX12_keyOf_143 : decode cX12_keyOf 143 = .ok (.iadd, 1) := by decide +kernel
theorem dX12_keyOf_144 : decode cX12_keyOf 144 = .ok (.laload, 1) := by decide +kernel
theorem dX12_keyOf_145 : decode cX12_keyOf 145 = .ok (.invokevirtual 438, 3) := by decide +kernel
theorem dX12_keyOf_148 : decode cX12_keyOf 148 = .ok (.iaload, 1) := by decide +kernel
theorem dX12_keyOf_149 : decode cX12_keyOf 149 = .ok (.if_icmp .ne 7, 3) := by decide +kernel
theorem dX12_keyOf_152 : decode cX12_keyOf 152 = .ok (.iconst 1, 1) := by decide +kernel
theorem dX12_keyOf_153 : decode cX12_keyOf 153 = .ok (.goto 4, 3) := by decide +kernel
theorem dX12_keyOf_156 : decode cX12_keyOf 156 = .ok (.iconst 0, 1) := by decide +kernel
theorem dX12_keyOf_157 : decode cX12_keyOf 157 = .ok (.istore 6, 2) := by decide +kernel
theorem dX12_keyOf_159 : decode cX12_keyOf 159 = .ok (.iinc 7 1, 3) := by decide +kernel
theorem dX12_keyOf_162 : decode cX12_keyOf 162 = .ok (.goto (-72), 3) := by decide +kernel
theorem dX12_keyOf_165 : decode cX12_keyOf 165 = .ok (.iload 6, 2) := by decide +kernel
theorem dX12_keyOf_167 : decode cX12_keyOf 167 = .ok (.ifCond .eq 6, 3) := by decide +kernel
theorem dX12_keyOf_170 : decode cX12_keyOf 170 = .ok (.iload 5, 2) := by decide +kernel
theorem dX12_keyOf_172 : decode cX12_keyOf 172 = .ok (.ireturn, 1) := by decide +kernel
theorem dX12_keyOf_173 : decode cX12_keyOf 173 = .ok (.iinc 4 (-1), 3) := by decide +kernel
theorem dX12_keyOf_176 : decode cX12_keyOf 176 = .ok (.goto (-120), 3) := by decide +kernel
theorem dX12_keyOf_179 : decode cX12_keyOf 179 = .ok (.iload_n 2, 1) := by decide +kernel
theorem dX12_keyOf_180 : decode cX12_keyOf 180 = .ok (.ireturn, 1) := by decide +kernel
theorem dX12_looked_0 : decode cX12_looked 0 = .ok (.iload_n 2, 1) := by decide +kernel
theorem dX12_looked_1 : decode cX12_looked 1 = .ok (.istore_n 3, 1) := by decide +kernel
theorem dX12_looked_2 : decode cX12_looked 2 = .ok (.iload_n 3, 1) := by decide +kernel
theorem dX12_looked_3 : decode cX12_looked 3 = .ok (.aload_n 0, 1) := by decide +kernel
theorem dX12_looked_4 : decode cX12_looked 4 = .ok (.getfield 380, 3) := by decide +kernel
theorem dX12_looked_7 : decode cX12_looked 7 = .ok (.if_icmp .ge 246, 3) := by decide +kernel
theorem dX12_looked_10 : decode cX12_looked 10 = .ok (.bipush 12, 2) := by decide +kernel
theorem dX12_looked_12 : decode cX12_looked 12 = .ok (.aload_n 0, 1) := by decide +kernel
theorem dX12_looked_13 : decode cX12_looked 13 = .ok (.getfield 368, 3) := by decide +kernel
theorem dX12_looked_16 : decode cX12_looked 16 = .ok (.imul, 1) := by decide +kernel
theorem dX12_looked_17 : decode cX12_looked 17 = .ok (.iload_n 3, 1) := by decide +kernel
theorem dX12_looked_18 : decode cX12_looked 18 = .ok (.iadd, 1) := by decide +kernel
theorem dX12_looked_19 : decode cX12_looked 19 = .ok (.istore 4, 2) := by decide +kernel
theorem dX12_looked_21 : decode cX12_looked 21 = .ok (.sipush 4000, 3) := by decide +kernel
theorem dX12_looked_24 : decode cX12_looked 24 = .ok (.iload_n 3, 1) := by decide +kernel
theorem dX12_looked_25 : decode cX12_looked 25 = .ok (.imul, 1) := by decide +kernel
theorem dX12_looked_26 : decode cX12_looked 26 = .ok (.iload_n 1, 1) := by decide +kernel
theorem dX12_looked_27 : decode cX12_looked 27 = .ok (.iadd, 1) := by decide +kernel
theorem dX12_looked_28 : decode cX12_looked 28 = .ok (.istore 5, 2) := by decide +kernel
theorem dX12_looked_30 : decode cX12_looked 30 = .ok (.aload_n 0, 1) := by decide +kernel
theorem dX12_looked_31 : decode cX12_looked 31 = .ok (.getfield 87, 3) := by decide +kernel
theorem dX12_looked_34 : decode cX12_looked 34 = .ok (.iload 5, 2) := by decide +kernel
theorem dX12_looked_36 : decode cX12_looked 36 = .ok (.aload_n 0, 1) := by decide +kernel
theorem dX12_looked_37 : decode cX12_looked 37 = .ok (.iload_n 3, 1) := by decide +kernel
theorem dX12_looked_38 : decode cX12_looked 38 = .ok (.iload_n 1, 1) := by decide +kernel
theorem dX12_looked_39 : decode cX12_looked 39 = .ok (.invokevirtual 452, 3) := by decide +kernel
theorem dX12_looked_42 : decode cX12_looked 42 = .ok (.i2s, 1) := by decide +kernel
theorem dX12_looked_43 : decode cX12_looked 43 = .ok (.sastore, 1) := by decide +kernel
theorem dX12_looked_44 : decode cX12_looked 44 = .ok (.aload_n 0, 1) := by decide +kernel
theorem dX12_looked_45 : decode cX12_looked 45 = .ok (.getfield 87, 3) := by decide +kernel
theorem dX12_looked_48 : decode cX12_looked 48 = .ok (.iload 5, 2) := by decide +kernel
theorem dX12_looked_50 : decode cX12_looked 50 = .ok (.saload, 1) := by decide +kernel
theorem dX12_looked_51 : decode cX12_looked 51 = .ok (.ifCond .ge 6, 3) := by decide +kernel
theorem dX12_looked_54 : decode cX12_looked 54 = .ok (.goto 193, 3) := by decide +kernel
theorem dX12_looked_57 : decode cX12_looked 57 = .ok (.iconst 0, 1) := by decide +kernel
theorem dX12_looked_58 : decode cX12_looked 58 = .ok (.istore 6, 2) := by decide +kernel
theorem dX12_looked_60 : decode cX12_looked 60 = .ok (.iconst 0, 1) := by decide +kernel
theorem dX12_looked_61 : decode cX12_looked 61 = .ok (.istore 7, 2) := by decide +kernel
theorem dX12_looked_63 : decode cX12_looked 63 = .ok (.iload 7, 2) := by decide +kernel
theorem dX12_looked_65 : decode cX12_looked 65 = .ok (.aload_n 0, 1) := by decide +kernel
theorem dX12_looked_66 : decode cX12_looked 66 = .ok (.getfield 214, 3) := by decide +kernel
theorem dX12_looked_69 : decode cX12_looked 69 = .ok (.iload 4, 2) := by decide +kernel
theorem dX12_looked_71 : decode cX12_looked 71 = .ok (.iaload, 1) := by decide +kernel
theorem dX12_looked_72 : decode cX12_looked 72 = .ok (.if_icmp .ge 43, 3) := by decide +kernel
theorem dX12_looked_75 : decode cX12_looked 75 = .ok (.iload 6, 2) := by decide +kernel
theorem dX12_looked_77 : decode cX12_looked 77 = .ok (.aload_n 0, 1) := by decide +kernel
theorem dX12_looked_78 : decode cX12_looked 78 = .ok (.aload_n 0, 1) := by decide +kernel
theorem dX12_looked_79 : decode cX12_looked 79 = .ok (.getfield 217, 3) := by decide +kernel
theorem dX12_looked_82 : decode cX12_looked 82 = .ok (.bipush 6, 2) := by decide +kernel
theorem dX12_looked_84 : decode cX12_looked 84 = .ok (.iload 4, 2) := by decide +kernel
theorem dX12_looked_86 : decode cX12_looked 86 = .ok (.imul, 1) := by decide +kernel
theorem dX12_looked_87 : decode cX12_looked 87 = .ok (.iload 7, 2) := by decide +kernel
theorem dX12_looked_89 : decode cX12_looked 89 = .ok (.iadd, 1) := by decide +kernel
theorem dX12_looked_90 : decode cX12_looked 90 = .ok (.iaload, 1) := by decide +kernel
theorem dX12_looked_91 : decode cX12_looked 91 = .ok (.iload_n 1, 1) := by decide +kernel
theorem dX12_looked_92 : decode cX12_looked 92 = .ok (.invokevirtual 435, 3) := by decide +kernel
theorem dX12_looked_95 : decode cX12_looked 95 = .ok (.ifCond .eq 10, 3) := by decide +kernel
theorem dX12_looked_98 : decode cX12_looked 98 = .ok (.iconst 1, 1) := by decide +kernel
theorem dX12_looked_99 : decode cX12_looked 99 = .ok (.iload 7, 2) := by decide +kernel
theorem dX12_looked_101 : decode cX12_looked 101 = .ok (.ishl, 1) := by decide +kernel
theorem dX12_looked_102 : decode cX12_looked 102 = .ok (.goto 4, 3) := by decide +kernel
theorem dX12_looked_105 : decode cX12_looked 105 = .ok (.iconst 0, 1) := by decide +kernel
theorem dX12_looked_106 : decode cX12_looked 106 = .ok (.ior, 1) := by decide +kernel
theorem dX12_looked_107 : decode cX12_looked 107 = .ok (.istore 6, 2) := by decide +kernel
theorem dX12_looked_109 : decode cX12_looked 109 = .ok (.iinc 7 1, 3) := by decide +kernel
theorem dX12_looked_112 : decode cX12_looked 112 = .ok (.goto (-49), 3) := by decide +kernel
theorem dX12_looked_115 : decode cX12_looked 115 = .ok (.aload_n 0, 1) := by decide +kernel
theorem dX12_looked_116 : decode cX12_looked 116 = .ok (.getfield 220, 3) := by decide +kernel
theorem dX12_looked_119 : decode cX12_looked 119 = .ok (.iload 4, 2) := by decide +kernel
theorem dX12_looked_121 : decode cX12_looked 121 = .ok (.iaload, 1) := by decide +kernel
theorem dX12_looked_122 : decode cX12_looked 122 = .ok (.ifCond .lt 25, 3) := by decide +kernel
theorem dX12_looked_125 : decode cX12_looked 125 = .ok (.aload_n 0, 1) := by decide +kernel
theorem dX12_looked_126 : decode cX12_looked 126 = .ok (.aload_n 0, 1) := by decide +kernel
theorem dX12_looked_127 : decode cX12_looked 127 = .ok (.getfield 220, 3) := by decide +kernel
theorem dX12_looked_130 : decode cX12_looked 130 = .ok (.iload 4, 2) := by decide +kernel
theorem dX12_looked_132 : decode cX12_looked 132 = .ok (.iaload, 1) := by decide +kernel
theorem dX12_looked_133 : decode cX12_looked 133 = .ok (.iload_n 1, 1) := by decide +kernel
theorem dX12_looked_134 : decode cX12_looked 134 = .ok (.invokevirtual 435, 3) := by decide +kernel
theorem dX12_looked_137 : decode cX12_looked 137 = .ok (.ifCond .eq 10, 3) := by decide +kernel
theorem dX12_looked_140 : decode cX12_looked 140 = .ok (.iload 6, 2) := by decide +kernel
theorem dX12_looked_142 : decode cX12_looked 142 = .ok (.bipush 32, 2) := by decide +kernel
theorem dX12_looked_144 : decode cX12_looked 144 = .ok (.ior, 1) := by decide +kernel
theorem dX12_looked_145 : decode cX12_looked 145 = .ok (.istore 6, 2) := by decide +kernel
theorem dX12_looked_147 : decode cX12_looked 147 = .ok (.aload_n 0, 1) := by decide +kernel
theorem dX12_looked_148 : decode cX12_looked 148 = .ok (.getfield 260, 3) := by decide +kernel
theorem dX12_looked_151 : decode cX12_looked 151 = .ok (.iload 5, 2) := by decide +kernel
theorem dX12_looked_153 : decode cX12_looked 153 = .ok (.iload 6, 2) := by decide +kernel
theorem dX12_looked_155 : decode cX12_looked 155 = .ok (.i2b, 1) := by decide +kernel
theorem dX12_looked_156 : decode cX12_looked 156 = .ok (.bastore, 1) := by decide +kernel
theorem dX12_looked_157 : decode cX12_looked 157 = .ok (.aload_n 0, 1) := by decide +kernel
theorem dX12_looked_158 : decode cX12_looked 158 = .ok (.getfield 208, 3) := by decide +kernel
theorem dX12_looked_161 : decode cX12_looked 161 = .ok (.iload 4, 2) := by decide +kernel
theorem dX12_looked_163 : decode cX12_looked 163 = .ok (.iaload, 1) := by decide +kernel
theorem dX12_looked_164 : decode cX12_looked 164 = .ok (.iconst 4, 1) := by decide +kernel
theorem dX12_looked_165 : decode cX12_looked 165 = .ok (.if_icmp .ne 37, 3) := by decide +kernel
theorem dX12_looked_168 : decode cX12_looked 168 = .ok (.aload_n 0, 1) := by decide +kernel
theorem dX12_looked_169 : decode cX12_looked 169 = .ok (.iload_n 3, 1) := by decide +kernel
theorem dX12_looked_170 : decode cX12_looked 170 = .ok (.iload_n 1, 1) := by decide +kernel
theorem dX12_looked_171 : decode cX12_looked 171 = .ok (.iload 6, 2) := by decide +kernel
theorem dX12_looked_173 : decode cX12_looked 173 = .ok (.iconst 2, 1) := by decide +kernel
theorem dX12_looked_174 : decode cX12_looked 174 = .ok (.iand, 1) := by decide +kernel
theorem dX12_looked_175 : decode cX12_looked 175 = .ok (.ifCond .le 7, 3) := by decide +kernel
theorem dX12_looked_178 : decode cX12_looked 178 = .ok (.iconst 1, 1) := by decide +kernel
theorem dX12_looked_179 : decode cX12_looked 179 = .ok (.goto 4, 3) := by decide +kernel
theorem dX12_looked_182 : decode cX12_looked 182 = .ok (.iconst 0, 1) := by decide +kernel
theorem dX12_looked_183 : decode cX12_looked 183 = .ok (.invokevirtual 455, 3) := by decide +kernel
theorem dX12_looked_186 : decode cX12_looked 186 = .ok (.iload 6, 2) := by decide +kernel
theorem dX12_looked_188 : decode cX12_looked 188 = .ok (.iconst 1, 1) := by decide +kernel
theorem dX12_looked_189 : decode cX12_looked 189 = .ok (.iand, 1) := by decide +kernel
theorem dX12_looked_190 : decode cX12_looked 190 = .ok (.ifCond .le 57, 3) := by decide +kernel
theorem dX12_looked_193 : decode cX12_looked 193 = .ok (.aload_n 0, 1) := by decide +kernel
theorem dX12_looked_194 : decode cX12_looked 194 = .ok (.iload_n 3, 1) := by decide +kernel
theorem dX12_looked_195 : decode cX12_looked 195 = .ok (.iload_n 1, 1) := by decide +kernel
theorem dX12_looked_196 : decode cX12_looked 196 = .ok (.invokevirtual 459, 3) := by decide +kernel
theorem dX12_looked_199 : decode cX12_looked 199 = .ok (.goto 48, 3) := by decide +kernel
theorem dX12_looked_202 : decode cX12_looked 202 = .ok (.iload 6, 2) := by decide +kernel
theorem dX12_looked_204 : decode cX12_looked 204 = .ok (.aload_n 0, 1) := by decide +kernel
theorem dX12_looked_205 : decode cX12_looked 205 = .ok (.getfield 214, 3) := by decide +kernel
theorem dX12_looked_208 : decode cX12_looked 208 = .ok (.iload 4, 2) := by decide +kernel
theorem dX12_looked_210 : decode cX12_looked 210 = .ok (.iaload, 1) := by decide +kernel
theorem dX12_looked_211 : decode cX12_looked 211 = .ok (.iconst 1, 1) := by decide +kernel
theorem dX12_looked_212 : decode cX12_looked 212 = .ok (.isub, 1) := by decide +kernel
theorem dX12_looked_213 : decode cX12_looked 213 = .ok (.ishr, 1) := by decide +kernel
theorem dX12_looked_214 : decode cX12_looked 214 = .ok (.iconst 1, 1) := by decide +kernel
theorem dX12_looked_215 : decode cX12_looked 215 = .ok (.iand, 1) := by decide +kernel
theorem dX12_looked_216 : decode cX12_looked 216 = .ok (.iconst 1, 1) := by decide +kernel
theorem dX12_looked_217 : decode cX12_looked 217 = .ok (.if_icmp .ne 30, 3) := by decide +kernel
theorem dX12_looked_220 : decode cX12_looked 220 = .ok (.aload_n 0, 1) := by decide +kernel
theorem dX12_looked_221 : decode cX12_looked 221 = .ok (.iload_n 3, 1) := by decide +kernel
theorem dX12_looked_222 : decode cX12_looked 222 = .ok (.iload_n 1, 1) := by decide +kernel
theorem dX12_looked_223 : decode cX12_looked 223 = .ok (.invokevirtual 462, 3) := by decide +kernel
theorem dX12_looked_226 : decode cX12_looked 226 = .ok (.istore 7, 2) := by decide +kernel
theorem dX12_looked_228 : decode cX12_looked 228 = .ok (.iload 7, 2) := by decide +kernel
theorem dX12_looked_230 : decode cX12_looked 230 = .ok (.ifCond .lt 17, 3) := by decide +kernel
theorem dX12_looked_233 : decode cX12_looked 233 = .ok (.aload_n 0, 1) := by decide +kernel
theorem dX12_looked_234 : decode cX12_looked 234 = .ok (.iload_n 3, 1) := by decide +kernel
theorem dX12_looked_235 : decode cX12_looked 235 = .ok (.iload_n 1, 1) := by decide +kernel
theorem dX12_looked_236 : decode cX12_looked 236 = .ok (.aload_n 0, 1) := by decide +kernel
theorem dX12_looked_237 : decode cX12_looked 237 = .ok (.getfield 170, 3) := by decide +kernel
theorem dX12_looked_240 : decode cX12_looked 240 = .ok (.iload_n 1, 1) := by decide +kernel
theorem dX12_looked_241 : decode cX12_looked 241 = .ok (.iaload, 1) := by decide +kernel
theorem dX12_looked_242 : decode cX12_looked 242 = .ok (.iload 7, 2) := by decide +kernel
theorem dX12_looked_244 : decode cX12_looked 244 = .ok (.invokevirtual 465, 3) := by decide +kernel
theorem dX12_looked_247 : decode cX12_looked 247 = .ok (.iinc 3 1, 3) := by decide +kernel
theorem dX12_looked_250 : decode cX12_looked 250 = .ok (.goto (-248), 3) := by decide +kernel
theorem dX12_looked_253 : decode cX12_looked 253 = .ok (.return_, 1) := by decide +kernel
theorem dX12_counts_0 : decode cX12_counts 0 = .ok (.aload_n 0, 1) := by decide +kernel
theorem dX12_counts_1 : decode cX12_counts 1 = .ok (.getfield 87, 3) := by decide +kernel
theorem dX12_counts_4 : decode cX12_counts 4 = .ok (.sipush 4000, 3) := by decide +kernel
theorem dX12_counts_7 : decode cX12_counts 7 = .ok (.iload_n 1, 1) := by decide +kernel
theorem dX12_counts_8 : decode cX12_counts 8 = .ok (.imul, 1) := by decide +kernel
theorem dX12_counts_9 : decode cX12_counts 9 = .ok (.iload_n 2, 1) := by decide +kernel
theorem dX12_counts_10 : decode cX12_counts 10 = .ok (.iadd, 1) := by decide +kernel
theorem dX12_counts_11 : decode cX12_counts 11 = .ok (.saload, 1) := by decide +kernel
theorem dX12_counts_12 : decode cX12_counts 12 = .ok (.iload_n 3, 1) := by decide +kernel
theorem dX12_counts_13 : decode cX12_counts 13 = .ok (.if_icmp .ne 34, 3) := by decide +kernel
theorem dX12_counts_16 : decode cX12_counts 16 = .ok (.aload_n 0, 1) := by decide +kernel
theorem dX12_counts_17 : decode cX12_counts 17 = .ok (.getfield 260, 3) := by decide +kernel
theorem dX12_counts_20 : decode cX12_counts 20 = .ok (.sipush 4000, 3) := by decide +kernel
theorem dX12_counts_23 : decode cX12_counts 23 = .ok (.iload_n 1, 1) := by decide +kernel
theorem dX12_counts_24 : decode cX12_counts 24 = .ok (.imul, 1) := by decide +kernel
theorem dX12_counts_25 : decode cX12_counts 25 = .ok (.iload_n 2, 1) := by decide +kernel
theorem dX12_counts_26 : decode cX12_counts 26 = .ok (.iadd, 1) := by decide +kernel
theorem dX12_counts_27 : decode cX12_counts 27 = .ok (.baload, 1) := by decide +kernel
theorem dX12_counts_28 : decode cX12_counts 28 = .ok (.iconst 1, 1) := by decide +kernel
theorem dX12_counts_29 : decode cX12_counts 29 = .ok (.iand, 1) := by decide +kernel
theorem dX12_counts_30 : decode cX12_counts 30 = .ok (.iconst 1, 1) := by decide +kernel
theorem dX12_counts_31 : decode cX12_counts 31 = .ok (.if_icmp .ne 16, 3) := by decide +kernel
theorem dX12_counts_34 : decode cX12_counts 34 = .ok (.aload_n 0, 1) := by decide +kernel
theorem dX12_counts_35 : decode cX12_counts 35 = .ok (.iload_n 1, 1) := by decide +kernel
theorem dX12_counts_36 : decode cX12_counts 36 = .ok (.iload_n 2, 1) := by decide +kernel
theorem dX12_counts_37 : decode cX12_counts 37 = .ok (.invokevirtual 469, 3) := by decide +kernel
theorem dX12_counts_40 : decode cX12_counts 40 = .ok (.ifCond .eq 7, 3) := by decide +kernel
theorem dX12_counts_43 : decode cX12_counts 43 = .ok (.iconst 1, 1) := by decide +kernel
theorem dX12_counts_44 : decode cX12_counts 44 = .ok (.goto 4, 3) := by decide +kernel
theorem dX12_counts_47 : decode cX12_counts 47 = .ok (.iconst 0, 1) := by decide +kernel
theorem dX12_counts_48 : decode cX12_counts 48 = .ok (.ireturn, 1) := by decide +kernel
theorem dX12_hasIt_0 : decode cX12_hasIt 0 = .ok (.bipush 12, 2) := by decide +kernel
theorem dX12_hasIt_2 : decode cX12_hasIt 2 = .ok (.aload_n 0, 1) := by decide +kernel
theorem dX12_hasIt_3 : decode cX12_hasIt 3 = .ok (.getfield 368, 3) := by decide +kernel
theorem dX12_hasIt_6 : decode cX12_hasIt 6 = .ok (.imul, 1) := by decide +kernel
theorem dX12_hasIt_7 : decode cX12_hasIt 7 = .ok (.iload_n 1, 1) := by decide +kernel
theorem dX12_hasIt_8 : decode cX12_hasIt 8 = .ok (.iadd, 1) := by decide +kernel
theorem dX12_hasIt_9 : decode cX12_hasIt 9 = .ok (.istore_n 3, 1) := by decide +kernel
theorem dX12_hasIt_10 : decode cX12_hasIt 10 = .ok (.aload_n 0, 1) := by decide +kernel
theorem dX12_hasIt_11 : decode cX12_hasIt 11 = .ok (.getfield 208, 3) := by decide +kernel
theorem dX12_hasIt_14 : decode cX12_hasIt 14 = .ok (.iload_n 3, 1) := by decide +kernel
theorem dX12_hasIt_15 : decode cX12_hasIt 15 = .ok (.iaload, 1) := by decide +kernel
theorem dX12_hasIt_16 : decode cX12_hasIt 16 = .ok (.iconst 1, 1) := by decide +kernel
theorem dX12_hasIt_17 : decode cX12_hasIt 17 = .ok (.if_icmp .eq 15, 3) := by decide +kernel
theorem dX12_hasIt_20 : decode cX12_hasIt 20 = .ok (.aload_n 0, 1) := by decide +kernel
theorem dX12_hasIt_21 : decode cX12_hasIt 21 = .ok (.getfield 208, 3) := by decide +kernel
theorem dX12_hasIt_24 : decode cX12_hasIt 24 = .ok (.iload_n 3, 1) := by decide +kernel
theorem dX12_hasIt_25 : decode cX12_hasIt 25 = .ok (.iaload, 1) := by decide +kernel
