theorem dX12_finds_173 : decode cX12_finds 173 = .ok (.aload_n 0, 1) := by decide +kernel
theorem dX12_finds_174 : decode cX12_finds 174 = .ok (.getfield 91, 3) := by decide +kernel
theorem dX12_finds_177 : decode cX12_finds 177 = .ok (.iload 5, 2) := by decide +kernel
theorem dX12_finds_179 : decode cX12_finds 179 = .ok (.iload_n 3, 1) := by decide +kernel
theorem dX12_finds_180 : decode cX12_finds 180 = .ok (.iastore, 1) := by decide +kernel
theorem dX12_finds_181 : decode cX12_finds 181 = .ok (.aload_n 0, 1) := by decide +kernel
theorem dX12_finds_182 : decode cX12_finds 182 = .ok (.getfield 94, 3) := by decide +kernel
theorem dX12_finds_185 : decode cX12_finds 185 = .ok (.iload 5, 2) := by decide +kernel
theorem dX12_finds_187 : decode cX12_finds 187 = .ok (.iconst 0, 1) := by decide +kernel
theorem dX12_finds_188 : decode cX12_finds 188 = .ok (.sastore, 1) := by decide +kernel
theorem dX12_finds_189 : decode cX12_finds 189 = .ok (.aload_n 0, 1) := by decide +kernel
theorem dX12_finds_190 : decode cX12_finds 190 = .ok (.getfield 290, 3) := by decide +kernel
theorem dX12_finds_193 : decode cX12_finds 193 = .ok (.aload_n 0, 1) := by decide +kernel
theorem dX12_finds_194 : decode cX12_finds 194 = .ok (.getfield 496, 3) := by decide +kernel
theorem dX12_finds_197 : decode cX12_finds 197 = .ok (.iload_n 1, 1) := by decide +kernel
theorem dX12_finds_198 : decode cX12_finds 198 = .ok (.i2s, 1) := by decide +kernel
theorem dX12_finds_199 : decode cX12_finds 199 = .ok (.sastore, 1) := by decide +kernel
theorem dX12_finds_200 : decode cX12_finds 200 = .ok (.aload_n 0, 1) := by decide +kernel
theorem dX12_finds_201 : decode cX12_finds 201 = .ok (.getfield 293, 3) := by decide +kernel
theorem dX12_finds_204 : decode cX12_finds 204 = .ok (.aload_n 0, 1) := by decide +kernel
theorem dX12_finds_205 : decode cX12_finds 205 = .ok (.getfield 496, 3) := by decide +kernel
theorem dX12_finds_208 : decode cX12_finds 208 = .ok (.iload_n 2, 1) := by decide +kernel
theorem dX12_finds_209 : decode cX12_finds 209 = .ok (.i2s, 1) := by decide +kernel
theorem dX12_finds_210 : decode cX12_finds 210 = .ok (.sastore, 1) := by decide +kernel
theorem dX12_finds_211 : decode cX12_finds 211 = .ok (.aload_n 0, 1) := by decide +kernel
theorem dX12_finds_212 : decode cX12_finds 212 = .ok (.dup, 1) := by decide +kernel
theorem dX12_finds_213 : decode cX12_finds 213 = .ok (.getfield 496, 3) := by decide +kernel
theorem dX12_finds_216 : decode cX12_finds 216 = .ok (.iconst 1, 1) := by decide +kernel
theorem dX12_finds_217 : decode cX12_finds 217 = .ok (.iadd, 1) := by decide +kernel
theorem dX12_finds_218 : decode cX12_finds 218 = .ok (.putfield 496, 3) := by decide +kernel
theorem dX12_finds_221 : decode cX12_finds 221 = .ok (.return_, 1) := by decide +kernel
theorem dX12_follow_0 : decode cX12_follow 0 = .ok (.aload_n 0, 1) := by decide +kernel
theorem dX12_follow_1 : decode cX12_follow 1 = .ok (.getfield 496, 3) := by decide +kernel
theorem dX12_follow_4 : decode cX12_follow 4 = .ok (.istore_n 1, 1) := by decide +kernel
theorem dX12_follow_5 : decode cX12_follow 5 = .ok (.iconst 0, 1) := by decide +kernel
theorem dX12_follow_6 : decode cX12_follow 6 = .ok (.istore_n 2, 1) := by decide +kernel
theorem dX12_follow_7 : decode cX12_follow 7 = .ok (.iload_n 2, 1) := by decide +kernel
theorem dX12_follow_8 : decode cX12_follow 8 = .ok (.iload_n 1, 1) := by decide +kernel
theorem dX12_follow_9 : decode cX12_follow 9 = .ok (.if_icmp .ge 46, 3) := by decide +kernel
theorem dX12_follow_12 : decode cX12_follow 12 = .ok (.aload_n 0, 1) := by decide +kernel
theorem dX12_follow_13 : decode cX12_follow 13 = .ok (.getfield 293, 3) := by decide +kernel
theorem dX12_follow_16 : decode cX12_follow 16 = .ok (.iload_n 2, 1) := by decide +kernel
theorem dX12_follow_17 : decode cX12_follow 17 = .ok (.saload, 1) := by decide +kernel
theorem dX12_follow_18 : decode cX12_follow 18 = .ok (.istore_n 3, 1) := by decide +kernel
theorem dX12_follow_19 : decode cX12_follow 19 = .ok (.aload_n 0, 1) := by decide +kernel
theorem dX12_follow_20 : decode cX12_follow 20 = .ok (.getfield 173, 3) := by decide +kernel
theorem dX12_follow_23 : decode cX12_follow 23 = .ok (.iload_n 3, 1) := by decide +kernel
theorem dX12_follow_24 : decode cX12_follow 24 = .ok (.iaload, 1) := by decide +kernel
theorem dX12_follow_25 : decode cX12_follow 25 = .ok (.ifCond .ge 24, 3) := by decide +kernel
theorem dX12_follow_28 : decode cX12_follow 28 = .ok (.aload_n 0, 1) := by decide +kernel
theorem dX12_follow_29 : decode cX12_follow 29 = .ok (.getfield 58, 3) := by decide +kernel
theorem dX12_follow_32 : decode cX12_follow 32 = .ok (.sipush 4000, 3) := by decide +kernel
theorem dX12_follow_35 : decode cX12_follow 35 = .ok (.if_icmp .ge 14, 3) := by decide +kernel
theorem dX12_follow_38 : decode cX12_follow 38 = .ok (.aload_n 0, 1) := by decide +kernel
theorem dX12_follow_39 : decode cX12_follow 39 = .ok (.aload_n 0, 1) := by decide +kernel
theorem dX12_follow_40 : decode cX12_follow 40 = .ok (.getfield 290, 3) := by decide +kernel
theorem dX12_follow_43 : decode cX12_follow 43 = .ok (.iload_n 2, 1) := by decide +kernel
theorem dX12_follow_44 : decode cX12_follow 44 = .ok (.saload, 1) := by decide +kernel
theorem dX12_follow_45 : decode cX12_follow 45 = .ok (.iload_n 3, 1) := by decide +kernel
theorem dX12_follow_46 : decode cX12_follow 46 = .ok (.invokevirtual 499, 3) := by decide +kernel
theorem dX12_follow_49 : decode cX12_follow 49 = .ok (.iinc 2 1, 3) := by decide +kernel
theorem dX12_follow_52 : decode cX12_follow 52 = .ok (.goto (-45), 3) := by decide +kernel
theorem dX12_follow_55 : decode cX12_follow 55 = .ok (.aload_n 0, 1) := by decide +kernel
theorem dX12_follow_56 : decode cX12_follow 56 = .ok (.iconst 0, 1) := by decide +kernel
theorem dX12_follow_57 : decode cX12_follow 57 = .ok (.putfield 496, 3) := by decide +kernel
theorem dX12_follow_60 : decode cX12_follow 60 = .ok (.return_, 1) := by decide +kernel
theorem dX12_makes_0 : decode cX12_makes 0 = .ok (.bipush 12, 2) := by decide +kernel
theorem dX12_makes_2 : decode cX12_makes 2 = .ok (.aload_n 0, 1) := by decide +kernel
theorem dX12_makes_3 : decode cX12_makes 3 = .ok (.getfield 368, 3) := by decide +kernel
theorem dX12_makes_6 : decode cX12_makes 6 = .ok (.imul, 1) := by decide +kernel
theorem dX12_makes_7 : decode cX12_makes 7 = .ok (.iload_n 1, 1) := by decide +kernel
theorem dX12_makes_8 : decode cX12_makes 8 = .ok (.iadd, 1) := by decide +kernel
theorem dX12_makes_9 : decode cX12_makes 9 = .ok (.istore_n 3, 1) := by decide +kernel
theorem dX12_makes_10 : decode cX12_makes 10 = .ok (.aload_n 0, 1) := by decide +kernel
theorem dX12_makes_11 : decode cX12_makes 11 = .ok (.getfield 58, 3) := by decide +kernel
theorem dX12_makes_14 : decode cX12_makes 14 = .ok (.istore 4, 2) := by decide +kernel
theorem dX12_makes_16 : decode cX12_makes 16 = .ok (.aload_n 0, 1) := by decide +kernel
theorem dX12_makes_17 : decode cX12_makes 17 = .ok (.dup, 1) := by decide +kernel
theorem dX12_makes_18 : decode cX12_makes 18 = .ok (.getfield 58, 3) := by decide +kernel
theorem dX12_makes_21 : decode cX12_makes 21 = .ok (.iconst 1, 1) := by decide +kernel
theorem dX12_makes_22 : decode cX12_makes 22 = .ok (.iadd, 1) := by decide +kernel
theorem dX12_makes_23 : decode cX12_makes 23 = .ok (.putfield 58, 3) := by decide +kernel
theorem dX12_makes_26 : decode cX12_makes 26 = .ok (.aload_n 0, 1) := by decide +kernel
theorem dX12_makes_27 : decode cX12_makes 27 = .ok (.dup, 1) := by decide +kernel
theorem dX12_makes_28 : decode cX12_makes 28 = .ok (.getfield 70, 3) := by decide +kernel
theorem dX12_makes_31 : decode cX12_makes 31 = .ok (.iconst 1, 1) := by decide +kernel
theorem dX12_makes_32 : decode cX12_makes 32 = .ok (.iadd, 1) := by decide +kernel
theorem dX12_makes_33 : decode cX12_makes 33 = .ok (.putfield 70, 3) := by decide +kernel
theorem dX12_makes_36 : decode cX12_makes 36 = .ok (.aload_n 0, 1) := by decide +kernel
theorem dX12_makes_37 : decode cX12_makes 37 = .ok (.getfield 170, 3) := by decide +kernel
theorem dX12_makes_40 : decode cX12_makes 40 = .ok (.iload 4, 2) := by decide +kernel
theorem dX12_makes_42 : decode cX12_makes 42 = .ok (.aload_n 0, 1) := by decide +kernel
theorem dX12_makes_43 : decode cX12_makes 43 = .ok (.getfield 64, 3) := by decide +kernel
theorem dX12_makes_46 : decode cX12_makes 46 = .ok (.iastore, 1) := by decide +kernel
theorem dX12_makes_47 : decode cX12_makes 47 = .ok (.aload_n 0, 1) := by decide +kernel
theorem dX12_makes_48 : decode cX12_makes 48 = .ok (.getfield 173, 3) := by decide +kernel
theorem dX12_makes_51 : decode cX12_makes 51 = .ok (.iload 4, 2) := by decide +kernel
theorem dX12_makes_53 : decode cX12_makes 53 = .ok (.iload_n 1, 1) := by decide +kernel
theorem dX12_makes_54 : decode cX12_makes 54 = .ok (.iastore, 1) := by decide +kernel
theorem dX12_makes_55 : decode cX12_makes 55 = .ok (.aload_n 0, 1) := by decide +kernel
theorem dX12_makes_56 : decode cX12_makes 56 = .ok (.getfield 145, 3) := by decide +kernel
theorem dX12_makes_59 : decode cX12_makes 59 = .ok (.iload 4, 2) := by decide +kernel
theorem dX12_makes_61 : decode cX12_makes 61 = .ok (.ldc2_w 502, 3) := by decide +kernel
theorem dX12_makes_64 : decode cX12_makes 64 = .ok (.lastore, 1) := by decide +kernel
theorem dX12_makes_65 : decode cX12_makes 65 = .ok (.aload_n 0, 1) := by decide +kernel
theorem dX12_makes_66 : decode cX12_makes 66 = .ok (.getfield 148, 3) := by decide +kernel
theorem dX12_makes_69 : decode cX12_makes 69 = .ok (.iload 4, 2) := by decide +kernel
theorem dX12_makes_71 : decode cX12_makes 71 = .ok (.lconst 0, 1) := by decide +kernel
theorem dX12_makes_72 : decode cX12_makes 72 = .ok (.lastore, 1) := by decide +kernel
theorem dX12_makes_73 : decode cX12_makes 73 = .ok (.aload_n 0, 1) := by decide +kernel
theorem dX12_makes_74 : decode cX12_makes 74 = .ok (.getfield 97, 3) := by decide +kernel
theorem dX12_makes_77 : decode cX12_makes 77 = .ok (.iload 4, 2) := by decide +kernel
theorem dX12_makes_79 : decode cX12_makes 79 = .ok (.aload_n 0, 1) := by decide +kernel
theorem dX12_makes_80 : decode cX12_makes 80 = .ok (.getfield 223, 3) := by decide +kernel
theorem dX12_makes_83 : decode cX12_makes 83 = .ok (.iload_n 3, 1) := by decide +kernel
theorem dX12_makes_84 : decode cX12_makes 84 = .ok (.iaload, 1) := by decide +kernel
theorem dX12_makes_85 : decode cX12_makes 85 = .ok (.iastore, 1) := by decide +kernel
theorem dX12_makes_86 : decode cX12_makes 86 = .ok (.iconst 0, 1) := by decide +kernel
theorem dX12_makes_87 : decode cX12_makes 87 = .ok (.istore 5, 2) := by decide +kernel
theorem dX12_makes_89 : decode cX12_makes 89 = .ok (.iload 5, 2) := by decide +kernel
theorem dX12_makes_91 : decode cX12_makes 91 = .ok (.aload_n 0, 1) := by decide +kernel
theorem dX12_makes_92 : decode cX12_makes 92 = .ok (.getfield 223, 3) := by decide +kernel
theorem dX12_makes_95 : decode cX12_makes 95 = .ok (.iload_n 3, 1) := by decide +kernel
theorem dX12_makes_96 : decode cX12_makes 96 = .ok (.iaload, 1) := by decide +kernel
theorem dX12_makes_97 : decode cX12_makes 97 = .ok (.if_icmp .ge 130, 3) := by decide +kernel
theorem dX12_makes_100 : decode cX12_makes 100 = .ok (.iconst (-1), 1) := by decide +kernel
theorem dX12_makes_101 : decode cX12_makes 101 = .ok (.istore 6, 2) := by decide +kernel
theorem dX12_makes_103 : decode cX12_makes 103 = .ok (.iconst 0, 1) := by decide +kernel
theorem dX12_makes_104 : decode cX12_makes 104 = .ok (.istore 7, 2) := by decide +kernel
theorem dX12_makes_106 : decode cX12_makes 106 = .ok (.iload 7, 2) := by decide +kernel
theorem dX12_makes_108 : decode cX12_makes 108 = .ok (.aload_n 0, 1) := by decide +kernel
theorem dX12_makes_109 : decode cX12_makes 109 = .ok (.getfield 223, 3) := by decide +kernel
theorem dX12_makes_112 : decode cX12_makes 112 = .ok (.iload_n 3, 1) := by decide +kernel
theorem dX12_makes_113 : decode cX12_makes 113 = .ok (.iaload, 1) := by decide +kernel
theorem dX12_makes_114 : decode cX12_makes 114 = .ok (.if_icmp .ge 79, 3) := by decide +kernel
theorem dX12_makes_117 : decode cX12_makes 117 = .ok (.iload 5, 2) := by decide +kernel
theorem dX12_makes_119 : decode cX12_makes 119 = .ok (.ifCond .eq 33, 3) := by decide +kernel
theorem dX12_makes_122 : decode cX12_makes 122 = .ok (.aload_n 0, 1) := by decide +kernel
theorem dX12_makes_123 : decode cX12_makes 123 = .ok (.getfield 205, 3) := by decide +kernel
theorem dX12_makes_126 : decode cX12_makes 126 = .ok (.iconst 3, 1) := by decide +kernel
theorem dX12_makes_127 : decode cX12_makes 127 = .ok (.iload_n 3, 1) := by decide +kernel
theorem dX12_makes_128 : decode cX12_makes 128 = .ok (.imul, 1) := by decide +kernel
theorem dX12_makes_129 : decode cX12_makes 129 = .ok (.iload 7, 2) := by decide +kernel
theorem dX12_makes_131 : decode cX12_makes 131 = .ok (.iadd, 1) := by decide +kernel
theorem dX12_makes_132 : decode cX12_makes 132 = .ok (.laload, 1) := by decide +kernel
theorem dX12_makes_133 : decode cX12_makes 133 = .ok (.aload_n 0, 1) := by decide +kernel
theorem dX12_makes_134 : decode cX12_makes 134 = .ok (.getfield 100, 3) := by decide +kernel
theorem dX12_makes_137 : decode cX12_makes 137 = .ok (.bipush 8, 2) := by decide +kernel
theorem dX12_makes_139 : decode cX12_makes 139 = .ok (.iload 4, 2) := by decide +kernel
theorem dX12_makes_141 : decode cX12_makes 141 = .ok (.imul, 1) := by decide +kernel
theorem dX12_makes_142 : decode cX12_makes 142 = .ok (.iload 5, 2) := by decide +kernel
theorem dX12_makes_144 : decode cX12_makes 144 = .ok (.iadd, 1) := by decide +kernel
theorem dX12_makes_145 : decode cX12_makes 145 = .ok (.iconst 1, 1) := by decide +kernel
theorem dX12_makes_146 : decode cX12_makes 146 = .ok (.isub, 1) := by decide +kernel
theorem dX12_makes_147 : decode cX12_makes 147 = .ok (.laload, 1) := by decide +kernel
theorem dX12_makes_148 : decode cX12_makes 148 = .ok (.lcmp, 1) := by decide +kernel
theorem dX12_makes_149 : decode cX12_makes 149 = .ok (.ifCond .le 38, 3) := by decide +kernel
theorem dX12_makes_152 : decode cX12_makes 152 = .ok (.iload 6, 2) := by decide +kernel
theorem dX12_makes_154 : decode cX12_makes 154 = .ok (.ifCond .lt 29, 3) := by decide +kernel
theorem dX12_makes_157 : decode cX12_makes 157 = .ok (.aload_n 0, 1) := by decide +kernel
theorem dX12_makes_158 : decode cX12_makes 158 = .ok (.getfield 205, 3) := by decide +kernel
theorem dX12_makes_161 : decode cX12_makes 161 = .ok (.iconst 3, 1) := by decide +kernel
theorem dX12_makes_162 : decode cX12_makes 162 = .ok (.iload_n 3, 1) := by decide +kernel
theorem dX12_makes_163 : decode cX12_makes 163 = .ok (.imul, 1) := by decide +kernel
theorem dX12_makes_164 : decode cX12_makes 164 = .ok (.iload 7, 2) := by decide +kernel
theorem dX12_makes_166 : decode cX12_makes 166 = .ok (.iadd, 1) := by decide +kernel
theorem dX12_makes_167 : decode cX12_makes 167 = .ok (.laload, 1) := by decide +kernel
theorem dX12_makes_168 : decode cX12_makes 168 = .ok (.aload_n 0, 1) := by decide +kernel
theorem dX12_makes_169 : decode cX12_makes 169 = .ok (.getfield 205, 3) := by decide +kernel
theorem dX12_makes_172 : decode cX12_makes 172 = .ok (.iconst 3, 1) := by decide +kernel
theorem dX12_makes_173 : decode cX12_makes 173 = .ok (.iload_n 3, 1) := by decide +kernel
theorem dX12_makes_174 : decode cX12_makes 174 = .ok (.imul, 1) := by decide +kernel
theorem dX12_makes_175 : decode cX12_makes 175 = .ok (.iload 6, 2) := by decide +kernel
theorem dX12_makes_177 : decode cX12_makes 177 = .ok (.iadd, 1) := by decide +kernel
theorem dX12_makes_178 : decode cX12_makes 178 = .ok (.laload, 1) := by decide +kernel
theorem dX12_makes_179 : decode cX12_makes 179 = .ok (.lcmp, 1) := by decide +kernel
theorem dX12_makes_180 : decode cX12_makes 180 = .ok (.ifCond .ge 7, 3) := by decide +kernel
theorem dX12_makes_183 : decode cX12_makes 183 = .ok (.iload 7, 2) := by decide +kernel
theorem dX12_makes_185 : decode cX12_makes 185 = .ok (.istore 6, 2) := by decide +kernel
theorem dX12_makes_187 : decode cX12_makes 187 = .ok (.iinc 7 1, 3) := by decide +kernel
theorem dX12_makes_190 : decode cX12_makes 190 = .ok (.goto (-84), 3) := by decide +kernel
theorem dX12_makes_193 : decode cX12_makes 193 = .ok (.aload_n 0, 1) := by decide +kernel
theorem dX12_makes_194 : decode cX12_makes 194 = .ok (.aload_n 0, 1) := by decide +kernel
theorem dX12_makes_195 : decode cX12_makes 195 = .ok (.iload_n 2, 1) := by decide +kernel
theorem dX12_makes_196 : decode cX12_makes 196 = .ok (.aload_n 0, 1) := by decide +kernel
theorem dX12_makes_197 : decode cX12_makes 197 = .ok (.getfield 205, 3) := by decide +kernel
theorem dX12_makes_200 : decode cX12_makes 200 = .ok (.iconst 3, 1) := by decide +kernel
theorem dX12_makes_201 : decode cX12_makes 201 = .ok (.iload_n 3, 1) := by decide +kernel
theorem dX12_makes_202 : decode cX12_makes 202 = .ok (.imul, 1) := by decide +kernel
theorem dX12_makes_203 : decode cX12_makes 203 = .ok (.iload 6, 2) := by decide +kernel
theorem dX12_makes_205 : decode cX12_makes 205 = .ok (.iadd, 1) := by decide +kernel
theorem dX12_makes_206 : decode cX12_makes 206 = .ok (.laload, 1) := by decide +kernel
theorem dX12_makes_207 : decode cX12_makes 207 = .ok (.invokevirtual 438, 3) := by decide +kernel
theorem dX12_makes_210 : decode cX12_makes 210 = .ok (.bipush 8, 2) := by decide +kernel
theorem dX12_makes_212 : decode cX12_makes 212 = .ok (.iload 4, 2) := by decide +kernel
theorem dX12_makes_214 : decode cX12_makes 214 = .ok (.imul, 1) := by decide +kernel
theorem dX12_makes_215 : decode cX12_makes 215 = .ok (.iload 5, 2) := by decide +kernel
theorem dX12_makes_217 : decode cX12_makes 217 = .ok (.iadd, 1) := by decide +kernel
theorem dX12_makes_218 : decode cX12_makes 218 = .ok (.invokevirtual 176, 3) := by decide +kernel
theorem dX12_makes_221 : decode cX12_makes 221 = .ok (.iinc 5 1, 3) := by decide +kernel
theorem dX12_makes_224 : decode cX12_makes 224 = .ok (.goto (-135), 3) := by decide +kernel
theorem dX12_makes_227 : decode cX12_makes 227 = .ok (.aload_n 0, 1) := by decide +kernel
theorem dX12_makes_228 : decode cX12_makes 228 = .ok (.iload 4, 2) := by decide +kernel
theorem dX12_makes_230 : decode cX12_makes 230 = .ok (.iload_n 1, 1) := by decide +kernel
theorem dX12_makes_231 : decode cX12_makes 231 = .ok (.iconst 1, 1) := by decide +kernel
theorem dX12_makes_232 : decode cX12_makes 232 = .ok (.iadd, 1) := by decide +kernel
theorem dX12_makes_233 : decode cX12_makes 233 = .ok (.invokevirtual 183, 3) := by decide +kernel
theorem dX12_makes_236 : decode cX12_makes 236 = .ok (.return_, 1) := by decide +kernel
theorem dX12_count_0 : decode cX12_count 0 = .ok (.aload_n 0, 1) := by decide +kernel
theorem dX12_count_1 : decode cX12_count 1 = .ok (.iconst 0, 1) := by decide +kernel
theorem dX12_count_2 : decode cX12_count 2 = .ok (.putfield 3, 3) := by decide +kernel
theorem dX12_count_5 : decode cX12_count 5 = .ok (.iload_n 1, 1) := by decide +kernel
theorem dX12_count_6 : decode cX12_count 6 = .ok (.tableswitch 86 0 7 #[46, 51, 56, 61, 66, 71, 76, 81], 46) := by decide +kernel
theorem dX12_count_52 : decode cX12_count 52 = .ok (.aload_n 0, 1) := by decide +kernel
theorem dX12_count_53 : decode cX12_count 53 = .ok (.getfield 380, 3) := by decide +kernel
theorem dX12_count_56 : decode cX12_count 56 = .ok (.ireturn, 1) := by decide +kernel
theorem dX12_count_57 : decode cX12_count 57 = .ok (.aload_n 0, 1) := by decide +kernel
theorem dX12_count_58 : decode cX12_count 58 = .ok (.getfield 58, 3) := by decide +kernel
theorem dX12_count_61 : decode cX12_count 61 = .ok (.ireturn, 1) := by decide +kernel
theorem dX12_count_62 : decode cX12_count 62 = .ok (.aload_n 0, 1) := by decide +kernel
theorem dX12_count_63 : decode cX12_count 63 = .ok (.getfield 70, 3) := by decide +kernel
theorem dX12_count_66 : decode cX12_count 66 = .ok (.ireturn, 1) := by decide +kernel
theorem dX12_count_67 : decode cX12_count 67 = .ok (.aload_n 0, 1) := by decide +kernel
theorem dX12_count_68 : decode cX12_count 68 = .ok (.getfield 74, 3) := by decide +kernel
theorem dX12_count_71 : decode cX12_count 71 = .ok (.ireturn, 1) := by decide +kernel
theorem dX12_count_72 : decode cX12_count 72 = .ok (.aload_n 0, 1) := by decide +kernel
theorem dX12_count_73 : decode cX12_count 73 = .ok (.getfield 77, 3) := by decide +kernel
theorem dX12_count_76 : decode cX12_count 76 = .ok (.ireturn, 1) := by decide +kernel
theorem dX12_count_77 : decode cX12_count 77 = .ok (.aload_n 0, 1) := by decide +kernel
theorem dX12_count_78 : decode cX12_count 78 = .ok (.getfield 64, 3) := by decide +kernel
theorem dX12_count_81 : decode cX12_count 81 = .ok (.ireturn, 1) := by decide +kernel
theorem dX12_count_82 : decode cX12_count 82 = .ok (.aload_n 0, 1) := by decide +kernel
theorem dX12_count_83 : decode cX12_count 83 = .ok (.getfield 7, 3) := by decide +kernel
theorem dX12_count_86 : decode cX12_count 86 = .ok (.ireturn, 1) := by decide +kernel
theorem dX12_count_87 : decode cX12_count 87 = .ok (.aload_n 0, 1) := by decide +kernel
theorem dX12_count_88 : decode cX12_count 88 = .ok (.getfield 504, 3) := by decide +kernel
theorem dX12_count_91 : decode cX12_count 91 = .ok (.ireturn, 1) := by decide +kernel
theorem dX12_count_92 : decode cX12_count 92 = .ok (.iconst (-1), 1) := by decide +kernel
theorem dX12_count_93 : decode cX12_count 93 = .ok (.ireturn, 1) := by decide +kernel
theorem dX12_alert_0 : decode cX12_alert 0 = .ok (.aload_n 0, 1) := by decide +kernel
theorem dX12_alert_1 : decode cX12_alert 1 = .ok (.iload_n 1, 1) := by decide +kernel
theorem dX12_alert_2 : decode cX12_alert 2 = .ok (.ifCond .lt 27, 3) := by decide +kernel
theorem dX12_alert_5 : decode cX12_alert 5 = .ok (.iload_n 1, 1) := by decide +kernel
theorem dX12_alert_6 : decode cX12_alert 6 = .ok (.aload_n 0, 1) := by decide +kernel
theorem dX12_alert_7 : decode cX12_alert 7 = .ok (.getfield 74, 3) := by decide +kernel
theorem dX12_alert_10 : decode cX12_alert 10 = .ok (.if_icmp .ge 19, 3) := by decide +kernel
theorem dX12_alert_13 : decode cX12_alert 13 = .ok (.iload_n 1, 1) := by decide +kernel
theorem dX12_alert_14 : decode cX12_alert 14 = .ok (.sipush 500, 3) := by decide +kernel
theorem dX12_alert_17 : decode cX12_alert 17 = .ok (.if_icmp .ge 12, 3) := by decide +kernel
theorem dX12_alert_20 : decode cX12_alert 20 = .ok (.iload_n 2, 1) := by decide +kernel
theorem dX12_alert_21 : decode cX12_alert 21 = .ok (.ifCond .lt 8, 3) := by decide +kernel
theorem dX12_alert_24 : decode cX12_alert 24 = .ok (.iload_n 2, 1) := by decide +kernel
theorem dX12_alert_25 : decode cX12_alert 25 = .ok (.iconst 4, 1) := by decide +kernel
theorem dX12_alert_26 : decode cX12_alert 26 = .ok (.if_icmp .le 7, 3) := by decide +kernel
theorem dX12_alert_29 : decode cX12_alert 29 = .ok (.iconst 1, 1) := by decide +kernel
theorem dX12_alert_30 : decode cX12_alert 30 = .ok (.goto 4, 3) := by decide +kernel
theorem dX12_alert_33 : decode cX12_alert 33 = .ok (.iconst 0, 1) := by decide +kernel
theorem dX12_alert_34 : decode cX12_alert 34 = .ok (.invokevirtual 507, 3) := by decide +kernel
theorem dX12_alert_37 : decode cX12_alert 37 = .ok (.ifCond .eq 5, 3) := by decide +kernel
theorem dX12_alert_40 : decode cX12_alert 40 = .ok (.iconst 0, 1) := by decide +kernel
theorem dX12_alert_41 : decode cX12_alert 41 = .ok (.ireturn, 1) := by decide +kernel
theorem dX12_alert_42 : decode cX12_alert 42 = .ok (.iload_n 2, 1) := by decide +kernel
theorem dX12_alert_43 : decode cX12_alert 43 = .ok (.ifCond .ne 12, 3) := by decide +kernel
theorem dX12_alert_46 : decode cX12_alert 46 = .ok (.aload_n 0, 1) := by decide +kernel
theorem dX12_alert_47 : decode cX12_alert 47 = .ok (.getfield 275, 3) := by decide +kernel
theorem dX12_alert_50 : decode cX12_alert 50 = .ok (.iload_n 1, 1) := by decide +kernel
theorem dX12_alert_51 : decode cX12_alert 51 = .ok (.saload, 1) := by decide +kernel
theorem dX12_alert_52 : decode cX12_alert 52 = .ok (.goto 51, 3) := by decide +kernel
theorem dX12_alert_55 : decode cX12_alert 55 = .ok (.iload_n 2, 1) := by decide +kernel
theorem dX12_alert_56 : decode cX12_alert 56 = .ok (.iconst 1, 1) := by decide +kernel
theorem dX12_alert_57 : decode cX12_alert 57 = .ok (.if_icmp .ne 12, 3) := by decide +kernel
theorem dX12_alert_60 : decode cX12_alert 60 = .ok (.aload_n 0, 1) := by decide +kernel
theorem dX12_alert_61 : decode cX12_alert 61 = .ok (.getfield 287, 3) := by decide +kernel
theorem dX12_alert_64 : decode cX12_alert 64 = .ok (.iload_n 1, 1) := by decide +kernel
theorem dX12_alert_65 : decode cX12_alert 65 = .ok (.iaload, 1) := by decide +kernel
theorem dX12_alert_66 : decode cX12_alert 66 = .ok (.goto 37, 3) := by decide +kernel
theorem dX12_alert_69 : decode cX12_alert 69 = .ok (.iload_n 2, 1) := by decide +kernel
theorem dX12_alert_70 : decode cX12_alert 70 = .ok (.iconst 2, 1) := by decide +kernel
theorem dX12_alert_71 : decode cX12_alert 71 = .ok (.if_icmp .ne 12, 3) := by decide +kernel
theorem dX12_alert_74 : decode cX12_alert 74 = .ok (.aload_n 0, 1) := by decide +kernel
theorem dX12_alert_75 : decode cX12_alert 75 = .ok (.getfield 278, 3) := by decide +kernel
theorem dX12_alert_78 : decode cX12_alert 78 = .ok (.iload_n 1, 1) := by decide +kernel
theorem dX12_alert_79 : decode cX12_alert 79 = .ok (.saload, 1) := by decide +kernel
theorem dX12_alert_80 : decode cX12_alert 80 = .ok (.goto 23, 3) := by decide +kernel
theorem dX12_alert_83 : decode cX12_alert 83 = .ok (.iload_n 2, 1) := by decide +kernel
theorem dX12_alert_84 : decode cX12_alert 84 = .ok (.iconst 3, 1) := by decide +kernel
theorem dX12_alert_85 : decode cX12_alert 85 = .ok (.if_icmp .ne 12, 3) := by decide +kernel
theorem dX12_alert_88 : decode cX12_alert 88 = .ok (.aload_n 0, 1) := by decide +kernel
theorem dX12_alert_89 : decode cX12_alert 89 = .ok (.getfield 281, 3) := by decide +kernel
theorem dX12_alert_92 : decode cX12_alert 92 = .ok (.iload_n 1, 1) := by decide +kernel
theorem dX12_alert_93 : decode cX12_alert 93 = .ok (.saload, 1) := by decide +kernel
theorem dX12_alert_94 : decode cX12_alert 94 = .ok (.goto 9, 3) := by decide +kernel
theorem dX12_alert_97 : decode cX12_alert 97 = .ok (.aload_n 0, 1) := by decide +kernel
theorem dX12_alert_98 : decode cX12_alert 98 = .ok (.getfield 284, 3) := by decide +kernel
theorem dX12_alert_101 : decode cX12_alert 101 = .ok (.iload_n 1, 1) := by decide +kernel
theorem dX12_alert_102 : decode cX12_alert 102 = .ok (.saload, 1) := by decide +kernel
theorem dX12_alert_103 : decode cX12_alert 103 = .ok (.ireturn, 1) := by decide +kernel
theorem dX12_key_0 : decode cX12_key 0 = .ok (.aload_n 0, 1) := by decide +kernel
theorem dX12_key_1 : decode cX12_key 1 = .ok (.iload_n 1, 1) := by decide +kernel
theorem dX12_key_2 : decode cX12_key 2 = .ok (.ifCond .lt 18, 3) := by decide +kernel
theorem dX12_key_5 : decode cX12_key 5 = .ok (.iload_n 1, 1) := by decide +kernel
theorem dX12_key_6 : decode cX12_key 6 = .ok (.aload_n 0, 1) := by decide +kernel
theorem dX12_key_7 : decode cX12_key 7 = .ok (.getfield 74, 3) := by decide +kernel
theorem dX12_key_10 : decode cX12_key 10 = .ok (.if_icmp .ge 10, 3) := by decide +kernel
theorem dX12_key_13 : decode cX12_key 13 = .ok (.iload_n 1, 1) := by decide +kernel
theorem dX12_key_14 : decode cX12_key 14 = .ok (.sipush 500, 3) := by decide +kernel
theorem dX12_key_17 : decode cX12_key 17 = .ok (.if_icmp .lt 7, 3) := by decide +kernel
theorem dX12_key_20 : decode cX12_key 20 = .ok (.iconst 1, 1) := by decide +kernel
theorem dX12_key_21 : decode cX12_key 21 = .ok (.goto 4, 3) := by decide +kernel
theorem dX12_key_24 : decode cX12_key 24 = .ok (.iconst 0, 1) := by decide +kernel
theorem dX12_key_25 : decode cX12_key 25 = .ok (.invokevirtual 507, 3) := by decide +kernel
theorem dX12_key_28 : decode cX12_key 28 = .ok (.ifCond .eq 5, 3) := by decide +kernel
theorem dX12_key_31 : decode cX12_key 31 = .ok (.iconst 0, 1) := by decide +kernel
theorem dX12_key_32 : decode cX12_key 32 = .ok (.ireturn, 1) := by decide +kernel
theorem dX12_key_33 : decode cX12_key 33 = .ok (.bipush 12, 2) := by decide +kernel
theorem dX12_key_35 : decode cX12_key 35 = .ok (.aload_n 0, 1) := by decide +kernel
theorem dX12_key_36 : decode cX12_key 36 = .ok (.getfield 368, 3) := by decide +kernel
theorem dX12_key_39 : decode cX12_key 39 = .ok (.imul, 1) := by decide +kernel
theorem dX12_key_40 : decode cX12_key 40 = .ok (.aload_n 0, 1) := by decide +kernel
theorem dX12_key_41 : decode cX12_key 41 = .ok (.getfield 275, 3) := by decide +kernel
theorem dX12_key_44 : decode cX12_key 44 = .ok (.iload_n 1, 1) := by decide +kernel
theorem dX12_key_45 : decode cX12_key 45 = .ok (.saload, 1) := by decide +kernel
theorem dX12_key_46 : decode cX12_key 46 = .ok (.iadd, 1) := by decide +kernel
theorem dX12_key_47 : decode cX12_key 47 = .ok (.istore 4, 2) := by decide +kernel
theorem dX12_key_49 : decode cX12_key 49 = .ok (.aload_n 0, 1) := by decide +kernel
theorem dX12_key_50 : decode cX12_key 50 = .ok (.iload_n 2, 1) := by decide +kernel
theorem dX12_key_51 : decode cX12_key 51 = .ok (.ifCond .lt 18, 3) := by decide +kernel
theorem dX12_key_54 : decode cX12_key 54 = .ok (.iload_n 2, 1) := by decide +kernel
theorem dX12_key_55 : decode cX12_key 55 = .ok (.aload_n 0, 1) := by decide +kernel
theorem dX12_key_56 : decode cX12_key 56 = .ok (.getfield 223, 3) := by decide +kernel
theorem dX12_key_59 : decode cX12_key 59 = .ok (.iload 4, 2) := by decide +kernel
theorem dX12_key_61 : decode cX12_key 61 = .ok (.iaload, 1) := by decide +kernel
theorem dX12_key_62 : decode cX12_key 62 = .ok (.if_icmp .ge 7, 3) := by decide +kernel
theorem dX12_key_65 : decode cX12_key 65 = .ok (.iload_n 3, 1) := by decide +kernel
theorem dX12_key_66 : decode cX12_key 66 = .ok (.ifCond .ge 7, 3) := by decide +kernel
theorem dX12_key_69 : decode cX12_key 69 = .ok (.iconst 1, 1) := by decide +kernel
theorem dX12_key_70 : decode cX12_key 70 = .ok (.goto 4, 3) := by decide +kernel
theorem dX12_key_73 : decode cX12_key 73 = .ok (.iconst 0, 1) := by decide +kernel
theorem dX12_key_74 : decode cX12_key 74 = .ok (.invokevirtual 507, 3) := by decide +kernel
theorem dX12_key_77 : decode cX12_key 77 = .ok (.ifCond .eq 5, 3) := by decide +kernel
theorem dX12_key_80 : decode cX12_key 80 = .ok (.iconst 0, 1) := by decide +kernel
theorem dX12_key_81 : decode cX12_key 81 = .ok (.ireturn, 1) := by decide +kernel
theorem dX12_key_82 : decode cX12_key 82 = .ok (.aload_n 0, 1) := by decide +kernel
theorem dX12_key_83 : decode cX12_key 83 = .ok (.aload_n 0, 1) := by decide +kernel
theorem dX12_key_84 : decode cX12_key 84 = .ok (.getfield 281, 3) := by decide +kernel
theorem dX12_key_87 : decode cX12_key 87 = .ok (.iload_n 1, 1) := by decide +kernel
theorem dX12_key_88 : decode cX12_key 88 = .ok (.saload, 1) := by decide +kernel
theorem dX12_key_89 : decode cX12_key 89 = .ok (.aload_n 0, 1) := by decide +kernel
theorem dX12_key_90 : decode cX12_key 90 = .ok (.getfield 205, 3) := by decide +kernel
theorem dX12_key_93 : decode cX12_key 93 = .ok (.iconst 3, 1) := by decide +kernel
theorem dX12_key_94 : decode cX12_key 94 = .ok (.iload 4, 2) := by decide +kernel
theorem dX12_key_96 : decode cX12_key 96 = .ok (.imul, 1) := by decide +kernel
theorem dX12_key_97 : decode cX12_key 97 = .ok (.iload_n 2, 1) := by decide +kernel
theorem dX12_key_98 : decode cX12_key 98 = .ok (.iadd, 1) := by decide +kernel
theorem dX12_key_99 : decode cX12_key 99 = .ok (.laload, 1) := by decide +kernel
theorem dX12_key_100 : decode cX12_key 100 = .ok (.invokevirtual 438, 3) := by decide +kernel
theorem dX12_key_103 : decode cX12_key 103 = .ok (.istore 5, 2) := by decide +kernel
theorem dX12_key_105 : decode cX12_key 105 = .ok (.iload_n 3, 1) := by decide +kernel
theorem dX12_key_106 : decode cX12_key 106 = .ok (.iconst 2, 1) := by decide +kernel
theorem dX12_key_107 : decode cX12_key 107 = .ok (.if_icmp .ge 25, 3) := by decide +kernel
theorem dX12_key_110 : decode cX12_key 110 = .ok (.iload_n 3, 1) := by decide +kernel
theorem dX12_key_111 : decode cX12_key 111 = .ok (.ifCond .ne 13, 3) := by decide +kernel
theorem dX12_key_114 : decode cX12_key 114 = .ok (.aload_n 0, 1) := by decide +kernel
theorem dX12_key_115 : decode cX12_key 115 = .ok (.getfield 27, 3) := by decide +kernel
theorem dX12_key_118 : decode cX12_key 118 = .ok (.iload 5, 2) := by decide +kernel
theorem dX12_key_120 : decode cX12_key 120 = .ok (.baload, 1) := by decide +kernel
theorem dX12_key_121 : decode cX12_key 121 = .ok (.goto 10, 3) := by decide +kernel
theorem dX12_key_124 : decode cX12_key 124 = .ok (.aload_n 0, 1) := by decide +kernel
theorem dX12_key_125 : decode cX12_key 125 = .ok (.getfield 30, 3) := by decide +kernel
theorem dX12_key_128 : decode cX12_key 128 = .ok (.iload 5, 2) := by decide +kernel
theorem dX12_key_130 : decode cX12_key 130 = .ok (.iaload, 1) := by decide +kernel
theorem dX12_key_131 : decode cX12_key 131 = .ok (.ireturn, 1) := by decide +kernel
theorem dX12_key_132 : decode cX12_key 132 = .ok (.aload_n 0, 1) := by decide +kernel
theorem dX12_key_133 : decode cX12_key 133 = .ok (.aload_n 0, 1) := by decide +kernel
theorem dX12_key_134 : decode cX12_key 134 = .ok (.getfield 27, 3) := by decide +kernel
theorem dX12_key_137 : decode cX12_key 137 = .ok (.iload 5, 2) := by decide +kernel
theorem dX12_key_139 : decode cX12_key 139 = .ok (.baload, 1) := by decide +kernel
theorem dX12_key_140 : decode cX12_key 140 = .ok (.iconst 1, 1) := by decide +kernel
theorem dX12_key_141 : decode cX12_key 141 = .ok (.if_icmp .ne 16, 3) := by decide +kernel
theorem dX12_key_144 : decode cX12_key 144 = .ok (.iload_n 3, 1) := by decide +kernel
theorem dX12_key_145 : decode cX12_key 145 = .ok (.iconst 2, 1) := by decide +kernel
theorem dX12_key_146 : decode cX12_key 146 = .ok (.isub, 1) := by decide +kernel
theorem dX12_key_147 : decode cX12_key 147 = .ok (.aload_n 0, 1) := by decide +kernel
theorem dX12_key_148 : decode cX12_key 148 = .ok (.getfield 30, 3) := by decide +kernel
theorem dX12_key_151 : decode cX12_key 151 = .ok (.iload 5, 2) := by decide +kernel
theorem dX12_key_153 : decode cX12_key 153 = .ok (.iaload, 1) := by decide +kernel
theorem dX12_key_154 : decode cX12_key 154 = .ok (.if_icmp .lt 7, 3) := by decide +kernel
theorem dX12_key_157 : decode cX12_key 157 = .ok (.iconst 1, 1) := by decide +kernel
theorem dX12_key_158 : decode cX12_key 158 = .ok (.goto 4, 3) := by decide +kernel
theorem dX12_key_161 : decode cX12_key 161 = .ok (.iconst 0, 1) := by decide +kernel
theorem dX12_key_162 : decode cX12_key 162 = .ok (.invokevirtual 507, 3) := by decide +kernel
theorem dX12_key_165 : decode cX12_key 165 = .ok (.ifCond .eq 5, 3) := by decide +kernel
theorem dX12_key_168 : decode cX12_key 168 = .ok (.iconst 0, 1) := by decide +kernel
theorem dX12_key_169 : decode cX12_key 169 = .ok (.ireturn, 1) := by decide +kernel
theorem dX12_key_170 : decode cX12_key 170 = .ok (.aload_n 0, 1) := by decide +kernel
theorem dX12_key_171 : decode cX12_key 171 = .ok (.getfield 34, 3) := by decide +kernel
theorem dX12_key_174 : decode cX12_key 174 = .ok (.aload_n 0, 1) := by decide +kernel
theorem dX12_key_175 : decode cX12_key 175 = .ok (.getfield 37, 3) := by decide +kernel
theorem dX12_key_178 : decode cX12_key 178 = .ok (.iload 5, 2) := by decide +kernel
theorem dX12_key_180 : decode cX12_key 180 = .ok (.iaload, 1) := by decide +kernel
theorem dX12_key_181 : decode cX12_key 181 = .ok (.iload_n 3, 1) := by decide +kernel
theorem dX12_key_182 : decode cX12_key 182 = .ok (.iadd, 1) := by decide +kernel
theorem dX12_key_183 : decode cX12_key 183 = .ok (.iconst 2, 1) := by decide +kernel
theorem dX12_key_184 : decode cX12_key 184 = .ok (.isub, 1) := by decide +kernel
theorem dX12_key_185 : decode cX12_key 185 = .ok (.baload, 1) := by decide +kernel
theorem dX12_key_186 : decode cX12_key 186 = .ok (.ireturn, 1) := by decide +kernel
theorem dX12_heldOf_0 : decode cX12_heldOf 0 = .ok (.bipush 12, 2) := by decide +kernel
theorem dX12_heldOf_2 : decode cX12_heldOf 2 = .ok (.aload_n 0, 1) := by decide +kernel
theorem dX12_heldOf_3 : decode cX12_heldOf 3 = .ok (.getfield 368, 3) := by decide +kernel
theorem dX12_heldOf_6 : decode cX12_heldOf 6 = .ok (.imul, 1) := by decide +kernel
theorem dX12_heldOf_7 : decode cX12_heldOf 7 = .ok (.iload_n 1, 1) := by decide +kernel
theorem dX12_heldOf_8 : decode cX12_heldOf 8 = .ok (.iadd, 1) := by decide +kernel
theorem dX12_heldOf_9 : decode cX12_heldOf 9 = .ok (.istore_n 2, 1) := by decide +kernel
theorem dX12_heldOf_10 : decode cX12_heldOf 10 = .ok (.iconst 0, 1) := by decide +kernel
theorem dX12_heldOf_11 : decode cX12_heldOf 11 = .ok (.istore_n 3, 1) := by decide +kernel
theorem dX12_heldOf_12 : decode cX12_heldOf 12 = .ok (.aload_n 0, 1) := by decide +kernel
theorem dX12_heldOf_13 : decode cX12_heldOf 13 = .ok (.getfield 208, 3) := by decide +kernel
theorem dX12_heldOf_16 : decode cX12_heldOf 16 = .ok (.iload_n 2, 1) := by decide +kernel
theorem dX12_heldOf_17 : decode cX12_heldOf 17 = .ok (.iaload, 1) := by decide +kernel
theorem dX12_heldOf_18 : decode cX12_heldOf 18 = .ok (.iconst 4, 1) := by decide +kernel
theorem dX12_heldOf_19 : decode cX12_heldOf 19 = .ok (.if_icmp .ne 52, 3) := by decide +kernel
theorem dX12_heldOf_22 : decode cX12_heldOf 22 = .ok (.iconst 0, 1) := by decide +kernel
theorem dX12_heldOf_23 : decode cX12_heldOf 23 = .ok (.istore 4, 2) := by decide +kernel
theorem dX12_heldOf_25 : decode cX12_heldOf 25 = .ok (.iload 4, 2) := by decide +kernel
theorem dX12_heldOf_27 : decode cX12_heldOf 27 = .ok (.aload_n 0, 1) := by decide +kernel
theorem dX12_heldOf_28 : decode cX12_heldOf 28 = .ok (.getfield 80, 3) := by decide +kernel
theorem dX12_heldOf_31 : decode cX12_heldOf 31 = .ok (.if_icmp .ge 38, 3) := by decide +kernel
theorem dX12_heldOf_34 : decode cX12_heldOf 34 = .ok (.iload_n 3, 1) := by decide +kernel
theorem dX12_heldOf_35 : decode cX12_heldOf 35 = .ok (.aload_n 0, 1) := by decide +kernel
theorem dX12_heldOf_36 : decode cX12_heldOf 36 = .ok (.getfield 272, 3) := by decide +kernel
theorem dX12_heldOf_39 : decode cX12_heldOf 39 = .ok (.iload 4, 2) := by decide +kernel
theorem dX12_heldOf_41 : decode cX12_heldOf 41 = .ok (.baload, 1) := by decide +kernel
theorem dX12_heldOf_42 : decode cX12_heldOf 42 = .ok (.ifCond .ne 18, 3) := by decide +kernel
theorem dX12_heldOf_45 : decode cX12_heldOf 45 = .ok (.aload_n 0, 1) := by decide +kernel
theorem dX12_heldOf_46 : decode cX12_heldOf 46 = .ok (.getfield 266, 3) := by decide +kernel
theorem dX12_heldOf_49 : decode cX12_heldOf 49 = .ok (.iload 4, 2) := by decide +kernel
theorem dX12_heldOf_51 : decode cX12_heldOf 51 = .ok (.baload, 1) := by decide +kernel
theorem dX12_heldOf_52 : decode cX12_heldOf 52 = .ok (.iload_n 1, 1) := by decide +kernel
theorem dX12_heldOf_53 : decode cX12_heldOf 53 = .ok (.if_icmp .ne 7, 3) := by decide +kernel
theorem dX12_heldOf_56 : decode cX12_heldOf 56 = .ok (.iconst 1, 1) := by decide +kernel
theorem dX12_heldOf_57 : decode cX12_heldOf 57 = .ok (.goto 4, 3) := by decide +kernel
theorem dX12_heldOf_60 : decode cX12_heldOf 60 = .ok (.iconst 0, 1) := by decide +kernel
theorem dX12_heldOf_61 : decode cX12_heldOf 61 = .ok (.iadd, 1) := by decide +kernel
theorem dX12_heldOf_62 : decode cX12_heldOf 62 = .ok (.istore_n 3, 1) := by decide +kernel
theorem dX12_heldOf_63 : decode cX12_heldOf 63 = .ok (.iinc 4 1, 3) := by decide +kernel
theorem dX12_heldOf_66 : decode cX12_heldOf 66 = .ok (.goto (-41), 3) := by decide +kernel
theorem dX12_heldOf_69 : decode cX12_heldOf 69 = .ok (.iload_n 3, 1) := by decide +kernel
theorem dX12_heldOf_70 : decode cX12_heldOf 70 = .ok (.ireturn, 1) := by decide +kernel
theorem dX12_heldOf_71 : decode cX12_heldOf 71 = .ok (.iconst 0, 1) := by decide +kernel
theorem dX12_heldOf_72 : decode cX12_heldOf 72 = .ok (.istore 4, 2) := by decide +kernel
theorem dX12_heldOf_74 : decode cX12_heldOf 74 = .ok (.iload 4, 2) := by decide +kernel
theorem dX12_heldOf_76 : decode cX12_heldOf 76 = .ok (.aload_n 0, 1) := by decide +kernel
theorem dX12_heldOf_77 : decode cX12_heldOf 77 = .ok (.getfield 58, 3) := by decide +kernel
theorem dX12_heldOf_80 : decode cX12_heldOf 80 = .ok (.if_icmp .ge 131, 3) := by decide +kernel
theorem dX12_heldOf_83 : decode cX12_heldOf 83 = .ok (.aload_n 0, 1) := by decide +kernel
theorem dX12_heldOf_84 : decode cX12_heldOf 84 = .ok (.getfield 87, 3) := by decide +kernel
theorem dX12_heldOf_87 : decode cX12_heldOf 87 = .ok (.sipush 4000, 3) := by decide +kernel
theorem dX12_heldOf_90 : decode cX12_heldOf 90 = .ok (.iload_n 1, 1) := by decide +kernel
theorem dX12_heldOf_91 : decode cX12_heldOf 91 = .ok (.imul, 1) := by decide +kernel
theorem dX12_heldOf_92 : decode cX12_heldOf 92 = .ok (.iload 4, 2) := by decide +kernel
theorem dX12_heldOf_94 : decode cX12_heldOf 94 = .ok (.iadd, 1) := by decide +kernel
theorem dX12_heldOf_95 : decode cX12_heldOf 95 = .ok (.saload, 1) := by decide +kernel
theorem dX12_heldOf_96 : decode cX12_heldOf 96 = .ok (.ifCond .ge 6, 3) := by decide +kernel
theorem dX12_heldOf_99 : decode cX12_heldOf 99 = .ok (.goto 106, 3) := by decide +kernel
theorem dX12_heldOf_102 : decode cX12_heldOf 102 = .ok (.aload_n 0, 1) := by decide +kernel
theorem dX12_heldOf_103 : decode cX12_heldOf 103 = .ok (.getfield 208, 3) := by decide +kernel
theorem dX12_heldOf_106 : decode cX12_heldOf 106 = .ok (.iload_n 2, 1) := by decide +kernel
theorem dX12_heldOf_107 : decode cX12_heldOf 107 = .ok (.iaload, 1) := by decide +kernel
theorem dX12_heldOf_108 : decode cX12_heldOf 108 = .ok (.iconst 3, 1) := by decide +kernel
theorem dX12_heldOf_109 : decode cX12_heldOf 109 = .ok (.if_icmp .eq 68, 3) := by decide +kernel
theorem dX12_heldOf_112 : decode cX12_heldOf 112 = .ok (.iload_n 3, 1) := by decide +kernel
theorem dX12_heldOf_113 : decode cX12_heldOf 113 = .ok (.aload_n 0, 1) := by decide +kernel
theorem dX12_heldOf_114 : decode cX12_heldOf 114 = .ok (.getfield 260, 3) := by decide +kernel
theorem dX12_heldOf_117 : decode cX12_heldOf 117 = .ok (.sipush 4000, 3) := by decide +kernel
theorem dX12_heldOf_120 : decode cX12_heldOf 120 = .ok (.iload_n 1, 1) := by decide +kernel
theorem dX12_heldOf_121 : decode cX12_heldOf 121 = .ok (.imul, 1) := by decide +kernel
theorem dX12_heldOf_122 : decode cX12_heldOf 122 = .ok (.iload 4, 2) := by decide +kernel
theorem dX12_heldOf_124 : decode cX12_heldOf 124 = .ok (.iadd, 1) := by decide +kernel
theorem dX12_heldOf_125 : decode cX12_heldOf 125 = .ok (.baload, 1) := by decide +kernel
theorem dX12_heldOf_126 : decode cX12_heldOf 126 = .ok (.iconst 1, 1) := by decide +kernel
theorem dX12_heldOf_127 : decode cX12_heldOf 127 = .ok (.iand, 1) := by decide +kernel
theorem dX12_heldOf_128 : decode cX12_heldOf 128 = .ok (.iconst 1, 1) := by decide +kernel
theorem dX12_heldOf_129 : decode cX12_heldOf 129 = .ok (.if_icmp .ne 42, 3) := by decide +kernel
theorem dX12_heldOf_132 : decode cX12_heldOf 132 = .ok (.aload_n 0, 1) := by decide +kernel
theorem dX12_heldOf_133 : decode cX12_heldOf 133 = .ok (.iload_n 1, 1) := by decide +kernel
theorem dX12_heldOf_134 : decode cX12_heldOf 134 = .ok (.iload 4, 2) := by decide +kernel
theorem dX12_heldOf_136 : decode cX12_heldOf 136 = .ok (.invokevirtual 469, 3) := by decide +kernel
theorem dX12_heldOf_139 : decode cX12_heldOf 139 = .ok (.ifCond .eq 32, 3) := by decide +kernel
theorem dX12_heldOf_142 : decode cX12_heldOf 142 = .ok (.aload_n 0, 1) := by decide +kernel
theorem dX12_heldOf_143 : decode cX12_heldOf 143 = .ok (.getfield 170, 3) := by decide +kernel
theorem dX12_heldOf_146 : decode cX12_heldOf 146 = .ok (.iload 4, 2) := by decide +kernel
theorem dX12_heldOf_148 : decode cX12_heldOf 148 = .ok (.iaload, 1) := by decide +kernel
theorem dX12_heldOf_149 : decode cX12_heldOf 149 = .ok (.i2l, 1) := by decide +kernel
theorem dX12_heldOf_150 : decode cX12_heldOf 150 = .ok (.aload_n 0, 1) := by decide +kernel
theorem dX12_heldOf_151 : decode cX12_heldOf 151 = .ok (.getfield 64, 3) := by decide +kernel
theorem dX12_heldOf_154 : decode cX12_heldOf 154 = .ok (.i2l, 1) := by decide +kernel
theorem dX12_heldOf_155 : decode cX12_heldOf 155 = .ok (.aload_n 0, 1) := by decide +kernel
theorem dX12_heldOf_156 : decode cX12_heldOf 156 = .ok (.getfield 226, 3) := by decide +kernel
theorem dX12_heldOf_159 : decode cX12_heldOf 159 = .ok (.iload_n 2, 1) := by decide +kernel
theorem dX12_heldOf_160 : decode cX12_heldOf 160 = .ok (.iaload, 1) := by decide +kernel
theorem dX12_heldOf_161 : decode cX12_heldOf 161 = .ok (.i2l, 1) := by decide +kernel
theorem dX12_heldOf_162 : decode cX12_heldOf 162 = .ok (.lsub, 1) := by decide +kernel
theorem dX12_heldOf_163 : decode cX12_heldOf 163 = .ok (.lcmp, 1) := by decide +kernel
theorem dX12_heldOf_164 : decode cX12_heldOf 164 = .ok (.ifCond .le 7, 3) := by decide +kernel
theorem dX12_heldOf_167 : decode cX12_heldOf 167 = .ok (.iconst 1, 1) := by decide +kernel
theorem dX12_heldOf_168 : decode cX12_heldOf 168 = .ok (.goto 4, 3) := by decide +kernel
theorem dX12_heldOf_171 : decode cX12_heldOf 171 = .ok (.iconst 0, 1) := by decide +kernel
theorem dX12_heldOf_172 : decode cX12_heldOf 172 = .ok (.iadd, 1) := by decide +kernel
theorem dX12_heldOf_173 : decode cX12_heldOf 173 = .ok (.istore_n 3, 1) := by decide +kernel
theorem dX12_heldOf_174 : decode cX12_heldOf 174 = .ok (.goto 31, 3) := by decide +kernel
theorem dX12_heldOf_177 : decode cX12_heldOf 177 = .ok (.aload_n 0, 1) := by decide +kernel
theorem dX12_heldOf_178 : decode cX12_heldOf 178 = .ok (.getfield 87, 3) := by decide +kernel
theorem dX12_heldOf_181 : decode cX12_heldOf 181 = .ok (.sipush 4000, 3) := by decide +kernel
theorem dX12_heldOf_184 : decode cX12_heldOf 184 = .ok (.iload_n 1, 1) := by decide +kernel
theorem dX12_heldOf_185 : decode cX12_heldOf 185 = .ok (.imul, 1) := by decide +kernel
theorem dX12_heldOf_186 : decode cX12_heldOf 186 = .ok (.iload 4, 2) := by decide +kernel
theorem dX12_heldOf_188 : decode cX12_heldOf 188 = .ok (.iadd, 1) := by decide +kernel
theorem dX12_heldOf_189 : decode cX12_heldOf 189 = .ok (.saload, 1) := by decide +kernel
theorem dX12_heldOf_190 : decode cX12_heldOf 190 = .ok (.iload 4, 2) := by decide +kernel
theorem dX12_heldOf_192 : decode cX12_heldOf 192 = .ok (.if_icmp .ne 13, 3) := by decide +kernel
theorem dX12_heldOf_195 : decode cX12_heldOf 195 = .ok (.iload_n 3, 1) := by decide +kernel
theorem dX12_heldOf_196 : decode cX12_heldOf 196 = .ok (.aload_n 0, 1) := by decide +kernel
theorem dX12_heldOf_197 : decode cX12_heldOf 197 = .ok (.iload_n 1, 1) := by decide +kernel
theorem dX12_heldOf_198 : decode cX12_heldOf 198 = .ok (.iload 4, 2) := by decide +kernel
theorem dX12_heldOf_200 : decode cX12_heldOf 200 = .ok (.invokevirtual 511, 3) := by decide +kernel
theorem dX12_heldOf_203 : decode cX12_heldOf 203 = .ok (.iadd, 1) := by decide +kernel
theorem dX12_heldOf_204 : decode cX12_heldOf 204 = .ok (.istore_n 3, 1) := by decide +kernel
theorem dX12_heldOf_205 : decode cX12_heldOf 205 = .ok (.iinc 4 1, 3) := by decide +kernel
theorem dX12_heldOf_208 : decode cX12_heldOf 208 = .ok (.goto (-134), 3) := by decide +kernel
theorem dX12_heldOf_211 : decode cX12_heldOf 211 = .ok (.iload_n 3, 1) := by decide +kernel
theorem dX12_heldOf_212 : decode cX12_heldOf 212 = .ok (.ireturn, 1) := by decide +kernel
theorem dX12_begun_0 : decode cX12_begun 0 = .ok (.bipush 12, 2) := by decide +kernel
theorem dX12_begun_2 : decode cX12_begun 2 = .ok (.aload_n 0, 1) := by decide +kernel
theorem dX12_begun_3 : decode cX12_begun 3 = .ok (.getfield 368, 3) := by decide +kernel
theorem dX12_begun_6 : decode cX12_begun 6 = .ok (.imul, 1) := by decide +kernel
theorem dX12_begun_7 : decode cX12_begun 7 = .ok (.iload_n 1, 1) := by decide +kernel
theorem dX12_begun_8 : decode cX12_begun 8 = .ok (.iadd, 1) := by decide +kernel
theorem dX12_begun_9 : decode cX12_begun 9 = .ok (.istore_n 3, 1) := by decide +kernel
theorem dX12_begun_10 : decode cX12_begun 10 = .ok (.iconst 0, 1) := by decide +kernel
theorem dX12_begun_11 : decode cX12_begun 11 = .ok (.istore 4, 2) := by decide +kernel
theorem dX12_begun_13 : decode cX12_begun 13 = .ok (.iconst 1, 1) := by decide +kernel
theorem dX12_begun_14 : decode cX12_begun 14 = .ok (.istore 5, 2) := by decide +kernel
theorem dX12_begun_16 : decode cX12_begun 16 = .ok (.iload 5, 2) := by decide +kernel
theorem dX12_begun_18 : decode cX12_begun 18 = .ok (.aload_n 0, 1) := by decide +kernel
theorem dX12_begun_19 : decode cX12_begun 19 = .ok (.getfield 214, 3) := by decide +kernel
theorem dX12_begun_22 : decode cX12_begun 22 = .ok (.iload_n 3, 1) := by decide +kernel
theorem dX12_begun_23 : decode cX12_begun 23 = .ok (.iaload, 1) := by decide +kernel
theorem dX12_begun_24 : decode cX12_begun 24 = .ok (.if_icmp .ge 80, 3) := by decide +kernel
theorem dX12_begun_27 : decode cX12_begun 27 = .ok (.aload_n 0, 1) := by decide +kernel
theorem dX12_begun_28 : decode cX12_begun 28 = .ok (.iload_n 1, 1) := by decide +kernel
theorem dX12_begun_29 : decode cX12_begun 29 = .ok (.iload_n 2, 1) := by decide +kernel
theorem dX12_begun_30 : decode cX12_begun 30 = .ok (.iload 5, 2) := by decide +kernel
theorem dX12_begun_32 : decode cX12_begun 32 = .ok (.aload_n 0, 1) := by decide +kernel
theorem dX12_begun_33 : decode cX12_begun 33 = .ok (.getfield 58, 3) := by decide +kernel
theorem dX12_begun_36 : decode cX12_begun 36 = .ok (.iconst 1, 1) := by decide +kernel
theorem dX12_begun_37 : decode cX12_begun 37 = .ok (.isub, 1) := by decide +kernel
theorem dX12_begun_38 : decode cX12_begun 38 = .ok (.invokevirtual 479, 3) := by decide +kernel
theorem dX12_begun_41 : decode cX12_begun 41 = .ok (.istore 6, 2) := by decide +kernel
theorem dX12_begun_43 : decode cX12_begun 43 = .ok (.iload 4, 2) := by decide +kernel
theorem dX12_begun_45 : decode cX12_begun 45 = .ok (.iload 6, 2) := by decide +kernel
theorem dX12_begun_47 : decode cX12_begun 47 = .ok (.ifCond .lt 47, 3) := by decide +kernel
theorem dX12_begun_50 : decode cX12_begun 50 = .ok (.aload_n 0, 1) := by decide +kernel
theorem dX12_begun_51 : decode cX12_begun 51 = .ok (.getfield 170, 3) := by decide +kernel
theorem dX12_begun_54 : decode cX12_begun 54 = .ok (.iload 6, 2) := by decide +kernel
theorem dX12_begun_56 : decode cX12_begun 56 = .ok (.iaload, 1) := by decide +kernel
theorem dX12_begun_57 : decode cX12_begun 57 = .ok (.i2l, 1) := by decide +kernel
theorem dX12_begun_58 : decode cX12_begun 58 = .ok (.aload_n 0, 1) := by decide +kernel
theorem dX12_begun_59 : decode cX12_begun 59 = .ok (.getfield 64, 3) := by decide +kernel
theorem dX12_begun_62 : decode cX12_begun 62 = .ok (.i2l, 1) := by decide +kernel
theorem dX12_begun_63 : decode cX12_begun 63 = .ok (.aload_n 0, 1) := by decide +kernel
theorem dX12_begun_64 : decode cX12_begun 64 = .ok (.getfield 226, 3) := by decide +kernel
theorem dX12_begun_67 : decode cX12_begun 67 = .ok (.iload_n 3, 1) := by decide +kernel
theorem dX12_begun_68 : decode cX12_begun 68 = .ok (.iaload, 1) := by decide +kernel
theorem dX12_begun_69 : decode cX12_begun 69 = .ok (.i2l, 1) := by decide +kernel
theorem dX12_begun_70 : decode cX12_begun 70 = .ok (.lsub, 1) := by decide +kernel
theorem dX12_begun_71 : decode cX12_begun 71 = .ok (.lcmp, 1) := by decide +kernel
theorem dX12_begun_72 : decode cX12_begun 72 = .ok (.ifCond .le 22, 3) := by decide +kernel
theorem dX12_begun_75 : decode cX12_begun 75 = .ok (.aload_n 0, 1) := by decide +kernel
theorem dX12_begun_76 : decode cX12_begun 76 = .ok (.iload_n 1, 1) := by decide +kernel
theorem dX12_begun_77 : decode cX12_begun 77 = .ok (.iload_n 2, 1) := by decide +kernel
theorem dX12_begun_78 : decode cX12_begun 78 = .ok (.iload 6, 2) := by decide +kernel
theorem dX12_begun_80 : decode cX12_begun 80 = .ok (.aload_n 0, 1) := by decide +kernel
theorem dX12_begun_81 : decode cX12_begun 81 = .ok (.getfield 58, 3) := by decide +kernel
theorem dX12_begun_84 : decode cX12_begun 84 = .ok (.invokevirtual 483, 3) := by decide +kernel
theorem dX12_begun_87 : decode cX12_begun 87 = .ok (.ifCond .eq 7, 3) := by decide +kernel
theorem dX12_begun_90 : decode cX12_begun 90 = .ok (.iconst 1, 1) := by decide +kernel
theorem dX12_begun_91 : decode cX12_begun 91 = .ok (.goto 4, 3) := by decide +kernel
theorem dX12_begun_94 : decode cX12_begun 94 = .ok (.iconst 0, 1) := by decide +kernel
theorem dX12_begun_95 : decode cX12_begun 95 = .ok (.iadd, 1) := by decide +kernel
theorem dX12_begun_96 : decode cX12_begun 96 = .ok (.istore 4, 2) := by decide +kernel
theorem dX12_begun_98 : decode cX12_begun 98 = .ok (.iinc 5 1, 3) := by decide +kernel
theorem dX12_begun_101 : decode cX12_begun 101 = .ok (.goto (-85), 3) := by decide +kernel
theorem dX12_begun_104 : decode cX12_begun 104 = .ok (.iload 4, 2) := by decide +kernel
theorem dX12_begun_106 : decode cX12_begun 106 = .ok (.ireturn, 1) := by decide +kernel
theorem dX12_rule__0 : decode cX12_rule_ 0 = .ok (.aload_n 0, 1) := by decide +kernel
theorem dX12_rule__1 : decode cX12_rule_ 1 = .ok (.iload_n 1, 1) := by decide +kernel
theorem dX12_rule__2 : decode cX12_rule_ 2 = .ok (.ifCond .lt 20, 3) := by decide +kernel
theorem dX12_rule__5 : decode cX12_rule_ 5 = .ok (.iload_n 1, 1) := by decide +kernel
theorem dX12_rule__6 : decode cX12_rule_ 6 = .ok (.aload_n 0, 1) := by decide +kernel
theorem dX12_rule__7 : decode cX12_rule_ 7 = .ok (.getfield 380, 3) := by decide +kernel
theorem dX12_rule__10 : decode cX12_rule_ 10 = .ok (.if_icmp .ge 12, 3) := by decide +kernel
theorem dX12_rule__13 : decode cX12_rule_ 13 = .ok (.iload_n 2, 1) := by decide +kernel
theorem dX12_rule__14 : decode cX12_rule_ 14 = .ok (.ifCond .lt 8, 3) := by decide +kernel
theorem dX12_rule__17 : decode cX12_rule_ 17 = .ok (.iload_n 2, 1) := by decide +kernel
theorem dX12_rule__18 : decode cX12_rule_ 18 = .ok (.iconst 1, 1) := by decide +kernel
theorem dX12_rule__19 : decode cX12_rule_ 19 = .ok (.if_icmp .le 7, 3) := by decide +kernel
theorem dX12_rule__22 : decode cX12_rule_ 22 = .ok (.iconst 1, 1) := by decide +kernel
theorem dX12_rule__23 : decode cX12_rule_ 23 = .ok (.goto 4, 3) := by decide +kernel
theorem dX12_rule__26 : decode cX12_rule_ 26 = .ok (.iconst 0, 1) := by decide +kernel
theorem dX12_rule__27 : decode cX12_rule_ 27 = .ok (.invokevirtual 507, 3) := by decide +kernel
theorem dX12_rule__30 : decode cX12_rule_ 30 = .ok (.ifCond .eq 5, 3) := by decide +kernel
theorem dX12_rule__33 : decode cX12_rule_ 33 = .ok (.iconst 0, 1) := by decide +kernel
theorem dX12_rule__34 : decode cX12_rule_ 34 = .ok (.ireturn, 1) := by decide +kernel
theorem dX12_rule__35 : decode cX12_rule_ 35 = .ok (.iload_n 2, 1) := by decide +kernel
theorem dX12_rule__36 : decode cX12_rule_ 36 = .ok (.ifCond .ne 11, 3) := by decide +kernel
theorem dX12_rule__39 : decode cX12_rule_ 39 = .ok (.aload_n 0, 1) := by decide +kernel
theorem dX12_rule__40 : decode cX12_rule_ 40 = .ok (.iload_n 1, 1) := by decide +kernel
theorem dX12_rule__41 : decode cX12_rule_ 41 = .ok (.invokevirtual 514, 3) := by decide +kernel
theorem dX12_rule__44 : decode cX12_rule_ 44 = .ok (.goto 9, 3) := by decide +kernel
theorem dX12_rule__47 : decode cX12_rule_ 47 = .ok (.aload_n 0, 1) := by decide +kernel
theorem dX12_rule__48 : decode cX12_rule_ 48 = .ok (.getfield 83, 3) := by decide +kernel
theorem dX12_rule__51 : decode cX12_rule_ 51 = .ok (.iload_n 1, 1) := by decide +kernel
theorem dX12_rule__52 : decode cX12_rule_ 52 = .ok (.iaload, 1) := by decide +kernel
theorem dX12_rule__53 : decode cX12_rule_ 53 = .ok (.ireturn, 1) := by decide +kernel
theorem dX12_isLate_0 : decode cX12_isLate 0 = .ok (.iload_n 1, 1) := by decide +kernel
theorem dX12_isLate_1 : decode cX12_isLate 1 = .ok (.ifCond .lt 26, 3) := by decide +kernel
theorem dX12_isLate_4 : decode cX12_isLate 4 = .ok (.iload_n 1, 1) := by decide +kernel
theorem dX12_isLate_5 : decode cX12_isLate 5 = .ok (.aload_n 0, 1) := by decide +kernel
theorem dX12_isLate_6 : decode cX12_isLate 6 = .ok (.getfield 58, 3) := by decide +kernel
theorem dX12_isLate_9 : decode cX12_isLate 9 = .ok (.if_icmp .ge 18, 3) := by decide +kernel
theorem dX12_isLate_12 : decode cX12_isLate 12 = .ok (.iload_n 1, 1) := by decide +kernel
theorem dX12_isLate_13 : decode cX12_isLate 13 = .ok (.aload_n 0, 1) := by decide +kernel
theorem dX12_isLate_14 : decode cX12_isLate 14 = .ok (.getfield 58, 3) := by decide +kernel
theorem dX12_isLate_17 : decode cX12_isLate 17 = .ok (.bipush 64, 2) := by decide +kernel
theorem dX12_isLate_19 : decode cX12_isLate 19 = .ok (.isub, 1) := by decide +kernel
theorem dX12_isLate_20 : decode cX12_isLate 20 = .ok (.if_icmp .lt 7, 3) := by decide +kernel
theorem dX12_isLate_23 : decode cX12_isLate 23 = .ok (.iconst 1, 1) := by decide +kernel
theorem dX12_isLate_24 : decode cX12_isLate 24 = .ok (.goto 4, 3) := by decide +kernel
theorem dX12_isLate_27 : decode cX12_isLate 27 = .ok (.iconst 0, 1) := by decide +kernel
theorem dX12_isLate_28 : decode cX12_isLate 28 = .ok (.ireturn, 1) := by decide +kernel
theorem dX12_event_0 : decode cX12_event 0 = .ok (.aload_n 0, 1) := by decide +kernel
theorem dX12_event_1 : decode cX12_event 1 = .ok (.aload_n 0, 1) := by decide +kernel
theorem dX12_event_2 : decode cX12_event 2 = .ok (.iload_n 1, 1) := by decide +kernel
theorem dX12_event_3 : decode cX12_event 3 = .ok (.invokevirtual 517, 3) := by decide +kernel
theorem dX12_event_6 : decode cX12_event 6 = .ok (.ifCond .eq 12, 3) := by decide +kernel
theorem dX12_event_9 : decode cX12_event 9 = .ok (.iload_n 2, 1) := by decide +kernel
theorem dX12_event_10 : decode cX12_event 10 = .ok (.ifCond .lt 8, 3) := by decide +kernel
theorem dX12_event_13 : decode cX12_event 13 = .ok (.iload_n 2, 1) := by decide +kernel
theorem dX12_event_14 : decode cX12_event 14 = .ok (.iconst 3, 1) := by decide +kernel
theorem dX12_event_15 : decode cX12_event 15 = .ok (.if_icmp .le 7, 3) := by decide +kernel
theorem dX12_event_18 : decode cX12_event 18 = .ok (.iconst 1, 1) := by decide +kernel
theorem dX12_event_19 : decode cX12_event 19 = .ok (.goto 4, 3) := by decide +kernel
theorem dX12_event_22 : decode cX12_event 22 = .ok (.iconst 0, 1) := by decide +kernel
theorem dX12_event_23 : decode cX12_event 23 = .ok (.invokevirtual 507, 3) := by decide +kernel
theorem dX12_event_26 : decode cX12_event 26 = .ok (.ifCond .eq 5, 3) := by decide +kernel
theorem dX12_event_29 : decode cX12_event 29 = .ok (.iconst 0, 1) := by decide +kernel
theorem dX12_event_30 : decode cX12_event 30 = .ok (.ireturn, 1) := by decide +kernel
theorem dX12_event_31 : decode cX12_event 31 = .ok (.iconst 0, 1) := by decide +kernel
theorem dX12_event_32 : decode cX12_event 32 = .ok (.istore_n 3, 1) := by decide +kernel
theorem dX12_event_33 : decode cX12_event 33 = .ok (.iload_n 3, 1) := by decide +kernel
theorem dX12_event_34 : decode cX12_event 34 = .ok (.bipush 12, 2) := by decide +kernel
theorem dX12_event_36 : decode cX12_event 36 = .ok (.if_icmp .ge 18, 3) := by decide +kernel
theorem dX12_event_39 : decode cX12_event 39 = .ok (.aload_n 0, 1) := by decide +kernel
theorem dX12_event_40 : decode cX12_event 40 = .ok (.iload_n 1, 1) := by decide +kernel
theorem dX12_event_41 : decode cX12_event 41 = .ok (.iload_n 3, 1) := by decide +kernel
theorem dX12_event_42 : decode cX12_event 42 = .ok (.invokevirtual 520, 3) := by decide +kernel
theorem dX12_event_45 : decode cX12_event 45 = .ok (.ifCond .le 9, 3) := by decide +kernel
theorem dX12_event_48 : decode cX12_event 48 = .ok (.iinc 3 1, 3) := by decide +kernel
theorem dX12_event_51 : decode cX12_event 51 = .ok (.goto (-18), 3) := by decide +kernel
theorem dX12_event_54 : decode cX12_event 54 = .ok (.iload_n 2, 1) := by decide +kernel
theorem dX12_event_55 : decode cX12_event 55 = .ok (.ifCond .ne 12, 3) := by decide +kernel
theorem dX12_event_58 : decode cX12_event 58 = .ok (.aload_n 0, 1) := by decide +kernel
theorem dX12_event_59 : decode cX12_event 59 = .ok (.getfield 170, 3) := by decide +kernel
theorem dX12_event_62 : decode cX12_event 62 = .ok (.iload_n 1, 1) := by decide +kernel
theorem dX12_event_63 : decode cX12_event 63 = .ok (.iaload, 1) := by decide +kernel
theorem dX12_event_64 : decode cX12_event 64 = .ok (.goto 32, 3) := by decide +kernel
theorem dX12_event_67 : decode cX12_event 67 = .ok (.iload_n 2, 1) := by decide +kernel
theorem dX12_event_68 : decode cX12_event 68 = .ok (.iconst 1, 1) := by decide +kernel
theorem dX12_event_69 : decode cX12_event 69 = .ok (.if_icmp .ne 7, 3) := by decide +kernel
theorem dX12_event_72 : decode cX12_event 72 = .ok (.iload_n 3, 1) := by decide +kernel
theorem dX12_event_73 : decode cX12_event 73 = .ok (.goto 23, 3) := by decide +kernel
theorem dX12_event_76 : decode cX12_event 76 = .ok (.iload_n 2, 1) := by decide +kernel
theorem dX12_event_77 : decode cX12_event 77 = .ok (.iconst 2, 1) := by decide +kernel
theorem dX12_event_78 : decode cX12_event 78 = .ok (.if_icmp .ne 12, 3) := by decide +kernel
theorem dX12_event_81 : decode cX12_event 81 = .ok (.aload_n 0, 1) := by decide +kernel
theorem dX12_event_82 : decode cX12_event 82 = .ok (.getfield 97, 3) := by decide +kernel
theorem dX12_event_85 : decode cX12_event 85 = .ok (.iload_n 1, 1) := by decide +kernel
theorem dX12_event_86 : decode cX12_event 86 = .ok (.iaload, 1) := by decide +kernel
theorem dX12_event_87 : decode cX12_event 87 = .ok (.goto 9, 3) := by decide +kernel
theorem dX12_event_90 : decode cX12_event 90 = .ok (.aload_n 0, 1) := by decide +kernel
theorem dX12_event_91 : decode cX12_event 91 = .ok (.getfield 173, 3) := by decide +kernel
theorem dX12_event_94 : decode cX12_event 94 = .ok (.iload_n 1, 1) := by decide +kernel
theorem dX12_event_95 : decode cX12_event 95 = .ok (.iaload, 1) := by decide +kernel
theorem dX12_event_96 : decode cX12_event 96 = .ok (.ireturn, 1) := by decide +kernel
theorem dX12_letter_0 : decode cX12_letter 0 = .ok (.iload_n 2, 1) := by decide +kernel
theorem dX12_letter_1 : decode cX12_letter 1 = .ok (.bipush 8, 2) := by decide +kernel
theorem dX12_letter_3 : decode cX12_letter 3 = .ok (.if_icmp .ge 20, 3) := by decide +kernel
theorem dX12_letter_6 : decode cX12_letter 6 = .ok (.aload_n 0, 1) := by decide +kernel
theorem dX12_letter_7 : decode cX12_letter 7 = .ok (.getfield 145, 3) := by decide +kernel
theorem dX12_letter_10 : decode cX12_letter 10 = .ok (.iload_n 1, 1) := by decide +kernel
