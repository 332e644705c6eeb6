theorem dX12_readAddress_113 : decode cX12_readAddress 113 = .ok (.putfield 347, 3) := by decide +kernel
theorem dX12_readAddress_116 : decode cX12_readAddress 116 = .ok (.iinc 1 1, 3) := by decide +kernel
theorem dX12_readAddress_119 : decode cX12_readAddress 119 = .ok (.iconst 0, 1) := by decide +kernel
theorem dX12_readAddress_120 : decode cX12_readAddress 120 = .ok (.istore_n 2, 1) := by decide +kernel
theorem dX12_readAddress_121 : decode cX12_readAddress 121 = .ok (.iconst 0, 1) := by decide +kernel
theorem dX12_readAddress_122 : decode cX12_readAddress 122 = .ok (.istore_n 3, 1) := by decide +kernel
theorem dX12_readAddress_123 : decode cX12_readAddress 123 = .ok (.goto (-109), 3) := by decide +kernel
theorem dX12_readAddress_126 : decode cX12_readAddress 126 = .ok (.iload 4, 2) := by decide +kernel
theorem dX12_readAddress_128 : decode cX12_readAddress 128 = .ok (.ifCond .eq 20, 3) := by decide +kernel
theorem dX12_readAddress_131 : decode cX12_readAddress 131 = .ok (.iload 5, 2) := by decide +kernel
theorem dX12_readAddress_133 : decode cX12_readAddress 133 = .ok (.invokestatic 325, 3) := by decide +kernel
theorem dX12_readAddress_136 : decode cX12_readAddress 136 = .ok (.ifCond .eq 12, 3) := by decide +kernel
theorem dX12_readAddress_139 : decode cX12_readAddress 139 = .ok (.iload_n 2, 1) := by decide +kernel
theorem dX12_readAddress_140 : decode cX12_readAddress 140 = .ok (.iconst 3, 1) := by decide +kernel
theorem dX12_readAddress_141 : decode cX12_readAddress 141 = .ok (.if_icmp .ge 7, 3) := by decide +kernel
theorem dX12_readAddress_144 : decode cX12_readAddress 144 = .ok (.iconst 1, 1) := by decide +kernel
theorem dX12_readAddress_145 : decode cX12_readAddress 145 = .ok (.goto 4, 3) := by decide +kernel
theorem dX12_readAddress_148 : decode cX12_readAddress 148 = .ok (.iconst 0, 1) := by decide +kernel
theorem dX12_readAddress_149 : decode cX12_readAddress 149 = .ok (.istore 4, 2) := by decide +kernel
theorem dX12_readAddress_151 : decode cX12_readAddress 151 = .ok (.iload 4, 2) := by decide +kernel
theorem dX12_readAddress_153 : decode cX12_readAddress 153 = .ok (.ifCond .eq 16, 3) := by decide +kernel
theorem dX12_readAddress_156 : decode cX12_readAddress 156 = .ok (.bipush 10, 2) := by decide +kernel
theorem dX12_readAddress_158 : decode cX12_readAddress 158 = .ok (.iload_n 3, 1) := by decide +kernel
theorem dX12_readAddress_159 : decode cX12_readAddress 159 = .ok (.imul, 1) := by decide +kernel
theorem dX12_readAddress_160 : decode cX12_readAddress 160 = .ok (.iload 5, 2) := by decide +kernel
theorem dX12_readAddress_162 : decode cX12_readAddress 162 = .ok (.iadd, 1) := by decide +kernel
theorem dX12_readAddress_163 : decode cX12_readAddress 163 = .ok (.bipush 48, 2) := by decide +kernel
theorem dX12_readAddress_165 : decode cX12_readAddress 165 = .ok (.isub, 1) := by decide +kernel
theorem dX12_readAddress_166 : decode cX12_readAddress 166 = .ok (.goto 4, 3) := by decide +kernel
theorem dX12_readAddress_169 : decode cX12_readAddress 169 = .ok (.iconst 0, 1) := by decide +kernel
theorem dX12_readAddress_170 : decode cX12_readAddress 170 = .ok (.istore_n 3, 1) := by decide +kernel
theorem dX12_readAddress_171 : decode cX12_readAddress 171 = .ok (.iload 4, 2) := by decide +kernel
theorem dX12_readAddress_173 : decode cX12_readAddress 173 = .ok (.ifCond .eq 14, 3) := by decide +kernel
theorem dX12_readAddress_176 : decode cX12_readAddress 176 = .ok (.iload_n 3, 1) := by decide +kernel
theorem dX12_readAddress_177 : decode cX12_readAddress 177 = .ok (.sipush 256, 3) := by decide +kernel
theorem dX12_readAddress_180 : decode cX12_readAddress 180 = .ok (.if_icmp .ge 7, 3) := by decide +kernel
theorem dX12_readAddress_183 : decode cX12_readAddress 183 = .ok (.iconst 1, 1) := by decide +kernel
theorem dX12_readAddress_184 : decode cX12_readAddress 184 = .ok (.goto 4, 3) := by decide +kernel
theorem dX12_readAddress_187 : decode cX12_readAddress 187 = .ok (.iconst 0, 1) := by decide +kernel
theorem dX12_readAddress_188 : decode cX12_readAddress 188 = .ok (.istore 4, 2) := by decide +kernel
theorem dX12_readAddress_190 : decode cX12_readAddress 190 = .ok (.iinc 2 1, 3) := by decide +kernel
theorem dX12_readAddress_193 : decode cX12_readAddress 193 = .ok (.goto (-179), 3) := by decide +kernel
theorem dX12_readAddress_196 : decode cX12_readAddress 196 = .ok (.aload_n 0, 1) := by decide +kernel
theorem dX12_readAddress_197 : decode cX12_readAddress 197 = .ok (.aload_n 0, 1) := by decide +kernel
theorem dX12_readAddress_198 : decode cX12_readAddress 198 = .ok (.getfield 347, 3) := by decide +kernel
theorem dX12_readAddress_201 : decode cX12_readAddress 201 = .ok (.bipush 8, 2) := by decide +kernel
theorem dX12_readAddress_203 : decode cX12_readAddress 203 = .ok (.ishl, 1) := by decide +kernel
theorem dX12_readAddress_204 : decode cX12_readAddress 204 = .ok (.iload_n 3, 1) := by decide +kernel
theorem dX12_readAddress_205 : decode cX12_readAddress 205 = .ok (.ior, 1) := by decide +kernel
theorem dX12_readAddress_206 : decode cX12_readAddress 206 = .ok (.putfield 347, 3) := by decide +kernel
theorem dX12_readAddress_209 : decode cX12_readAddress 209 = .ok (.aload_n 0, 1) := by decide +kernel
theorem dX12_readAddress_210 : decode cX12_readAddress 210 = .ok (.iload 4, 2) := by decide +kernel
theorem dX12_readAddress_212 : decode cX12_readAddress 212 = .ok (.ifCond .eq 16, 3) := by decide +kernel
theorem dX12_readAddress_215 : decode cX12_readAddress 215 = .ok (.iload_n 1, 1) := by decide +kernel
theorem dX12_readAddress_216 : decode cX12_readAddress 216 = .ok (.iconst 4, 1) := by decide +kernel
theorem dX12_readAddress_217 : decode cX12_readAddress 217 = .ok (.if_icmp .ne 11, 3) := by decide +kernel
theorem dX12_readAddress_220 : decode cX12_readAddress 220 = .ok (.iload_n 2, 1) := by decide +kernel
theorem dX12_readAddress_221 : decode cX12_readAddress 221 = .ok (.ifCond .le 7, 3) := by decide +kernel
theorem dX12_readAddress_224 : decode cX12_readAddress 224 = .ok (.iconst 4, 1) := by decide +kernel
theorem dX12_readAddress_225 : decode cX12_readAddress 225 = .ok (.goto 5, 3) := by decide +kernel
theorem dX12_readAddress_228 : decode cX12_readAddress 228 = .ok (.bipush 6, 2) := by decide +kernel
theorem dX12_readAddress_230 : decode cX12_readAddress 230 = .ok (.putfield 316, 3) := by decide +kernel
theorem dX12_readAddress_233 : decode cX12_readAddress 233 = .ok (.return_, 1) := by decide +kernel
theorem dX12_readText_0 : decode cX12_readText 0 = .ok (.aload_n 0, 1) := by decide +kernel
theorem dX12_readText_1 : decode cX12_readText 1 = .ok (.dup, 1) := by decide +kernel
theorem dX12_readText_2 : decode cX12_readText 2 = .ok (.getfield 104, 3) := by decide +kernel
theorem dX12_readText_5 : decode cX12_readText 5 = .ok (.iconst 1, 1) := by decide +kernel
theorem dX12_readText_6 : decode cX12_readText 6 = .ok (.iadd, 1) := by decide +kernel
theorem dX12_readText_7 : decode cX12_readText 7 = .ok (.putfield 104, 3) := by decide +kernel
theorem dX12_readText_10 : decode cX12_readText 10 = .ok (.aload_n 0, 1) := by decide +kernel
theorem dX12_readText_11 : decode cX12_readText 11 = .ok (.aload_n 0, 1) := by decide +kernel
theorem dX12_readText_12 : decode cX12_readText 12 = .ok (.getfield 104, 3) := by decide +kernel
theorem dX12_readText_15 : decode cX12_readText 15 = .ok (.putfield 350, 3) := by decide +kernel
theorem dX12_readText_18 : decode cX12_readText 18 = .ok (.aload_n 0, 1) := by decide +kernel
theorem dX12_readText_19 : decode cX12_readText 19 = .ok (.aload_n 0, 1) := by decide +kernel
theorem dX12_readText_20 : decode cX12_readText 20 = .ok (.getfield 104, 3) := by decide +kernel
theorem dX12_readText_23 : decode cX12_readText 23 = .ok (.invokevirtual 107, 3) := by decide +kernel
theorem dX12_readText_26 : decode cX12_readText 26 = .ok (.bipush 32, 2) := by decide +kernel
theorem dX12_readText_28 : decode cX12_readText 28 = .ok (.if_icmp .lt 42, 3) := by decide +kernel
theorem dX12_readText_31 : decode cX12_readText 31 = .ok (.aload_n 0, 1) := by decide +kernel
theorem dX12_readText_32 : decode cX12_readText 32 = .ok (.aload_n 0, 1) := by decide +kernel
theorem dX12_readText_33 : decode cX12_readText 33 = .ok (.getfield 104, 3) := by decide +kernel
theorem dX12_readText_36 : decode cX12_readText 36 = .ok (.invokevirtual 107, 3) := by decide +kernel
theorem dX12_readText_39 : decode cX12_readText 39 = .ok (.bipush 127, 2) := by decide +kernel
theorem dX12_readText_41 : decode cX12_readText 41 = .ok (.if_icmp .ge 29, 3) := by decide +kernel
theorem dX12_readText_44 : decode cX12_readText 44 = .ok (.aload_n 0, 1) := by decide +kernel
theorem dX12_readText_45 : decode cX12_readText 45 = .ok (.aload_n 0, 1) := by decide +kernel
theorem dX12_readText_46 : decode cX12_readText 46 = .ok (.getfield 104, 3) := by decide +kernel
theorem dX12_readText_49 : decode cX12_readText 49 = .ok (.invokevirtual 107, 3) := by decide +kernel
theorem dX12_readText_52 : decode cX12_readText 52 = .ok (.bipush 34, 2) := by decide +kernel
theorem dX12_readText_54 : decode cX12_readText 54 = .ok (.if_icmp .eq 16, 3) := by decide +kernel
theorem dX12_readText_57 : decode cX12_readText 57 = .ok (.aload_n 0, 1) := by decide +kernel
theorem dX12_readText_58 : decode cX12_readText 58 = .ok (.dup, 1) := by decide +kernel
theorem dX12_readText_59 : decode cX12_readText 59 = .ok (.getfield 104, 3) := by decide +kernel
theorem dX12_readText_62 : decode cX12_readText 62 = .ok (.iconst 1, 1) := by decide +kernel
theorem dX12_readText_63 : decode cX12_readText 63 = .ok (.iadd, 1) := by decide +kernel
theorem dX12_readText_64 : decode cX12_readText 64 = .ok (.putfield 104, 3) := by decide +kernel
theorem dX12_readText_67 : decode cX12_readText 67 = .ok (.goto (-49), 3) := by decide +kernel
theorem dX12_readText_70 : decode cX12_readText 70 = .ok (.aload_n 0, 1) := by decide +kernel
theorem dX12_readText_71 : decode cX12_readText 71 = .ok (.aload_n 0, 1) := by decide +kernel
theorem dX12_readText_72 : decode cX12_readText 72 = .ok (.getfield 104, 3) := by decide +kernel
theorem dX12_readText_75 : decode cX12_readText 75 = .ok (.aload_n 0, 1) := by decide +kernel
theorem dX12_readText_76 : decode cX12_readText 76 = .ok (.getfield 350, 3) := by decide +kernel
theorem dX12_readText_79 : decode cX12_readText 79 = .ok (.isub, 1) := by decide +kernel
theorem dX12_readText_80 : decode cX12_readText 80 = .ok (.putfield 347, 3) := by decide +kernel
theorem dX12_readText_83 : decode cX12_readText 83 = .ok (.aload_n 0, 1) := by decide +kernel
theorem dX12_readText_84 : decode cX12_readText 84 = .ok (.aload_n 0, 1) := by decide +kernel
theorem dX12_readText_85 : decode cX12_readText 85 = .ok (.aload_n 0, 1) := by decide +kernel
theorem dX12_readText_86 : decode cX12_readText 86 = .ok (.getfield 104, 3) := by decide +kernel
theorem dX12_readText_89 : decode cX12_readText 89 = .ok (.invokevirtual 107, 3) := by decide +kernel
theorem dX12_readText_92 : decode cX12_readText 92 = .ok (.bipush 34, 2) := by decide +kernel
theorem dX12_readText_94 : decode cX12_readText 94 = .ok (.if_icmp .ne 16, 3) := by decide +kernel
theorem dX12_readText_97 : decode cX12_readText 97 = .ok (.aload_n 0, 1) := by decide +kernel
theorem dX12_readText_98 : decode cX12_readText 98 = .ok (.getfield 347, 3) := by decide +kernel
theorem dX12_readText_101 : decode cX12_readText 101 = .ok (.bipush 24, 2) := by decide +kernel
theorem dX12_readText_103 : decode cX12_readText 103 = .ok (.if_icmp .gt 7, 3) := by decide +kernel
theorem dX12_readText_106 : decode cX12_readText 106 = .ok (.iconst 3, 1) := by decide +kernel
theorem dX12_readText_107 : decode cX12_readText 107 = .ok (.goto 5, 3) := by decide +kernel
theorem dX12_readText_110 : decode cX12_readText 110 = .ok (.bipush 6, 2) := by decide +kernel
theorem dX12_readText_112 : decode cX12_readText 112 = .ok (.putfield 316, 3) := by decide +kernel
theorem dX12_readText_115 : decode cX12_readText 115 = .ok (.aload_n 0, 1) := by decide +kernel
theorem dX12_readText_116 : decode cX12_readText 116 = .ok (.dup, 1) := by decide +kernel
theorem dX12_readText_117 : decode cX12_readText 117 = .ok (.getfield 104, 3) := by decide +kernel
theorem dX12_readText_120 : decode cX12_readText 120 = .ok (.iconst 1, 1) := by decide +kernel
theorem dX12_readText_121 : decode cX12_readText 121 = .ok (.iadd, 1) := by decide +kernel
theorem dX12_readText_122 : decode cX12_readText 122 = .ok (.putfield 104, 3) := by decide +kernel
theorem dX12_readText_125 : decode cX12_readText 125 = .ok (.return_, 1) := by decide +kernel
theorem dX12_readSign_0 : decode cX12_readSign 0 = .ok (.aload_n 0, 1) := by decide +kernel
theorem dX12_readSign_1 : decode cX12_readSign 1 = .ok (.aload_n 0, 1) := by decide +kernel
theorem dX12_readSign_2 : decode cX12_readSign 2 = .ok (.getfield 104, 3) := by decide +kernel
theorem dX12_readSign_5 : decode cX12_readSign 5 = .ok (.iconst 1, 1) := by decide +kernel
theorem dX12_readSign_6 : decode cX12_readSign 6 = .ok (.iadd, 1) := by decide +kernel
theorem dX12_readSign_7 : decode cX12_readSign 7 = .ok (.invokevirtual 107, 3) := by decide +kernel
theorem dX12_readSign_10 : decode cX12_readSign 10 = .ok (.bipush 61, 2) := by decide +kernel
theorem dX12_readSign_12 : decode cX12_readSign 12 = .ok (.if_icmp .ne 25, 3) := by decide +kernel
theorem dX12_readSign_15 : decode cX12_readSign 15 = .ok (.iload_n 1, 1) := by decide +kernel
theorem dX12_readSign_16 : decode cX12_readSign 16 = .ok (.bipush 33, 2) := by decide +kernel
theorem dX12_readSign_18 : decode cX12_readSign 18 = .ok (.if_icmp .eq 15, 3) := by decide +kernel
theorem dX12_readSign_21 : decode cX12_readSign 21 = .ok (.iload_n 1, 1) := by decide +kernel
theorem dX12_readSign_22 : decode cX12_readSign 22 = .ok (.bipush 60, 2) := by decide +kernel
theorem dX12_readSign_24 : decode cX12_readSign 24 = .ok (.if_icmp .eq 9, 3) := by decide +kernel
theorem dX12_readSign_27 : decode cX12_readSign 27 = .ok (.iload_n 1, 1) := by decide +kernel
theorem dX12_readSign_28 : decode cX12_readSign 28 = .ok (.bipush 62, 2) := by decide +kernel
theorem dX12_readSign_30 : decode cX12_readSign 30 = .ok (.if_icmp .ne 7, 3) := by decide +kernel
theorem dX12_readSign_33 : decode cX12_readSign 33 = .ok (.iconst 1, 1) := by decide +kernel
theorem dX12_readSign_34 : decode cX12_readSign 34 = .ok (.goto 4, 3) := by decide +kernel
theorem dX12_readSign_37 : decode cX12_readSign 37 = .ok (.iconst 0, 1) := by decide +kernel
theorem dX12_readSign_38 : decode cX12_readSign 38 = .ok (.istore_n 2, 1) := by decide +kernel
theorem dX12_readSign_39 : decode cX12_readSign 39 = .ok (.iload_n 1, 1) := by decide +kernel
theorem dX12_readSign_40 : decode cX12_readSign 40 = .ok (.bipush 40, 2) := by decide +kernel
theorem dX12_readSign_42 : decode cX12_readSign 42 = .ok (.if_icmp .eq 45, 3) := by decide +kernel
theorem dX12_readSign_45 : decode cX12_readSign 45 = .ok (.iload_n 1, 1) := by decide +kernel
theorem dX12_readSign_46 : decode cX12_readSign 46 = .ok (.bipush 41, 2) := by decide +kernel
theorem dX12_readSign_48 : decode cX12_readSign 48 = .ok (.if_icmp .eq 39, 3) := by decide +kernel
theorem dX12_readSign_51 : decode cX12_readSign 51 = .ok (.iload_n 1, 1) := by decide +kernel
theorem dX12_readSign_52 : decode cX12_readSign 52 = .ok (.bipush 44, 2) := by decide +kernel
theorem dX12_readSign_54 : decode cX12_readSign 54 = .ok (.if_icmp .eq 33, 3) := by decide +kernel
theorem dX12_readSign_57 : decode cX12_readSign 57 = .ok (.iload_n 1, 1) := by decide +kernel
theorem dX12_readSign_58 : decode cX12_readSign 58 = .ok (.bipush 59, 2) := by decide +kernel
theorem dX12_readSign_60 : decode cX12_readSign 60 = .ok (.if_icmp .eq 27, 3) := by decide +kernel
theorem dX12_readSign_63 : decode cX12_readSign 63 = .ok (.iload_n 1, 1) := by decide +kernel
theorem dX12_readSign_64 : decode cX12_readSign 64 = .ok (.bipush 47, 2) := by decide +kernel
theorem dX12_readSign_66 : decode cX12_readSign 66 = .ok (.if_icmp .eq 21, 3) := by decide +kernel
theorem dX12_readSign_69 : decode cX12_readSign 69 = .ok (.iload_n 1, 1) := by decide +kernel
theorem dX12_readSign_70 : decode cX12_readSign 70 = .ok (.bipush 61, 2) := by decide +kernel
theorem dX12_readSign_72 : decode cX12_readSign 72 = .ok (.if_icmp .eq 15, 3) := by decide +kernel
theorem dX12_readSign_75 : decode cX12_readSign 75 = .ok (.iload_n 1, 1) := by decide +kernel
theorem dX12_readSign_76 : decode cX12_readSign 76 = .ok (.bipush 60, 2) := by decide +kernel
theorem dX12_readSign_78 : decode cX12_readSign 78 = .ok (.if_icmp .eq 9, 3) := by decide +kernel
theorem dX12_readSign_81 : decode cX12_readSign 81 = .ok (.iload_n 1, 1) := by decide +kernel
theorem dX12_readSign_82 : decode cX12_readSign 82 = .ok (.bipush 62, 2) := by decide +kernel
theorem dX12_readSign_84 : decode cX12_readSign 84 = .ok (.if_icmp .ne 7, 3) := by decide +kernel
theorem dX12_readSign_87 : decode cX12_readSign 87 = .ok (.iconst 1, 1) := by decide +kernel
theorem dX12_readSign_88 : decode cX12_readSign 88 = .ok (.goto 4, 3) := by decide +kernel
theorem dX12_readSign_91 : decode cX12_readSign 91 = .ok (.iconst 0, 1) := by decide +kernel
theorem dX12_readSign_92 : decode cX12_readSign 92 = .ok (.istore_n 3, 1) := by decide +kernel
theorem dX12_readSign_93 : decode cX12_readSign 93 = .ok (.aload_n 0, 1) := by decide +kernel
theorem dX12_readSign_94 : decode cX12_readSign 94 = .ok (.iload_n 2, 1) := by decide +kernel
theorem dX12_readSign_95 : decode cX12_readSign 95 = .ok (.ifCond .ne 7, 3) := by decide +kernel
theorem dX12_readSign_98 : decode cX12_readSign 98 = .ok (.iload_n 3, 1) := by decide +kernel
theorem dX12_readSign_99 : decode cX12_readSign 99 = .ok (.ifCond .eq 7, 3) := by decide +kernel
theorem dX12_readSign_102 : decode cX12_readSign 102 = .ok (.iconst 5, 1) := by decide +kernel
theorem dX12_readSign_103 : decode cX12_readSign 103 = .ok (.goto 5, 3) := by decide +kernel
theorem dX12_readSign_106 : decode cX12_readSign 106 = .ok (.bipush 6, 2) := by decide +kernel
theorem dX12_readSign_108 : decode cX12_readSign 108 = .ok (.putfield 316, 3) := by decide +kernel
theorem dX12_readSign_111 : decode cX12_readSign 111 = .ok (.aload_n 0, 1) := by decide +kernel
theorem dX12_readSign_112 : decode cX12_readSign 112 = .ok (.iload_n 2, 1) := by decide +kernel
theorem dX12_readSign_113 : decode cX12_readSign 113 = .ok (.ifCond .eq 11, 3) := by decide +kernel
theorem dX12_readSign_116 : decode cX12_readSign 116 = .ok (.sipush 256, 3) := by decide +kernel
theorem dX12_readSign_119 : decode cX12_readSign 119 = .ok (.iload_n 1, 1) := by decide +kernel
theorem dX12_readSign_120 : decode cX12_readSign 120 = .ok (.iadd, 1) := by decide +kernel
theorem dX12_readSign_121 : decode cX12_readSign 121 = .ok (.goto 4, 3) := by decide +kernel
theorem dX12_readSign_124 : decode cX12_readSign 124 = .ok (.iload_n 1, 1) := by decide +kernel
theorem dX12_readSign_125 : decode cX12_readSign 125 = .ok (.putfield 347, 3) := by decide +kernel
theorem dX12_readSign_128 : decode cX12_readSign 128 = .ok (.aload_n 0, 1) := by decide +kernel
theorem dX12_readSign_129 : decode cX12_readSign 129 = .ok (.dup, 1) := by decide +kernel
theorem dX12_readSign_130 : decode cX12_readSign 130 = .ok (.getfield 104, 3) := by decide +kernel
theorem dX12_readSign_133 : decode cX12_readSign 133 = .ok (.iload_n 2, 1) := by decide +kernel
theorem dX12_readSign_134 : decode cX12_readSign 134 = .ok (.ifCond .eq 7, 3) := by decide +kernel
theorem dX12_readSign_137 : decode cX12_readSign 137 = .ok (.iconst 2, 1) := by decide +kernel
theorem dX12_readSign_138 : decode cX12_readSign 138 = .ok (.goto 4, 3) := by decide +kernel
theorem dX12_readSign_141 : decode cX12_readSign 141 = .ok (.iconst 1, 1) := by decide +kernel
theorem dX12_readSign_142 : decode cX12_readSign 142 = .ok (.iadd, 1) := by decide +kernel
theorem dX12_readSign_143 : decode cX12_readSign 143 = .ok (.putfield 104, 3) := by decide +kernel
theorem dX12_readSign_146 : decode cX12_readSign 146 = .ok (.return_, 1) := by decide +kernel
theorem dX12_cant_0 : decode cX12_cant 0 = .ok (.aload_n 0, 1) := by decide +kernel
theorem dX12_cant_1 : decode cX12_cant 1 = .ok (.aload_n 0, 1) := by decide +kernel
theorem dX12_cant_2 : decode cX12_cant 2 = .ok (.getfield 316, 3) := by decide +kernel
theorem dX12_cant_5 : decode cX12_cant 5 = .ok (.bipush 6, 2) := by decide +kernel
theorem dX12_cant_7 : decode cX12_cant 7 = .ok (.if_icmp .ne 7, 3) := by decide +kernel
theorem dX12_cant_10 : decode cX12_cant 10 = .ok (.iconst 1, 1) := by decide +kernel
theorem dX12_cant_11 : decode cX12_cant 11 = .ok (.goto 4, 3) := by decide +kernel
theorem dX12_cant_14 : decode cX12_cant 14 = .ok (.iconst 2, 1) := by decide +kernel
theorem dX12_cant_15 : decode cX12_cant 15 = .ok (.aload_n 0, 1) := by decide +kernel
theorem dX12_cant_16 : decode cX12_cant 16 = .ok (.getfield 316, 3) := by decide +kernel
theorem dX12_cant_19 : decode cX12_cant 19 = .ok (.bipush 6, 2) := by decide +kernel
theorem dX12_cant_21 : decode cX12_cant 21 = .ok (.if_icmp .ne 19, 3) := by decide +kernel
theorem dX12_cant_24 : decode cX12_cant 24 = .ok (.aload_n 0, 1) := by decide +kernel
theorem dX12_cant_25 : decode cX12_cant 25 = .ok (.getfield 313, 3) := by decide +kernel
theorem dX12_cant_28 : decode cX12_cant 28 = .ok (.sipush 2000, 3) := by decide +kernel
theorem dX12_cant_31 : decode cX12_cant 31 = .ok (.if_icmp .le 9, 3) := by decide +kernel
theorem dX12_cant_34 : decode cX12_cant 34 = .ok (.sipush 2000, 3) := by decide +kernel
theorem dX12_cant_37 : decode cX12_cant 37 = .ok (.goto 7, 3) := by decide +kernel
theorem dX12_cant_40 : decode cX12_cant 40 = .ok (.aload_n 0, 1) := by decide +kernel
theorem dX12_cant_41 : decode cX12_cant 41 = .ok (.getfield 313, 3) := by decide +kernel
theorem dX12_cant_44 : decode cX12_cant 44 = .ok (.invokevirtual 111, 3) := by decide +kernel
theorem dX12_cant_47 : decode cX12_cant 47 = .ok (.ireturn, 1) := by decide +kernel
theorem dX12_isWord_0 : decode cX12_isWord 0 = .ok (.aload_n 0, 1) := by decide +kernel
theorem dX12_isWord_1 : decode cX12_isWord 1 = .ok (.getfield 316, 3) := by decide +kernel
theorem dX12_isWord_4 : decode cX12_isWord 4 = .ok (.iconst 1, 1) := by decide +kernel
theorem dX12_isWord_5 : decode cX12_isWord 5 = .ok (.if_icmp .ne 21, 3) := by decide +kernel
theorem dX12_isWord_8 : decode cX12_isWord 8 = .ok (.aload_n 0, 1) := by decide +kernel
theorem dX12_isWord_9 : decode cX12_isWord 9 = .ok (.getfield 337, 3) := by decide +kernel
theorem dX12_isWord_12 : decode cX12_isWord 12 = .ok (.aload_n 0, 1) := by decide +kernel
theorem dX12_isWord_13 : decode cX12_isWord 13 = .ok (.getfield 253, 3) := by decide +kernel
theorem dX12_isWord_16 : decode cX12_isWord 16 = .ok (.iload_n 1, 1) := by decide +kernel
theorem dX12_isWord_17 : decode cX12_isWord 17 = .ok (.laload, 1) := by decide +kernel
theorem dX12_isWord_18 : decode cX12_isWord 18 = .ok (.lcmp, 1) := by decide +kernel
theorem dX12_isWord_19 : decode cX12_isWord 19 = .ok (.ifCond .ne 7, 3) := by decide +kernel
theorem dX12_isWord_22 : decode cX12_isWord 22 = .ok (.iconst 1, 1) := by decide +kernel
theorem dX12_isWord_23 : decode cX12_isWord 23 = .ok (.goto 4, 3) := by decide +kernel
theorem dX12_isWord_26 : decode cX12_isWord 26 = .ok (.iconst 0, 1) := by decide +kernel
theorem dX12_isWord_27 : decode cX12_isWord 27 = .ok (.ireturn, 1) := by decide +kernel
theorem dX12_isSign_0 : decode cX12_isSign 0 = .ok (.aload_n 0, 1) := by decide +kernel
theorem dX12_isSign_1 : decode cX12_isSign 1 = .ok (.getfield 316, 3) := by decide +kernel
theorem dX12_isSign_4 : decode cX12_isSign 4 = .ok (.iconst 5, 1) := by decide +kernel
theorem dX12_isSign_5 : decode cX12_isSign 5 = .ok (.if_icmp .ne 15, 3) := by decide +kernel
theorem dX12_isSign_8 : decode cX12_isSign 8 = .ok (.aload_n 0, 1) := by decide +kernel
theorem dX12_isSign_9 : decode cX12_isSign 9 = .ok (.getfield 347, 3) := by decide +kernel
theorem dX12_isSign_12 : decode cX12_isSign 12 = .ok (.iload_n 1, 1) := by decide +kernel
theorem dX12_isSign_13 : decode cX12_isSign 13 = .ok (.if_icmp .ne 7, 3) := by decide +kernel
theorem dX12_isSign_16 : decode cX12_isSign 16 = .ok (.iconst 1, 1) := by decide +kernel
theorem dX12_isSign_17 : decode cX12_isSign 17 = .ok (.goto 4, 3) := by decide +kernel
theorem dX12_isSign_20 : decode cX12_isSign 20 = .ok (.iconst 0, 1) := by decide +kernel
theorem dX12_isSign_21 : decode cX12_isSign 21 = .ok (.ireturn, 1) := by decide +kernel
theorem dX12_must_0 : decode cX12_must 0 = .ok (.aload_n 0, 1) := by decide +kernel
theorem dX12_must_1 : decode cX12_must 1 = .ok (.iload_n 1, 1) := by decide +kernel
theorem dX12_must_2 : decode cX12_must 2 = .ok (.invokevirtual 353, 3) := by decide +kernel
theorem dX12_must_5 : decode cX12_must 5 = .ok (.ifCond .ne 8, 3) := by decide +kernel
theorem dX12_must_8 : decode cX12_must 8 = .ok (.aload_n 0, 1) := by decide +kernel
theorem dX12_must_9 : decode cX12_must 9 = .ok (.invokevirtual 356, 3) := by decide +kernel
theorem dX12_must_12 : decode cX12_must 12 = .ok (.ireturn, 1) := by decide +kernel
theorem dX12_must_13 : decode cX12_must 13 = .ok (.aload_n 0, 1) := by decide +kernel
theorem dX12_must_14 : decode cX12_must 14 = .ok (.invokevirtual 359, 3) := by decide +kernel
theorem dX12_must_17 : decode cX12_must 17 = .ok (.iconst 1, 1) := by decide +kernel
theorem dX12_must_18 : decode cX12_must 18 = .ok (.ireturn, 1) := by decide +kernel
theorem dX12_mustSign_0 : decode cX12_mustSign 0 = .ok (.aload_n 0, 1) := by decide +kernel
theorem dX12_mustSign_1 : decode cX12_mustSign 1 = .ok (.iload_n 1, 1) := by decide +kernel
theorem dX12_mustSign_2 : decode cX12_mustSign 2 = .ok (.invokevirtual 362, 3) := by decide +kernel
theorem dX12_mustSign_5 : decode cX12_mustSign 5 = .ok (.ifCond .ne 8, 3) := by decide +kernel
theorem dX12_mustSign_8 : decode cX12_mustSign 8 = .ok (.aload_n 0, 1) := by decide +kernel
theorem dX12_mustSign_9 : decode cX12_mustSign 9 = .ok (.invokevirtual 356, 3) := by decide +kernel
theorem dX12_mustSign_12 : decode cX12_mustSign 12 = .ok (.ireturn, 1) := by decide +kernel
theorem dX12_mustSign_13 : decode cX12_mustSign 13 = .ok (.aload_n 0, 1) := by decide +kernel
theorem dX12_mustSign_14 : decode cX12_mustSign 14 = .ok (.invokevirtual 359, 3) := by decide +kernel
theorem dX12_mustSign_17 : decode cX12_mustSign 17 = .ok (.iconst 1, 1) := by decide +kernel
theorem dX12_mustSign_18 : decode cX12_mustSign 18 = .ok (.ireturn, 1) := by decide +kernel
theorem dX12_isName_0 : decode cX12_isName 0 = .ok (.aload_n 0, 1) := by decide +kernel
theorem dX12_isName_1 : decode cX12_isName 1 = .ok (.getfield 316, 3) := by decide +kernel
theorem dX12_isName_4 : decode cX12_isName 4 = .ok (.iconst 1, 1) := by decide +kernel
theorem dX12_isName_5 : decode cX12_isName 5 = .ok (.if_icmp .eq 5, 3) := by decide +kernel
theorem dX12_isName_8 : decode cX12_isName 8 = .ok (.iconst 0, 1) := by decide +kernel
theorem dX12_isName_9 : decode cX12_isName 9 = .ok (.ireturn, 1) := by decide +kernel
theorem dX12_isName_10 : decode cX12_isName 10 = .ok (.iconst 0, 1) := by decide +kernel
theorem dX12_isName_11 : decode cX12_isName 11 = .ok (.istore_n 1, 1) := by decide +kernel
theorem dX12_isName_12 : decode cX12_isName 12 = .ok (.iload_n 1, 1) := by decide +kernel
theorem dX12_isName_13 : decode cX12_isName 13 = .ok (.bipush 20, 2) := by decide +kernel
theorem dX12_isName_15 : decode cX12_isName 15 = .ok (.if_icmp .ge 25, 3) := by decide +kernel
theorem dX12_isName_18 : decode cX12_isName 18 = .ok (.aload_n 0, 1) := by decide +kernel
theorem dX12_isName_19 : decode cX12_isName 19 = .ok (.getfield 253, 3) := by decide +kernel
theorem dX12_isName_22 : decode cX12_isName 22 = .ok (.iload_n 1, 1) := by decide +kernel
theorem dX12_isName_23 : decode cX12_isName 23 = .ok (.laload, 1) := by decide +kernel
theorem dX12_isName_24 : decode cX12_isName 24 = .ok (.aload_n 0, 1) := by decide +kernel
theorem dX12_isName_25 : decode cX12_isName 25 = .ok (.getfield 337, 3) := by decide +kernel
theorem dX12_isName_28 : decode cX12_isName 28 = .ok (.lcmp, 1) := by decide +kernel
theorem dX12_isName_29 : decode cX12_isName 29 = .ok (.ifCond .ne 5, 3) := by decide +kernel
theorem dX12_isName_32 : decode cX12_isName 32 = .ok (.iconst 0, 1) := by decide +kernel
theorem dX12_isName_33 : decode cX12_isName 33 = .ok (.ireturn, 1) := by decide +kernel
theorem dX12_isName_34 : decode cX12_isName 34 = .ok (.iinc 1 1, 3) := by decide +kernel
theorem dX12_isName_37 : decode cX12_isName 37 = .ok (.goto (-25), 3) := by decide +kernel
theorem dX12_isName_40 : decode cX12_isName 40 = .ok (.iconst 1, 1) := by decide +kernel
theorem dX12_isName_41 : decode cX12_isName 41 = .ok (.ireturn, 1) := by decide +kernel
theorem dX12_mustNumber_0 : decode cX12_mustNumber 0 = .ok (.aload_n 0, 1) := by decide +kernel
theorem dX12_mustNumber_1 : decode cX12_mustNumber 1 = .ok (.getfield 316, 3) := by decide +kernel
theorem dX12_mustNumber_4 : decode cX12_mustNumber 4 = .ok (.iconst 2, 1) := by decide +kernel
theorem dX12_mustNumber_5 : decode cX12_mustNumber 5 = .ok (.if_icmp .eq 8, 3) := by decide +kernel
theorem dX12_mustNumber_8 : decode cX12_mustNumber 8 = .ok (.aload_n 0, 1) := by decide +kernel
theorem dX12_mustNumber_9 : decode cX12_mustNumber 9 = .ok (.invokevirtual 356, 3) := by decide +kernel
theorem dX12_mustNumber_12 : decode cX12_mustNumber 12 = .ok (.ireturn, 1) := by decide +kernel
theorem dX12_mustNumber_13 : decode cX12_mustNumber 13 = .ok (.aload_n 0, 1) := by decide +kernel
theorem dX12_mustNumber_14 : decode cX12_mustNumber 14 = .ok (.getfield 347, 3) := by decide +kernel
theorem dX12_mustNumber_17 : decode cX12_mustNumber 17 = .ok (.iload_n 1, 1) := by decide +kernel
theorem dX12_mustNumber_18 : decode cX12_mustNumber 18 = .ok (.if_icmp .lt 11, 3) := by decide +kernel
theorem dX12_mustNumber_21 : decode cX12_mustNumber 21 = .ok (.aload_n 0, 1) := by decide +kernel
theorem dX12_mustNumber_22 : decode cX12_mustNumber 22 = .ok (.getfield 347, 3) := by decide +kernel
theorem dX12_mustNumber_25 : decode cX12_mustNumber 25 = .ok (.iload_n 2, 1) := by decide +kernel
theorem dX12_mustNumber_26 : decode cX12_mustNumber 26 = .ok (.if_icmp .le 13, 3) := by decide +kernel
theorem dX12_mustNumber_29 : decode cX12_mustNumber 29 = .ok (.aload_n 0, 1) := by decide +kernel
theorem dX12_mustNumber_30 : decode cX12_mustNumber 30 = .ok (.iconst 3, 1) := by decide +kernel
theorem dX12_mustNumber_31 : decode cX12_mustNumber 31 = .ok (.aload_n 0, 1) := by decide +kernel
theorem dX12_mustNumber_32 : decode cX12_mustNumber 32 = .ok (.getfield 313, 3) := by decide +kernel
theorem dX12_mustNumber_35 : decode cX12_mustNumber 35 = .ok (.invokevirtual 111, 3) := by decide +kernel
theorem dX12_mustNumber_38 : decode cX12_mustNumber 38 = .ok (.ireturn, 1) := by decide +kernel
theorem dX12_mustNumber_39 : decode cX12_mustNumber 39 = .ok (.aload_n 0, 1) := by decide +kernel
theorem dX12_mustNumber_40 : decode cX12_mustNumber 40 = .ok (.aload_n 0, 1) := by decide +kernel
theorem dX12_mustNumber_41 : decode cX12_mustNumber 41 = .ok (.getfield 347, 3) := by decide +kernel
theorem dX12_mustNumber_44 : decode cX12_mustNumber 44 = .ok (.putfield 365, 3) := by decide +kernel
theorem dX12_mustNumber_47 : decode cX12_mustNumber 47 = .ok (.aload_n 0, 1) := by decide +kernel
theorem dX12_mustNumber_48 : decode cX12_mustNumber 48 = .ok (.invokevirtual 359, 3) := by decide +kernel
theorem dX12_mustNumber_51 : decode cX12_mustNumber 51 = .ok (.iconst 1, 1) := by decide +kernel
theorem dX12_mustNumber_52 : decode cX12_mustNumber 52 = .ok (.ireturn, 1) := by decide +kernel
theorem dX12_rules_0 : decode cX12_rules 0 = .ok (.aload_n 0, 1) := by decide +kernel
theorem dX12_rules_1 : decode cX12_rules 1 = .ok (.iconst 0, 1) := by decide +kernel
theorem dX12_rules_2 : decode cX12_rules 2 = .ok (.putfield 3, 3) := by decide +kernel
theorem dX12_rules_5 : decode cX12_rules 5 = .ok (.aload_n 0, 1) := by decide +kernel
theorem dX12_rules_6 : decode cX12_rules 6 = .ok (.aload_n 0, 1) := by decide +kernel
theorem dX12_rules_7 : decode cX12_rules 7 = .ok (.getfield 7, 3) := by decide +kernel
theorem dX12_rules_10 : decode cX12_rules 10 = .ok (.putfield 24, 3) := by decide +kernel
theorem dX12_rules_13 : decode cX12_rules 13 = .ok (.aload_n 0, 1) := by decide +kernel
theorem dX12_rules_14 : decode cX12_rules 14 = .ok (.iconst 0, 1) := by decide +kernel
theorem dX12_rules_15 : decode cX12_rules 15 = .ok (.putfield 7, 3) := by decide +kernel
theorem dX12_rules_18 : decode cX12_rules 18 = .ok (.aload_n 0, 1) := by decide +kernel
theorem dX12_rules_19 : decode cX12_rules 19 = .ok (.iconst 0, 1) := by decide +kernel
theorem dX12_rules_20 : decode cX12_rules 20 = .ok (.putfield 104, 3) := by decide +kernel
theorem dX12_rules_23 : decode cX12_rules 23 = .ok (.aload_n 0, 1) := by decide +kernel
theorem dX12_rules_24 : decode cX12_rules 24 = .ok (.iconst 0, 1) := by decide +kernel
theorem dX12_rules_25 : decode cX12_rules 25 = .ok (.putfield 18, 3) := by decide +kernel
theorem dX12_rules_28 : decode cX12_rules 28 = .ok (.aload_n 0, 1) := by decide +kernel
theorem dX12_rules_29 : decode cX12_rules 29 = .ok (.iconst (-1), 1) := by decide +kernel
theorem dX12_rules_30 : decode cX12_rules 30 = .ok (.putfield 161, 3) := by decide +kernel
theorem dX12_rules_33 : decode cX12_rules 33 = .ok (.aload_n 0, 1) := by decide +kernel
theorem dX12_rules_34 : decode cX12_rules 34 = .ok (.iconst 1, 1) := by decide +kernel
theorem dX12_rules_35 : decode cX12_rules 35 = .ok (.aload_n 0, 1) := by decide +kernel
theorem dX12_rules_36 : decode cX12_rules 36 = .ok (.getfield 368, 3) := by decide +kernel
theorem dX12_rules_39 : decode cX12_rules 39 = .ok (.isub, 1) := by decide +kernel
theorem dX12_rules_40 : decode cX12_rules 40 = .ok (.putfield 368, 3) := by decide +kernel
theorem dX12_rules_43 : decode cX12_rules 43 = .ok (.aload_n 0, 1) := by decide +kernel
theorem dX12_rules_44 : decode cX12_rules 44 = .ok (.iconst 0, 1) := by decide +kernel
theorem dX12_rules_45 : decode cX12_rules 45 = .ok (.putfield 371, 3) := by decide +kernel
theorem dX12_rules_48 : decode cX12_rules 48 = .ok (.aload_n 0, 1) := by decide +kernel
theorem dX12_rules_49 : decode cX12_rules 49 = .ok (.sipush 1100, 3) := by decide +kernel
theorem dX12_rules_52 : decode cX12_rules 52 = .ok (.aload_n 0, 1) := by decide +kernel
theorem dX12_rules_53 : decode cX12_rules 53 = .ok (.getfield 368, 3) := by decide +kernel
theorem dX12_rules_56 : decode cX12_rules 56 = .ok (.imul, 1) := by decide +kernel
theorem dX12_rules_57 : decode cX12_rules 57 = .ok (.putfield 374, 3) := by decide +kernel
theorem dX12_rules_60 : decode cX12_rules 60 = .ok (.iconst 0, 1) := by decide +kernel
theorem dX12_rules_61 : decode cX12_rules 61 = .ok (.istore_n 1, 1) := by decide +kernel
theorem dX12_rules_62 : decode cX12_rules 62 = .ok (.iload_n 1, 1) := by decide +kernel
theorem dX12_rules_63 : decode cX12_rules 63 = .ok (.aload_n 0, 1) := by decide +kernel
theorem dX12_rules_64 : decode cX12_rules 64 = .ok (.getfield 24, 3) := by decide +kernel
theorem dX12_rules_67 : decode cX12_rules 67 = .ok (.if_icmp .ge 30, 3) := by decide +kernel
theorem dX12_rules_70 : decode cX12_rules 70 = .ok (.aload_n 0, 1) := by decide +kernel
theorem dX12_rules_71 : decode cX12_rules 71 = .ok (.getfield 232, 3) := by decide +kernel
theorem dX12_rules_74 : decode cX12_rules 74 = .ok (.sipush 2120, 3) := by decide +kernel
theorem dX12_rules_77 : decode cX12_rules 77 = .ok (.aload_n 0, 1) := by decide +kernel
theorem dX12_rules_78 : decode cX12_rules 78 = .ok (.getfield 368, 3) := by decide +kernel
theorem dX12_rules_81 : decode cX12_rules 81 = .ok (.imul, 1) := by decide +kernel
theorem dX12_rules_82 : decode cX12_rules 82 = .ok (.iload_n 1, 1) := by decide +kernel
theorem dX12_rules_83 : decode cX12_rules 83 = .ok (.iadd, 1) := by decide +kernel
theorem dX12_rules_84 : decode cX12_rules 84 = .ok (.aload_n 0, 1) := by decide +kernel
theorem dX12_rules_85 : decode cX12_rules 85 = .ok (.getfield 14, 3) := by decide +kernel
theorem dX12_rules_88 : decode cX12_rules 88 = .ok (.iload_n 1, 1) := by decide +kernel
theorem dX12_rules_89 : decode cX12_rules 89 = .ok (.baload, 1) := by decide +kernel
theorem dX12_rules_90 : decode cX12_rules 90 = .ok (.bastore, 1) := by decide +kernel
theorem dX12_rules_91 : decode cX12_rules 91 = .ok (.iinc 1 1, 3) := by decide +kernel
theorem dX12_rules_94 : decode cX12_rules 94 = .ok (.goto (-32), 3) := by decide +kernel
theorem dX12_rules_97 : decode cX12_rules 97 = .ok (.aload_n 0, 1) := by decide +kernel
theorem dX12_rules_98 : decode cX12_rules 98 = .ok (.invokevirtual 359, 3) := by decide +kernel
theorem dX12_rules_101 : decode cX12_rules 101 = .ok (.aload_n 0, 1) := by decide +kernel
theorem dX12_rules_102 : decode cX12_rules 102 = .ok (.invokevirtual 377, 3) := by decide +kernel
theorem dX12_rules_105 : decode cX12_rules 105 = .ok (.ifCond .ne 20, 3) := by decide +kernel
theorem dX12_rules_108 : decode cX12_rules 108 = .ok (.aload_n 0, 1) := by decide +kernel
theorem dX12_rules_109 : decode cX12_rules 109 = .ok (.iconst 1, 1) := by decide +kernel
theorem dX12_rules_110 : decode cX12_rules 110 = .ok (.aload_n 0, 1) := by decide +kernel
theorem dX12_rules_111 : decode cX12_rules 111 = .ok (.getfield 368, 3) := by decide +kernel
theorem dX12_rules_114 : decode cX12_rules 114 = .ok (.isub, 1) := by decide +kernel
theorem dX12_rules_115 : decode cX12_rules 115 = .ok (.putfield 368, 3) := by decide +kernel
theorem dX12_rules_118 : decode cX12_rules 118 = .ok (.iconst (-1), 1) := by decide +kernel
theorem dX12_rules_119 : decode cX12_rules 119 = .ok (.aload_n 0, 1) := by decide +kernel
theorem dX12_rules_120 : decode cX12_rules 120 = .ok (.getfield 21, 3) := by decide +kernel
theorem dX12_rules_123 : decode cX12_rules 123 = .ok (.isub, 1) := by decide +kernel
theorem dX12_rules_124 : decode cX12_rules 124 = .ok (.ireturn, 1) := by decide +kernel
theorem dX12_rules_125 : decode cX12_rules 125 = .ok (.aload_n 0, 1) := by decide +kernel
theorem dX12_rules_126 : decode cX12_rules 126 = .ok (.aload_n 0, 1) := by decide +kernel
theorem dX12_rules_127 : decode cX12_rules 127 = .ok (.getfield 371, 3) := by decide +kernel
theorem dX12_rules_130 : decode cX12_rules 130 = .ok (.putfield 380, 3) := by decide +kernel
theorem dX12_rules_133 : decode cX12_rules 133 = .ok (.aload_n 0, 1) := by decide +kernel
theorem dX12_rules_134 : decode cX12_rules 134 = .ok (.invokevirtual 310, 3) := by decide +kernel
theorem dX12_rules_137 : decode cX12_rules 137 = .ok (.aload_n 0, 1) := by decide +kernel
theorem dX12_rules_138 : decode cX12_rules 138 = .ok (.getfield 380, 3) := by decide +kernel
theorem dX12_rules_141 : decode cX12_rules 141 = .ok (.ireturn, 1) := by decide +kernel
theorem dX12_text_0 : decode cX12_text 0 = .ok (.aload_n 0, 1) := by decide +kernel
theorem dX12_text_1 : decode cX12_text 1 = .ok (.getfield 316, 3) := by decide +kernel
theorem dX12_text_4 : decode cX12_text 4 = .ok (.ifCond .eq 12, 3) := by decide +kernel
theorem dX12_text_7 : decode cX12_text 7 = .ok (.aload_n 0, 1) := by decide +kernel
theorem dX12_text_8 : decode cX12_text 8 = .ok (.invokevirtual 383, 3) := by decide +kernel
theorem dX12_text_11 : decode cX12_text 11 = .ok (.ifCond .ne (-11), 3) := by decide +kernel
theorem dX12_text_14 : decode cX12_text 14 = .ok (.iconst 0, 1) := by decide +kernel
theorem dX12_text_15 : decode cX12_text 15 = .ok (.ireturn, 1) := by decide +kernel
theorem dX12_text_16 : decode cX12_text 16 = .ok (.aload_n 0, 1) := by decide +kernel
theorem dX12_text_17 : decode cX12_text 17 = .ok (.getfield 24, 3) := by decide +kernel
theorem dX12_text_20 : decode cX12_text 20 = .ok (.sipush 2000, 3) := by decide +kernel
theorem dX12_text_23 : decode cX12_text 23 = .ok (.if_icmp .le 14, 3) := by decide +kernel
theorem dX12_text_26 : decode cX12_text 26 = .ok (.aload_n 0, 1) := by decide +kernel
theorem dX12_text_27 : decode cX12_text 27 = .ok (.iconst 1, 1) := by decide +kernel
theorem dX12_text_28 : decode cX12_text 28 = .ok (.sipush 2000, 3) := by decide +kernel
theorem dX12_text_31 : decode cX12_text 31 = .ok (.invokevirtual 111, 3) := by decide +kernel
theorem dX12_text_34 : decode cX12_text 34 = .ok (.ifCond .eq 7, 3) := by decide +kernel
theorem dX12_text_37 : decode cX12_text 37 = .ok (.iconst 1, 1) := by decide +kernel
theorem dX12_text_38 : decode cX12_text 38 = .ok (.goto 4, 3) := by decide +kernel
theorem dX12_text_41 : decode cX12_text 41 = .ok (.iconst 0, 1) := by decide +kernel
theorem dX12_text_42 : decode cX12_text 42 = .ok (.ireturn, 1) := by decide +kernel
theorem dX12_rule_0 : decode cX12_rule 0 = .ok (.aload_n 0, 1) := by decide +kernel
theorem dX12_rule_1 : decode cX12_rule 1 = .ok (.iconst 0, 1) := by decide +kernel
theorem dX12_rule_2 : decode cX12_rule 2 = .ok (.invokevirtual 353, 3) := by decide +kernel
theorem dX12_rule_5 : decode cX12_rule 5 = .ok (.ifCond .ne 8, 3) := by decide +kernel
theorem dX12_rule_8 : decode cX12_rule 8 = .ok (.aload_n 0, 1) := by decide +kernel
theorem dX12_rule_9 : decode cX12_rule 9 = .ok (.invokevirtual 356, 3) := by decide +kernel
theorem dX12_rule_12 : decode cX12_rule 12 = .ok (.ireturn, 1) := by decide +kernel
theorem dX12_rule_13 : decode cX12_rule 13 = .ok (.aload_n 0, 1) := by decide +kernel
theorem dX12_rule_14 : decode cX12_rule 14 = .ok (.getfield 371, 3) := by decide +kernel
theorem dX12_rule_17 : decode cX12_rule 17 = .ok (.bipush 12, 2) := by decide +kernel
theorem dX12_rule_19 : decode cX12_rule 19 = .ok (.if_icmp .ne 13, 3) := by decide +kernel
theorem dX12_rule_22 : decode cX12_rule 22 = .ok (.aload_n 0, 1) := by decide +kernel
theorem dX12_rule_23 : decode cX12_rule 23 = .ok (.iconst 4, 1) := by decide +kernel
theorem dX12_rule_24 : decode cX12_rule 24 = .ok (.aload_n 0, 1) := by decide +kernel
theorem dX12_rule_25 : decode cX12_rule 25 = .ok (.getfield 313, 3) := by decide +kernel
theorem dX12_rule_28 : decode cX12_rule 28 = .ok (.invokevirtual 111, 3) := by decide +kernel
theorem dX12_rule_31 : decode cX12_rule 31 = .ok (.ireturn, 1) := by decide +kernel
theorem dX12_rule_32 : decode cX12_rule 32 = .ok (.aload_n 0, 1) := by decide +kernel
theorem dX12_rule_33 : decode cX12_rule 33 = .ok (.invokevirtual 359, 3) := by decide +kernel
theorem dX12_rule_36 : decode cX12_rule 36 = .ok (.bipush 12, 2) := by decide +kernel
theorem dX12_rule_38 : decode cX12_rule 38 = .ok (.aload_n 0, 1) := by decide +kernel
theorem dX12_rule_39 : decode cX12_rule 39 = .ok (.getfield 368, 3) := by decide +kernel
theorem dX12_rule_42 : decode cX12_rule 42 = .ok (.imul, 1) := by decide +kernel
theorem dX12_rule_43 : decode cX12_rule 43 = .ok (.aload_n 0, 1) := by decide +kernel
theorem dX12_rule_44 : decode cX12_rule 44 = .ok (.getfield 371, 3) := by decide +kernel
theorem dX12_rule_47 : decode cX12_rule 47 = .ok (.iadd, 1) := by decide +kernel
theorem dX12_rule_48 : decode cX12_rule 48 = .ok (.istore_n 1, 1) := by decide +kernel
theorem dX12_rule_49 : decode cX12_rule 49 = .ok (.aload_n 0, 1) := by decide +kernel
theorem dX12_rule_50 : decode cX12_rule 50 = .ok (.invokevirtual 386, 3) := by decide +kernel
theorem dX12_rule_53 : decode cX12_rule 53 = .ok (.ifCond .ne 8, 3) := by decide +kernel
theorem dX12_rule_56 : decode cX12_rule 56 = .ok (.aload_n 0, 1) := by decide +kernel
theorem dX12_rule_57 : decode cX12_rule 57 = .ok (.invokevirtual 356, 3) := by decide +kernel
theorem dX12_rule_60 : decode cX12_rule 60 = .ok (.ireturn, 1) := by decide +kernel
theorem dX12_rule_61 : decode cX12_rule 61 = .ok (.iconst 0, 1) := by decide +kernel
theorem dX12_rule_62 : decode cX12_rule 62 = .ok (.istore_n 2, 1) := by decide +kernel
theorem dX12_rule_63 : decode cX12_rule 63 = .ok (.iload_n 2, 1) := by decide +kernel
theorem dX12_rule_64 : decode cX12_rule 64 = .ok (.aload_n 0, 1) := by decide +kernel
theorem dX12_rule_65 : decode cX12_rule 65 = .ok (.getfield 371, 3) := by decide +kernel
theorem dX12_rule_68 : decode cX12_rule 68 = .ok (.if_icmp .ge 41, 3) := by decide +kernel
theorem dX12_rule_71 : decode cX12_rule 71 = .ok (.aload_n 0, 1) := by decide +kernel
theorem dX12_rule_72 : decode cX12_rule 72 = .ok (.getfield 199, 3) := by decide +kernel
theorem dX12_rule_75 : decode cX12_rule 75 = .ok (.bipush 12, 2) := by decide +kernel
theorem dX12_rule_77 : decode cX12_rule 77 = .ok (.aload_n 0, 1) := by decide +kernel
theorem dX12_rule_78 : decode cX12_rule 78 = .ok (.getfield 368, 3) := by decide +kernel
theorem dX12_rule_81 : decode cX12_rule 81 = .ok (.imul, 1) := by decide +kernel
theorem dX12_rule_82 : decode cX12_rule 82 = .ok (.iload_n 2, 1) := by decide +kernel
theorem dX12_rule_83 : decode cX12_rule 83 = .ok (.iadd, 1) := by decide +kernel
theorem dX12_rule_84 : decode cX12_rule 84 = .ok (.laload, 1) := by decide +kernel
theorem dX12_rule_85 : decode cX12_rule 85 = .ok (.aload_n 0, 1) := by decide +kernel
theorem dX12_rule_86 : decode cX12_rule 86 = .ok (.getfield 337, 3) := by decide +kernel
theorem dX12_rule_89 : decode cX12_rule 89 = .ok (.lcmp, 1) := by decide +kernel
theorem dX12_rule_90 : decode cX12_rule 90 = .ok (.ifCond .ne 13, 3) := by decide +kernel
theorem dX12_rule_93 : decode cX12_rule 93 = .ok (.aload_n 0, 1) := by decide +kernel
theorem dX12_rule_94 : decode cX12_rule 94 = .ok (.iconst 5, 1) := by decide +kernel
theorem dX12_rule_95 : decode cX12_rule 95 = .ok (.aload_n 0, 1) := by decide +kernel
theorem dX12_rule_96 : decode cX12_rule 96 = .ok (.getfield 313, 3) := by decide +kernel
theorem dX12_rule_99 : decode cX12_rule 99 = .ok (.invokevirtual 111, 3) := by decide +kernel
theorem dX12_rule_102 : decode cX12_rule 102 = .ok (.ireturn, 1) := by decide +kernel
theorem dX12_rule_103 : decode cX12_rule 103 = .ok (.iinc 2 1, 3) := by decide +kernel
theorem dX12_rule_106 : decode cX12_rule 106 = .ok (.goto (-43), 3) := by decide +kernel
theorem dX12_rule_109 : decode cX12_rule 109 = .ok (.aload_n 0, 1) := by decide +kernel
theorem dX12_rule_110 : decode cX12_rule 110 = .ok (.getfield 199, 3) := by decide +kernel
theorem dX12_rule_113 : decode cX12_rule 113 = .ok (.iload_n 1, 1) := by decide +kernel
theorem dX12_rule_114 : decode cX12_rule 114 = .ok (.aload_n 0, 1) := by decide +kernel
theorem dX12_rule_115 : decode cX12_rule 115 = .ok (.getfield 337, 3) := by decide +kernel
theorem dX12_rule_118 : decode cX12_rule 118 = .ok (.lastore, 1) := by decide +kernel
theorem dX12_rule_119 : decode cX12_rule 119 = .ok (.aload_n 0, 1) := by decide +kernel
theorem dX12_rule_120 : decode cX12_rule 120 = .ok (.invokevirtual 359, 3) := by decide +kernel
theorem dX12_rule_123 : decode cX12_rule 123 = .ok (.aload_n 0, 1) := by decide +kernel
theorem dX12_rule_124 : decode cX12_rule 124 = .ok (.getfield 214, 3) := by decide +kernel
theorem dX12_rule_127 : decode cX12_rule 127 = .ok (.iload_n 1, 1) := by decide +kernel
theorem dX12_rule_128 : decode cX12_rule 128 = .ok (.iconst 0, 1) := by decide +kernel
theorem dX12_rule_129 : decode cX12_rule 129 = .ok (.iastore, 1) := by decide +kernel
theorem dX12_rule_130 : decode cX12_rule 130 = .ok (.aload_n 0, 1) := by decide +kernel
theorem dX12_rule_131 : decode cX12_rule 131 = .ok (.getfield 220, 3) := by decide +kernel
theorem dX12_rule_134 : decode cX12_rule 134 = .ok (.iload_n 1, 1) := by decide +kernel
theorem dX12_rule_135 : decode cX12_rule 135 = .ok (.iconst (-1), 1) := by decide +kernel
theorem dX12_rule_136 : decode cX12_rule 136 = .ok (.iastore, 1) := by decide +kernel
theorem dX12_rule_137 : decode cX12_rule 137 = .ok (.aload_n 0, 1) := by decide +kernel
theorem dX12_rule_138 : decode cX12_rule 138 = .ok (.getfield 223, 3) := by decide +kernel
theorem dX12_rule_141 : decode cX12_rule 141 = .ok (.iload_n 1, 1) := by decide +kernel
theorem dX12_rule_142 : decode cX12_rule 142 = .ok (.iconst 0, 1) := by decide +kernel
theorem dX12_rule_143 : decode cX12_rule 143 = .ok (.iastore, 1) := by decide +kernel
theorem dX12_rule_144 : decode cX12_rule 144 = .ok (.aload_n 0, 1) := by decide +kernel
theorem dX12_rule_145 : decode cX12_rule 145 = .ok (.getfield 229, 3) := by decide +kernel
theorem dX12_rule_148 : decode cX12_rule 148 = .ok (.iload_n 1, 1) := by decide +kernel
theorem dX12_rule_149 : decode cX12_rule 149 = .ok (.iconst 0, 1) := by decide +kernel
theorem dX12_rule_150 : decode cX12_rule 150 = .ok (.iastore, 1) := by decide +kernel
theorem dX12_rule_151 : decode cX12_rule 151 = .ok (.aload_n 0, 1) := by decide +kernel
theorem dX12_rule_152 : decode cX12_rule 152 = .ok (.getfield 211, 3) := by decide +kernel
theorem dX12_rule_155 : decode cX12_rule 155 = .ok (.iload_n 1, 1) := by decide +kernel
theorem dX12_rule_156 : decode cX12_rule 156 = .ok (.iconst 0, 1) := by decide +kernel
theorem dX12_rule_157 : decode cX12_rule 157 = .ok (.iastore, 1) := by decide +kernel
theorem dX12_rule_158 : decode cX12_rule 158 = .ok (.aload_n 0, 1) := by decide +kernel
theorem dX12_rule_159 : decode cX12_rule 159 = .ok (.getfield 202, 3) := by decide +kernel
theorem dX12_rule_162 : decode cX12_rule 162 = .ok (.iload_n 1, 1) := by decide +kernel
theorem dX12_rule_163 : decode cX12_rule 163 = .ok (.lconst 0, 1) := by decide +kernel
theorem dX12_rule_164 : decode cX12_rule 164 = .ok (.lastore, 1) := by decide +kernel
theorem dX12_rule_165 : decode cX12_rule 165 = .ok (.aload_n 0, 1) := by decide +kernel
theorem dX12_rule_166 : decode cX12_rule 166 = .ok (.iload_n 1, 1) := by decide +kernel
theorem dX12_rule_167 : decode cX12_rule 167 = .ok (.invokevirtual 389, 3) := by decide +kernel
theorem dX12_rule_170 : decode cX12_rule 170 = .ok (.ifCond .ne 5, 3) := by decide +kernel
theorem dX12_rule_173 : decode cX12_rule 173 = .ok (.iconst 0, 1) := by decide +kernel
theorem dX12_rule_174 : decode cX12_rule 174 = .ok (.ireturn, 1) := by decide +kernel
theorem dX12_rule_175 : decode cX12_rule 175 = .ok (.aload_n 0, 1) := by decide +kernel
theorem dX12_rule_176 : decode cX12_rule 176 = .ok (.iconst 1, 1) := by decide +kernel
theorem dX12_rule_177 : decode cX12_rule 177 = .ok (.invokevirtual 353, 3) := by decide +kernel
theorem dX12_rule_180 : decode cX12_rule 180 = .ok (.ifCond .eq 13, 3) := by decide +kernel
theorem dX12_rule_183 : decode cX12_rule 183 = .ok (.aload_n 0, 1) := by decide +kernel
theorem dX12_rule_184 : decode cX12_rule 184 = .ok (.iload_n 1, 1) := by decide +kernel
theorem dX12_rule_185 : decode cX12_rule 185 = .ok (.invokevirtual 392, 3) := by decide +kernel
theorem dX12_rule_188 : decode cX12_rule 188 = .ok (.ifCond .ne 5, 3) := by decide +kernel
theorem dX12_rule_191 : decode cX12_rule 191 = .ok (.iconst 0, 1) := by decide +kernel
theorem dX12_rule_192 : decode cX12_rule 192 = .ok (.ireturn, 1) := by decide +kernel
theorem dX12_rule_193 : decode cX12_rule 193 = .ok (.aload_n 0, 1) := by decide +kernel
theorem dX12_rule_194 : decode cX12_rule 194 = .ok (.iconst 2, 1) := by decide +kernel
theorem dX12_rule_195 : decode cX12_rule 195 = .ok (.invokevirtual 395, 3) := by decide +kernel
theorem dX12_rule_198 : decode cX12_rule 198 = .ok (.ifCond .eq 14, 3) := by decide +kernel
theorem dX12_rule_201 : decode cX12_rule 201 = .ok (.aload_n 0, 1) := by decide +kernel
theorem dX12_rule_202 : decode cX12_rule 202 = .ok (.iconst 1, 1) := by decide +kernel
theorem dX12_rule_203 : decode cX12_rule 203 = .ok (.ldc_w 398, 3) := by decide +kernel
theorem dX12_rule_206 : decode cX12_rule 206 = .ok (.invokevirtual 399, 3) := by decide +kernel
theorem dX12_rule_209 : decode cX12_rule 209 = .ok (.ifCond .ne 5, 3) := by decide +kernel
theorem dX12_rule_212 : decode cX12_rule 212 = .ok (.iconst 0, 1) := by decide +kernel
theorem dX12_rule_213 : decode cX12_rule 213 = .ok (.ireturn, 1) := by decide +kernel
theorem dX12_rule_214 : decode cX12_rule 214 = .ok (.aload_n 0, 1) := by decide +kernel
theorem dX12_rule_215 : decode cX12_rule 215 = .ok (.getfield 226, 3) := by decide +kernel
theorem dX12_rule_218 : decode cX12_rule 218 = .ok (.iload_n 1, 1) := by decide +kernel
theorem dX12_rule_219 : decode cX12_rule 219 = .ok (.aload_n 0, 1) := by decide +kernel
theorem dX12_rule_220 : decode cX12_rule 220 = .ok (.getfield 365, 3) := by decide +kernel
theorem dX12_rule_223 : decode cX12_rule 223 = .ok (.iastore, 1) := by decide +kernel
theorem dX12_rule_224 : decode cX12_rule 224 = .ok (.aload_n 0, 1) := by decide +kernel
theorem dX12_rule_225 : decode cX12_rule 225 = .ok (.iconst 3, 1) := by decide +kernel
theorem dX12_rule_226 : decode cX12_rule 226 = .ok (.invokevirtual 353, 3) := by decide +kernel
theorem dX12_rule_229 : decode cX12_rule 229 = .ok (.ifCond .eq 30, 3) := by decide +kernel
theorem dX12_rule_232 : decode cX12_rule 232 = .ok (.aload_n 0, 1) := by decide +kernel
theorem dX12_rule_233 : decode cX12_rule 233 = .ok (.invokevirtual 359, 3) := by decide +kernel
theorem dX12_rule_236 : decode cX12_rule 236 = .ok (.aload_n 0, 1) := by decide +kernel
theorem dX12_rule_237 : decode cX12_rule 237 = .ok (.iconst 0, 1) := by decide +kernel
theorem dX12_rule_238 : decode cX12_rule 238 = .ok (.ldc_w 398, 3) := by decide +kernel
theorem dX12_rule_241 : decode cX12_rule 241 = .ok (.invokevirtual 399, 3) := by decide +kernel
theorem dX12_rule_244 : decode cX12_rule 244 = .ok (.ifCond .ne 5, 3) := by decide +kernel
theorem dX12_rule_247 : decode cX12_rule 247 = .ok (.iconst 0, 1) := by decide +kernel
theorem dX12_rule_248 : decode cX12_rule 248 = .ok (.ireturn, 1) := by decide +kernel
theorem dX12_rule_249 : decode cX12_rule 249 = .ok (.aload_n 0, 1) := by decide +kernel
theorem dX12_rule_250 : decode cX12_rule 250 = .ok (.getfield 229, 3) := by decide +kernel
theorem dX12_rule_253 : decode cX12_rule 253 = .ok (.iload_n 1, 1) := by decide +kernel
theorem dX12_rule_254 : decode cX12_rule 254 = .ok (.aload_n 0, 1) := by decide +kernel
theorem dX12_rule_255 : decode cX12_rule 255 = .ok (.getfield 365, 3) := by decide +kernel
theorem dX12_rule_258 : decode cX12_rule 258 = .ok (.iastore, 1) := by decide +kernel
theorem dX12_rule_259 : decode cX12_rule 259 = .ok (.aload_n 0, 1) := by decide +kernel
theorem dX12_rule_260 : decode cX12_rule 260 = .ok (.bipush 59, 2) := by decide +kernel
theorem dX12_rule_262 : decode cX12_rule 262 = .ok (.invokevirtual 402, 3) := by decide +kernel
theorem dX12_rule_265 : decode cX12_rule 265 = .ok (.ifCond .ne 5, 3) := by decide +kernel
theorem dX12_rule_268 : decode cX12_rule 268 = .ok (.iconst 0, 1) := by decide +kernel
theorem dX12_rule_269 : decode cX12_rule 269 = .ok (.ireturn, 1) := by decide +kernel
theorem dX12_rule_270 : decode cX12_rule 270 = .ok (.aload_n 0, 1) := by decide +kernel
theorem dX12_rule_271 : decode cX12_rule 271 = .ok (.dup, 1) := by decide +kernel
theorem dX12_rule_272 : decode cX12_rule 272 = .ok (.getfield 371, 3) := by decide +kernel
theorem dX12_rule_275 : decode cX12_rule 275 = .ok (.iconst 1, 1) := by decide +kernel
theorem dX12_rule_276 : decode cX12_rule 276 = .ok (.iadd, 1) := by decide +kernel
theorem dX12_rule_277 : decode cX12_rule 277 = .ok (.putfield 371, 3) := by decide +kernel
theorem dX12_rule_280 : decode cX12_rule 280 = .ok (.iconst 1, 1) := by decide +kernel
theorem dX12_rule_281 : decode cX12_rule 281 = .ok (.ireturn, 1) := by decide +kernel
theorem dX12_readBy_0 : decode cX12_readBy 0 = .ok (.aload_n 0, 1) := by decide +kernel
theorem dX12_readBy_1 : decode cX12_readBy 1 = .ok (.invokevirtual 359, 3) := by decide +kernel
theorem dX12_readBy_4 : decode cX12_readBy 4 = .ok (.aload_n 0, 1) := by decide +kernel
theorem dX12_readBy_5 : decode cX12_readBy 5 = .ok (.invokevirtual 386, 3) := by decide +kernel
theorem dX12_readBy_8 : decode cX12_readBy 8 = .ok (.ifCond .ne 8, 3) := by decide +kernel
theorem dX12_readBy_11 : decode cX12_readBy 11 = .ok (.aload_n 0, 1) := by decide +kernel
theorem dX12_readBy_12 : decode cX12_readBy 12 = .ok (.invokevirtual 356, 3) := by decide +kernel
theorem dX12_readBy_15 : decode cX12_readBy 15 = .ok (.ireturn, 1) := by decide +kernel
theorem dX12_readBy_16 : decode cX12_readBy 16 = .ok (.aload_n 0, 1) := by decide +kernel
theorem dX12_readBy_17 : decode cX12_readBy 17 = .ok (.getfield 223, 3) := by decide +kernel
theorem dX12_readBy_20 : decode cX12_readBy 20 = .ok (.iload_n 1, 1) := by decide +kernel
theorem dX12_readBy_21 : decode cX12_readBy 21 = .ok (.iaload, 1) := by decide +kernel
theorem dX12_readBy_22 : decode cX12_readBy 22 = .ok (.iconst 3, 1) := by decide +kernel
theorem dX12_readBy_23 : decode cX12_readBy 23 = .ok (.if_icmp .ne 13, 3) := by decide +kernel
theorem dX12_readBy_26 : decode cX12_readBy 26 = .ok (.aload_n 0, 1) := by decide +kernel
theorem dX12_readBy_27 : decode cX12_readBy 27 = .ok (.iconst 4, 1) := by decide +kernel
theorem dX12_readBy_28 : decode cX12_readBy 28 = .ok (.aload_n 0, 1) := by decide +kernel
theorem dX12_readBy_29 : decode cX12_readBy 29 = .ok (.getfield 313, 3) := by decide +kernel
theorem dX12_readBy_32 : decode cX12_readBy 32 = .ok (.invokevirtual 111, 3) := by decide +kernel
theorem dX12_readBy_35 : decode cX12_readBy 35 = .ok (.ireturn, 1) := by decide +kernel
theorem dX12_readBy_36 : decode cX12_readBy 36 = .ok (.iconst 0, 1) := by decide +kernel
theorem dX12_readBy_37 : decode cX12_readBy 37 = .ok (.istore_n 2, 1) := by decide +kernel
theorem dX12_readBy_38 : decode cX12_readBy 38 = .ok (.iload_n 2, 1) := by decide +kernel
theorem dX12_readBy_39 : decode cX12_readBy 39 = .ok (.aload_n 0, 1) := by decide +kernel
theorem dX12_readBy_40 : decode cX12_readBy 40 = .ok (.getfield 223, 3) := by decide +kernel
theorem dX12_readBy_43 : decode cX12_readBy 43 = .ok (.iload_n 1, 1) := by decide +kernel
theorem dX12_readBy_44 : decode cX12_readBy 44 = .ok (.iaload, 1) := by decide +kernel
theorem dX12_readBy_45 : decode cX12_readBy 45 = .ok (.if_icmp .ge 37, 3) := by decide +kernel
theorem dX12_readBy_48 : decode cX12_readBy 48 = .ok (.aload_n 0, 1) := by decide +kernel
theorem dX12_readBy_49 : decode cX12_readBy 49 = .ok (.getfield 205, 3) := by decide +kernel
theorem dX12_readBy_52 : decode cX12_readBy 52 = .ok (.iconst 3, 1) := by decide +kernel
theorem dX12_readBy_53 : decode cX12_readBy 53 = .ok (.iload_n 1, 1) := by decide +kernel
theorem dX12_readBy_54 : decode cX12_readBy 54 = .ok (.imul, 1) := by decide +kernel
theorem dX12_readBy_55 : decode cX12_readBy 55 = .ok (.iload_n 2, 1) := by decide +kernel
theorem dX12_readBy_56 : decode cX12_readBy 56 = .ok (.iadd, 1) := by decide +kernel
theorem dX12_readBy_57 : decode cX12_readBy 57 = .ok (.laload, 1) := by decide +kernel
theorem dX12_readBy_58 : decode cX12_readBy 58 = .ok (.aload_n 0, 1) := by decide +kernel
theorem dX12_readBy_59 : decode cX12_readBy 59 = .ok (.getfield 337, 3) := by decide +kernel
theorem dX12_readBy_62 : decode cX12_readBy 62 = .ok (.lcmp, 1) := by decide +kernel
theorem dX12_readBy_63 : decode cX12_readBy 63 = .ok (.ifCond .ne 13, 3) := by decide +kernel
theorem dX12_readBy_66 : decode cX12_readBy 66 = .ok (.aload_n 0, 1) := by decide +kernel
theorem dX12_readBy_67 : decode cX12_readBy 67 = .ok (.iconst 5, 1) := by decide +kernel
theorem dX12_readBy_68 : decode cX12_readBy 68 = .ok (.aload_n 0, 1) := by decide +kernel
theorem dX12_readBy_69 : decode cX12_readBy 69 = .ok (.getfield 313, 3) := by decide +kernel
theorem dX12_readBy_72 : decode cX12_readBy 72 = .ok (.invokevirtual 111, 3) := by decide +kernel
theorem dX12_readBy_75 : decode cX12_readBy 75 = .ok (.ireturn, 1) := by decide +kernel
theorem dX12_readBy_76 : decode cX12_readBy 76 = .ok (.iinc 2 1, 3) := by decide +kernel
theorem dX12_readBy_79 : decode cX12_readBy 79 = .ok (.goto (-41), 3) := by decide +kernel
theorem dX12_readBy_82 : decode cX12_readBy 82 = .ok (.aload_n 0, 1) := by decide +kernel
theorem dX12_readBy_83 : decode cX12_readBy 83 = .ok (.getfield 205, 3) := by decide +kernel
theorem dX12_readBy_86 : decode cX12_readBy 86 = .ok (.iconst 3, 1) := by decide +kernel
theorem dX12_readBy_87 : decode cX12_readBy 87 = .ok (.iload_n 1, 1) := by decide +kernel
theorem dX12_readBy_88 : decode cX12_readBy 88 = .ok (.imul, 1) := by decide +kernel
theorem dX12_readBy_89 : decode cX12_readBy 89 = .ok (.aload_n 0, 1) := by decide +kernel
theorem dX12_readBy_90 : decode cX12_readBy 90 = .ok (.getfield 223, 3) := by decide +kernel
theorem dX12_readBy_93 : decode cX12_readBy 93 = .ok (.iload_n 1, 1) := by decide +kernel
theorem dX12_readBy_94 : decode cX12_readBy 94 = .ok (.iaload, 1) := by decide +kernel
theorem dX12_readBy_95 : decode cX12_readBy 95 = .ok (.iadd, 1) := by decide +kernel
theorem dX12_readBy_96 : decode cX12_readBy 96 = .ok (.aload_n 0, 1) := by decide +kernel
theorem dX12_readBy_97 : decode cX12_readBy 97 = .ok (.getfield 337, 3) := by decide +kernel
theorem dX12_readBy_100 : decode cX12_readBy 100 = .ok (.lastore, 1) := by decide +kernel
theorem dX12_readBy_101 : decode cX12_readBy 101 = .ok (.aload_n 0, 1) := by decide +kernel
theorem dX12_readBy_102 : decode cX12_readBy 102 = .ok (.getfield 223, 3) := by decide +kernel
theorem dX12_readBy_105 : decode cX12_readBy 105 = .ok (.iload_n 1, 1) := by decide +kernel
theorem dX12_readBy_106 : decode cX12_readBy 106 = .ok (.dup2, 1) := by decide +kernel
theorem dX12_readBy_107 : decode cX12_readBy 107 = .ok (.iaload, 1) := by decide +kernel
theorem dX12_readBy_108 : decode cX12_readBy 108 = .ok (.iconst 1, 1) := by decide +kernel
theorem dX12_readBy_109 : decode cX12_readBy 109 = .ok (.iadd, 1) := by decide +kernel
theorem dX12_readBy_110 : decode cX12_readBy 110 = .ok (.iastore, 1) := by decide +kernel
theorem dX12_readBy_111 : decode cX12_readBy 111 = .ok (.aload_n 0, 1) := by decide +kernel
theorem dX12_readBy_112 : decode cX12_readBy 112 = .ok (.invokevirtual 359, 3) := by decide +kernel
theorem dX12_readBy_115 : decode cX12_readBy 115 = .ok (.aload_n 0, 1) := by decide +kernel
theorem dX12_readBy_116 : decode cX12_readBy 116 = .ok (.bipush 44, 2) := by decide +kernel
theorem dX12_readBy_118 : decode cX12_readBy 118 = .ok (.invokevirtual 362, 3) := by decide +kernel
theorem dX12_readBy_121 : decode cX12_readBy 121 = .ok (.ifCond .ne (-121), 3) := by decide +kernel
theorem dX12_readBy_124 : decode cX12_readBy 124 = .ok (.iconst 1, 1) := by decide +kernel
theorem dX12_readBy_125 : decode cX12_readBy 125 = .ok (.ireturn, 1) := by decide +kernel
theorem dX12_readWhat_0 : decode cX12_readWhat 0 = .ok (.aload_n 0, 1) := by decide +kernel
theorem dX12_readWhat_1 : decode cX12_readWhat 1 = .ok (.iconst 4, 1) := by decide +kernel
theorem dX12_readWhat_2 : decode cX12_readWhat 2 = .ok (.invokevirtual 353, 3) := by decide +kernel
theorem dX12_readWhat_5 : decode cX12_readWhat 5 = .ok (.ifCond .ne 21, 3) := by decide +kernel
theorem dX12_readWhat_8 : decode cX12_readWhat 8 = .ok (.aload_n 0, 1) := by decide +kernel
theorem dX12_readWhat_9 : decode cX12_readWhat 9 = .ok (.bipush 6, 2) := by decide +kernel
theorem dX12_readWhat_11 : decode cX12_readWhat 11 = .ok (.invokevirtual 353, 3) := by decide +kernel
theorem dX12_readWhat_14 : decode cX12_readWhat 14 = .ok (.ifCond .ne 12, 3) := by decide +kernel
theorem dX12_readWhat_17 : decode cX12_readWhat 17 = .ok (.aload_n 0, 1) := by decide +kernel
theorem dX12_readWhat_18 : decode cX12_readWhat 18 = .ok (.bipush 7, 2) := by decide +kernel
theorem dX12_readWhat_20 : decode cX12_readWhat 20 = .ok (.invokevirtual 353, 3) := by decide +kernel
theorem dX12_readWhat_23 : decode cX12_readWhat 23 = .ok (.ifCond .eq 135, 3) := by decide +kernel
theorem dX12_readWhat_26 : decode cX12_readWhat 26 = .ok (.aload_n 0, 1) := by decide +kernel
theorem dX12_readWhat_27 : decode cX12_readWhat 27 = .ok (.getfield 208, 3) := by decide +kernel
theorem dX12_readWhat_30 : decode cX12_readWhat 30 = .ok (.iload_n 1, 1) := by decide +kernel
theorem dX12_readWhat_31 : decode cX12_readWhat 31 = .ok (.aload_n 0, 1) := by decide +kernel
theorem dX12_readWhat_32 : decode cX12_readWhat 32 = .ok (.iconst 4, 1) := by decide +kernel
theorem dX12_readWhat_33 : decode cX12_readWhat 33 = .ok (.invokevirtual 353, 3) := by decide +kernel
theorem dX12_readWhat_36 : decode cX12_readWhat 36 = .ok (.ifCond .eq 7, 3) := by decide +kernel
theorem dX12_readWhat_39 : decode cX12_readWhat 39 = .ok (.iconst 0, 1) := by decide +kernel
theorem dX12_readWhat_40 : decode cX12_readWhat 40 = .ok (.goto 17, 3) := by decide +kernel
theorem dX12_readWhat_43 : decode cX12_readWhat 43 = .ok (.aload_n 0, 1) := by decide +kernel
theorem dX12_readWhat_44 : decode cX12_readWhat 44 = .ok (.bipush 6, 2) := by decide +kernel
theorem dX12_readWhat_46 : decode cX12_readWhat 46 = .ok (.invokevirtual 353, 3) := by decide +kernel
theorem dX12_readWhat_49 : decode cX12_readWhat 49 = .ok (.ifCond .eq 7, 3) := by decide +kernel
theorem dX12_readWhat_52 : decode cX12_readWhat 52 = .ok (.iconst 1, 1) := by decide +kernel
theorem dX12_readWhat_53 : decode cX12_readWhat 53 = .ok (.goto 4, 3) := by decide +kernel
